theorem dX12_thrown_0 : decode (mC mX12_thrown) 0 = .ok (.aload_n 0, 1) := by decide +kernel
theorem dX12_thrown_1 : decode (mC mX12_thrown) 1 = .ok (.getfield 3, 3) := by decide +kernel
theorem dX12_thrown_4 : decode (mC mX12_thrown) 4 = .ok (.ireturn, 1) := by decide +kernel
set_option maxRecDepth 100000 in
theorem bX12_thrown_0 {sc : Nat × (Nat → Int32)} {h : jH} {Q : jQ}
    (v1 : Q (.inl (some (.int (h 159 0)))) (jG0 sc) h) :
    WP mX12_thrown Q 0 [some (.ref 159)] [] (jG0 sc) h (0, 0) := by
  refine j_aload_n (i := 0) rfl dX12_thrown_0 ?_
  refine j_getI (idx := 3) (ci := 12) (k := 0) (nest := false) (show (12, 3, 12, 0, false) ∈ jFT by decide) rfl (Nat.le_of_ble_eq_true rfl) rfl dX12_thrown_1 ?_
  exact j_iret rfl rfl (Nat.zero_le _) (Nat.zero_le _) dX12_thrown_4 v1
set_option maxRecDepth 100000 in
theorem rX12_thrown_0 {sc : Nat × (Nat → Int32)} {h : jH} {Q : jQ}
    (v1 : Q (.inl (some (.int (h 159 0)))) (jG0 sc) h) :
    WP mX12_thrown Q 0 [some (.ref 159)] [] (jG0 sc) h (0, 0) := by
  exact (bX12_thrown_0 v1)
theorem dX12_throwsIf_0 : decode (mC mX12_throwsIf) 0 = .ok (.iload_n 1, 1) := by decide +kernel
theorem dX12_throwsIf_1 : decode (mC mX12_throwsIf) 1 = .ok (.ifCond .eq 8, 3) := by decide +kernel
theorem dX12_throwsIf_4 : decode (mC mX12_throwsIf) 4 = .ok (.aload_n 0, 1) := by decide +kernel
theorem dX12_throwsIf_5 : decode (mC mX12_throwsIf) 5 = .ok (.iload_n 2, 1) := by decide +kernel
theorem dX12_throwsIf_6 : decode (mC mX12_throwsIf) 6 = .ok (.putfield 3, 3) := by decide +kernel
theorem dX12_throwsIf_9 : decode (mC mX12_throwsIf) 9 = .ok (.iload_n 1, 1) := by decide +kernel
theorem dX12_throwsIf_10 : decode (mC mX12_throwsIf) 10 = .ok (.ireturn, 1) := by decide +kernel
set_option maxRecDepth 100000 in
theorem bX12_throwsIf_0 {sc : Nat × (Nat → Int32)} {h : jH} {Q : jQ} {l1 l2 : Int32}
    (v1 : l1 = 0 → WP mX12_throwsIf Q 9 [some (.ref 159), some (.int l1), some (.int l2)] [] (jG0 sc) h (0, 0))
    (v2 : ¬ l1 = 0 → WP mX12_throwsIf Q 4 [some (.ref 159), some (.int l1), some (.int l2)] [] (jG0 sc) h (0, 0)) :
    WP mX12_throwsIf Q 0 [some (.ref 159), some (.int l1), some (.int l2)] [] (jG0 sc) h (0, 0) := by
  refine j_iload_n (i := 1) rfl dX12_throwsIf_0 ?_
  refine j_if_eq (off := 8) 9 dX12_throwsIf_1 (by decide) (fun c1 => ?_) (fun c1 => ?_)
  · exact j_le [some (.ref 159), some (.int l1), some (.int l2)] (And.intro rfl (And.intro rfl (And.intro rfl True.intro))) (v1 c1)
  · exact j_le [some (.ref 159), some (.int l1), some (.int l2)] (And.intro rfl (And.intro rfl (And.intro rfl True.intro))) (v2 c1)
set_option maxRecDepth 100000 in
theorem bX12_throwsIf_4 {sc : Nat × (Nat → Int32)} {h : jH} {Q : jQ} {l1 l2 : Int32}
    (v1 : WP mX12_throwsIf Q 9 [some (.ref 159), some (.int l1), some (.int l2)] [] (jG0 sc) (jput h 159 0 l2) (0, 0)) :
    WP mX12_throwsIf Q 4 [some (.ref 159), some (.int l1), some (.int l2)] [] (jG0 sc) h (0, 0) := by
  refine j_aload_n (i := 0) rfl dX12_throwsIf_4 ?_
  refine j_iload_n (i := 2) rfl dX12_throwsIf_5 ?_
  refine j_putI (idx := 3) (ci := 12) (k := 0) (nest := false) (show (12, 3, 12, 0, false) ∈ jFT by decide) rfl rfl rfl rfl (Nat.le_of_ble_eq_true rfl) rfl dX12_throwsIf_6 ?_
  exact j_le [some (.ref 159), some (.int l1), some (.int l2)] (And.intro rfl (And.intro rfl (And.intro rfl True.intro))) v1
set_option maxRecDepth 100000 in
theorem bX12_throwsIf_9 {sc : Nat × (Nat → Int32)} {h : jH} {Q : jQ} {l1 l2 : Int32}
    (o1 : l1 = 0 ∨ l1 = 1)
    (v1 : Q (.inl (some (.int l1))) (jG0 sc) h) :
    WP mX12_throwsIf Q 9 [some (.ref 159), some (.int l1), some (.int l2)] [] (jG0 sc) h (0, 0) := by
  refine j_iload_n (i := 1) rfl dX12_throwsIf_9 ?_
  exact j_iret rfl (jbn o1) (Nat.zero_le _) (Nat.zero_le _) dX12_throwsIf_10 v1
set_option maxRecDepth 100000 in
theorem rX12_throwsIf_0 {sc : Nat × (Nat → Int32)} {h : jH} {Q : jQ} {l1 l2 : Int32}
    (o1 : l1 = 0 → l1 = 0 ∨ l1 = 1)
    (v1 : l1 = 0 → Q (.inl (some (.int l1))) (jG0 sc) h)
    (o2 : ¬ l1 = 0 → l1 = 0 ∨ l1 = 1)
    (v2 : ¬ l1 = 0 → Q (.inl (some (.int l1))) (jG0 sc) (jput h 159 0 l2)) :
    WP mX12_throwsIf Q 0 [some (.ref 159), some (.int l1), some (.int l2)] [] (jG0 sc) h (0, 0) := by
  exact (bX12_throwsIf_0 (fun c1 => (bX12_throwsIf_9 (o1 c1) (v1 c1))) (fun c1 => (bX12_throwsIf_4 (bX12_throwsIf_9 (o2 c1) (v2 c1)))))
theorem dX12_in_0 : decode (mC mX12_in) 0 = .ok (.iload_n 0, 1) := by decide +kernel
theorem dX12_in_1 : decode (mC mX12_in) 1 = .ok (.iload_n 1, 1) := by decide +kernel
theorem dX12_in_2 : decode (mC mX12_in) 2 = .ok (.if_icmp .lt 12, 3) := by decide +kernel
theorem dX12_in_5 : decode (mC mX12_in) 5 = .ok (.iload_n 0, 1) := by decide +kernel
theorem dX12_in_6 : decode (mC mX12_in) 6 = .ok (.iload_n 2, 1) := by decide +kernel
theorem dX12_in_7 : decode (mC mX12_in) 7 = .ok (.if_icmp .gt 7, 3) := by decide +kernel
theorem dX12_in_10 : decode (mC mX12_in) 10 = .ok (.iconst 1, 1) := by decide +kernel
theorem dX12_in_11 : decode (mC mX12_in) 11 = .ok (.goto 4, 3) := by decide +kernel
theorem dX12_in_14 : decode (mC mX12_in) 14 = .ok (.iconst 0, 1) := by decide +kernel
theorem dX12_in_15 : decode (mC mX12_in) 15 = .ok (.ireturn, 1) := by decide +kernel
set_option maxRecDepth 100000 in
theorem bX12_in_0 {sc : Nat × (Nat → Int32)} {h : jH} {Q : jQ} {l0 l1 l2 : Int32}
    (v1 : l0 < l1 → WP mX12_in Q 14 [some (.int l0), some (.int l1), some (.int l2)] [] (jG0 sc) h (0, 0))
    (v2 : ¬ l0 < l1 → WP mX12_in Q 5 [some (.int l0), some (.int l1), some (.int l2)] [] (jG0 sc) h (0, 0)) :
    WP mX12_in Q 0 [some (.int l0), some (.int l1), some (.int l2)] [] (jG0 sc) h (0, 0) := by
  refine j_iload_n (i := 0) rfl dX12_in_0 ?_
  refine j_iload_n (i := 1) rfl dX12_in_1 ?_
  refine j_icmp_lt (off := 12) 14 dX12_in_2 (by decide) (fun c1 => ?_) (fun c1 => ?_)
  · exact j_le [some (.int l0), some (.int l1), some (.int l2)] (And.intro rfl (And.intro rfl (And.intro rfl True.intro))) (v1 c1)
  · exact j_le [some (.int l0), some (.int l1), some (.int l2)] (And.intro rfl (And.intro rfl (And.intro rfl True.intro))) (v2 c1)
set_option maxRecDepth 100000 in
theorem bX12_in_5 {sc : Nat × (Nat → Int32)} {h : jH} {Q : jQ} {l0 l1 l2 : Int32}
    (v1 : l2 < l0 → WP mX12_in Q 14 [some (.int l0), some (.int l1), some (.int l2)] [] (jG0 sc) h (0, 0))
    (v2 : ¬ l2 < l0 → WP mX12_in Q 10 [some (.int l0), some (.int l1), some (.int l2)] [] (jG0 sc) h (0, 0)) :
    WP mX12_in Q 5 [some (.int l0), some (.int l1), some (.int l2)] [] (jG0 sc) h (0, 0) := by
  refine j_iload_n (i := 0) rfl dX12_in_5 ?_
  refine j_iload_n (i := 2) rfl dX12_in_6 ?_
  refine j_icmp_gt (off := 7) 14 dX12_in_7 (by decide) (fun c1 => ?_) (fun c1 => ?_)
  · exact j_le [some (.int l0), some (.int l1), some (.int l2)] (And.intro rfl (And.intro rfl (And.intro rfl True.intro))) (v1 c1)
  · exact j_le [some (.int l0), some (.int l1), some (.int l2)] (And.intro rfl (And.intro rfl (And.intro rfl True.intro))) (v2 c1)
set_option maxRecDepth 100000 in
theorem bX12_in_10 {sc : Nat × (Nat → Int32)} {h : jH} {Q : jQ} {l0 l1 l2 : Int32}
    (v1 : WP mX12_in Q 15 [some (.int l0), some (.int l1), some (.int l2)] [.int 1] (jG0 sc) h (0, 0)) :
    WP mX12_in Q 10 [some (.int l0), some (.int l1), some (.int l2)] [] (jG0 sc) h (0, 0) := by
  refine j_iconst (n := 1) 1 (by decide) dX12_in_10 ?_
  refine j_goto (off := 4) 15 dX12_in_11 (by decide) ?_
  exact j_le [some (.int l0), some (.int l1), some (.int l2)] (And.intro rfl (And.intro rfl (And.intro rfl True.intro))) v1
set_option maxRecDepth 100000 in
theorem bX12_in_14 {sc : Nat × (Nat → Int32)} {h : jH} {Q : jQ} {l0 l1 l2 : Int32}
    (v1 : WP mX12_in Q 15 [some (.int l0), some (.int l1), some (.int l2)] [.int 0] (jG0 sc) h (0, 0)) :
    WP mX12_in Q 14 [some (.int l0), some (.int l1), some (.int l2)] [] (jG0 sc) h (0, 0) := by
  refine j_iconst (n := 0) 0 (by decide) dX12_in_14 ?_
  exact j_le [some (.int l0), some (.int l1), some (.int l2)] (And.intro rfl (And.intro rfl (And.intro rfl True.intro))) v1
set_option maxRecDepth 100000 in
theorem bX12_in_15 {sc : Nat × (Nat → Int32)} {h : jH} {Q : jQ} {l0 l1 l2 s0 : Int32}
    (o1 : s0 = 0 ∨ s0 = 1)
    (v1 : Q (.inl (some (.int s0))) (jG0 sc) h) :
    WP mX12_in Q 15 [some (.int l0), some (.int l1), some (.int l2)] [.int s0] (jG0 sc) h (0, 0) := by
  exact j_iret rfl (jbn o1) (Nat.zero_le _) (Nat.zero_le _) dX12_in_15 v1
set_option maxRecDepth 100000 in
theorem rX12_in_0 {sc : Nat × (Nat → Int32)} {h : jH} {Q : jQ} {l0 l1 l2 : Int32}
    (v1 : l0 < l1 → Q (.inl (some (.int 0))) (jG0 sc) h)
    (v2 : ¬ l0 < l1 → l2 < l0 → Q (.inl (some (.int 0))) (jG0 sc) h)
    (v3 : ¬ l0 < l1 → ¬ l2 < l0 → Q (.inl (some (.int 1))) (jG0 sc) h) :
    WP mX12_in Q 0 [some (.int l0), some (.int l1), some (.int l2)] [] (jG0 sc) h (0, 0) := by
  exact (bX12_in_0 (fun c1 => (bX12_in_14 (bX12_in_15 (by decide) (v1 c1)))) (fun c1 => (bX12_in_5 (fun c2 => (bX12_in_14 (bX12_in_15 (by decide) (v2 c1 c2)))) (fun c2 => (bX12_in_10 (bX12_in_15 (by decide) (v3 c1 c2)))))))
theorem dX12_image_0 : decode (mC mX12_image) 0 = .ok (.aload_n 0, 1) := by decide +kernel
theorem dX12_image_1 : decode (mC mX12_image) 1 = .ok (.iconst 0, 1) := by decide +kernel
theorem dX12_image_2 : decode (mC mX12_image) 2 = .ok (.putfield 3, 3) := by decide +kernel
theorem dX12_image_5 : decode (mC mX12_image) 5 = .ok (.iconst 0, 1) := by decide +kernel
theorem dX12_image_6 : decode (mC mX12_image) 6 = .ok (.istore_n 1, 1) := by decide +kernel
theorem dX12_image_7 : decode (mC mX12_image) 7 = .ok (.iload_n 1, 1) := by decide +kernel
theorem dX12_image_8 : decode (mC mX12_image) 8 = .ok (.sipush 1454, 3) := by decide +kernel
theorem dX12_image_11 : decode (mC mX12_image) 11 = .ok (.if_icmp .ge 21, 3) := by decide +kernel
theorem dX12_image_14 : decode (mC mX12_image) 14 = .ok (.aload_n 0, 1) := by decide +kernel
theorem dX12_image_15 : decode (mC mX12_image) 15 = .ok (.getfield 17, 3) := by decide +kernel
theorem dX12_image_18 : decode (mC mX12_image) 18 = .ok (.iload_n 1, 1) := by decide +kernel
theorem dX12_image_19 : decode (mC mX12_image) 19 = .ok (.aload_n 0, 1) := by decide +kernel
theorem dX12_image_20 : decode (mC mX12_image) 20 = .ok (.getfield 13, 3) := by decide +kernel
theorem dX12_image_23 : decode (mC mX12_image) 23 = .ok (.iload_n 1, 1) := by decide +kernel
theorem dX12_image_24 : decode (mC mX12_image) 24 = .ok (.iaload, 1) := by decide +kernel
theorem dX12_image_25 : decode (mC mX12_image) 25 = .ok (.iastore, 1) := by decide +kernel
theorem dX12_image_26 : decode (mC mX12_image) 26 = .ok (.iinc 1 1, 3) := by decide +kernel
theorem dX12_image_29 : decode (mC mX12_image) 29 = .ok (.goto (-22), 3) := by decide +kernel
theorem dX12_image_32 : decode (mC mX12_image) 32 = .ok (.aload_n 0, 1) := by decide +kernel
theorem dX12_image_33 : decode (mC mX12_image) 33 = .ok (.iconst 1, 1) := by decide +kernel
theorem dX12_image_34 : decode (mC mX12_image) 34 = .ok (.putfield 75, 3) := by decide +kernel
theorem dX12_image_37 : decode (mC mX12_image) 37 = .ok (.return_, 1) := by decide +kernel
set_option maxRecDepth 100000 in
theorem bX12_image_0 {sc : Nat × (Nat → Int32)} {h : jH} {Q : jQ}
    (v1 : WP mX12_image Q 7 [some (.ref 159), some (.int 0)] [] (jG0 sc) (jput h 159 0 0) (0, 0)) :
    WP mX12_image Q 0 [some (.ref 159), none] [] (jG0 sc) h (0, 0) := by
  refine j_aload_n (i := 0) rfl dX12_image_0 ?_
  refine j_iconst (n := 0) 0 (by decide) dX12_image_1 ?_
  refine j_putI (idx := 3) (ci := 12) (k := 0) (nest := false) (show (12, 3, 12, 0, false) ∈ jFT by decide) rfl rfl rfl rfl (Nat.le_of_ble_eq_true rfl) rfl dX12_image_2 ?_
  refine j_iconst (n := 0) 0 (by decide) dX12_image_5 ?_
  refine j_istore_n (i := 1) dX12_image_6 (Nat.le_of_ble_eq_true rfl) ?_
  exact j_le [some (.ref 159), some (.int 0)] (And.intro rfl (And.intro rfl True.intro)) v1
set_option maxRecDepth 100000 in
theorem bX12_image_7 {sc : Nat × (Nat → Int32)} {h : jH} {Q : jQ} {l1 : Int32}
    (v1 : 1454 ≤ l1 → WP mX12_image Q 32 [some (.ref 159), some (.int l1)] [] (jG0 sc) h (0, 0))
    (v2 : ¬ 1454 ≤ l1 → WP mX12_image Q 14 [some (.ref 159), some (.int l1)] [] (jG0 sc) h (0, 0)) :
    WP mX12_image Q 7 [some (.ref 159), some (.int l1)] [] (jG0 sc) h (0, 0) := by
  refine j_iload_n (i := 1) rfl dX12_image_7 ?_
  refine j_sipush (n := 1454) 1454 (by decide) dX12_image_8 ?_
  refine j_icmp_ge (off := 21) 32 dX12_image_11 (by decide) (fun c1 => ?_) (fun c1 => ?_)
  · exact j_le [some (.ref 159), some (.int l1)] (And.intro rfl (And.intro rfl True.intro)) (v1 c1)
  · exact j_le [some (.ref 159), some (.int l1)] (And.intro rfl (And.intro rfl True.intro)) (v2 c1)
set_option maxRecDepth 100000 in
theorem bX12_image_14 {sc : Nat × (Nat → Int32)} {h : jH} {Q : jQ} {l1 : Int32}
    (o1 : vp_in l1 1454)
    (o2 : vp_in l1 1454)
    (v1 : WP mX12_image Q 7 [some (.ref 159), some (.int (l1 + 1))] [] (jG0 sc) (jput h 161 l1.toNatClampNeg (h 160 l1.toNatClampNeg)) (0, 0)) :
    WP mX12_image Q 14 [some (.ref 159), some (.int l1)] [] (jG0 sc) h (0, 0) := by
  refine j_aload_n (i := 0) rfl dX12_image_14 ?_
  refine j_getR (idx := 17) (ci := 12) (k := 2) (nest := false) (show (12, 17, 12, 2, false) ∈ jFT by decide) rfl (Nat.le_of_ble_eq_true rfl) rfl (a := 161) rfl dX12_image_15 ?_
  refine j_iload_n (i := 1) rfl dX12_image_18 ?_
  refine j_aload_n (i := 0) rfl dX12_image_19 ?_
  refine j_getR (idx := 13) (ci := 12) (k := 1) (nest := false) (show (12, 13, 12, 1, false) ∈ jFT by decide) rfl (Nat.le_of_ble_eq_true rfl) rfl (a := 160) rfl dX12_image_20 ?_
  refine j_iload_n (i := 1) rfl dX12_image_23 ?_
  refine j_iald (Nat.le_of_ble_eq_true rfl) rfl o1 dX12_image_24 ?_
  refine j_iast (Nat.le_of_ble_eq_true rfl) rfl o2 dX12_image_25 ?_
  refine j_iinc (i := 1) (n := 1) rfl dX12_image_26 (Nat.le_of_ble_eq_true rfl) ?_
  refine j_eqlv [some (.ref 159), some (.int (l1 + 1))] rfl ?_
  refine j_goto (off := -22) 7 dX12_image_29 (by decide) ?_
  exact j_le [some (.ref 159), some (.int (l1 + 1))] (And.intro rfl (And.intro rfl True.intro)) v1
set_option maxRecDepth 100000 in
theorem bX12_image_32 {sc : Nat × (Nat → Int32)} {h : jH} {Q : jQ} {l1 : Int32}
    (v1 : Q (.inl none) (jG0 sc) (jput h 159 3 1)) :
    WP mX12_image Q 32 [some (.ref 159), some (.int l1)] [] (jG0 sc) h (0, 0) := by
  refine j_aload_n (i := 0) rfl dX12_image_32 ?_
  refine j_iconst (n := 1) 1 (by decide) dX12_image_33 ?_
  refine j_putI (idx := 75) (ci := 12) (k := 3) (nest := false) (show (12, 75, 12, 3, false) ∈ jFT by decide) rfl rfl rfl rfl (Nat.le_of_ble_eq_true rfl) rfl dX12_image_34 ?_
  exact j_vret rfl (Nat.zero_le _) (Nat.zero_le _) dX12_image_37 v1
set_option maxRecDepth 100000 in
theorem rX12_image_0 {sc : Nat × (Nat → Int32)} {h : jH} {Q : jQ}
    (v1 : WP mX12_image Q 7 [some (.ref 159), some (.int 0)] [] (jG0 sc) (jput h 159 0 0) (0, 0)) :
    WP mX12_image Q 0 [some (.ref 159), none] [] (jG0 sc) h (0, 0) := by
  exact (bX12_image_0 v1)
set_option maxRecDepth 100000 in
theorem rX12_image_7 {sc : Nat × (Nat → Int32)} {h : jH} {Q : jQ} {l1 : Int32}
    (v1 : 1454 ≤ l1 → Q (.inl none) (jG0 sc) (jput h 159 3 1))
    (o1 : ¬ 1454 ≤ l1 → vp_in l1 1454)
    (v2 : ¬ 1454 ≤ l1 → WP mX12_image Q 7 [some (.ref 159), some (.int (l1 + 1))] [] (jG0 sc) (jput h 161 l1.toNatClampNeg (h 160 l1.toNatClampNeg)) (0, 0)) :
    WP mX12_image Q 7 [some (.ref 159), some (.int l1)] [] (jG0 sc) h (0, 0) := by
  exact (bX12_image_7 (fun c1 => (bX12_image_32 (v1 c1))) (fun c1 => (bX12_image_14 (o1 c1) (o1 c1) (v2 c1))))
theorem dX12_back_0 : decode (mC mX12_back) 0 = .ok (.aload_n 0, 1) := by decide +kernel
theorem dX12_back_1 : decode (mC mX12_back) 1 = .ok (.iconst 0, 1) := by decide +kernel
theorem dX12_back_2 : decode (mC mX12_back) 2 = .ok (.putfield 3, 3) := by decide +kernel
theorem dX12_back_5 : decode (mC mX12_back) 5 = .ok (.aload_n 0, 1) := by decide +kernel
theorem dX12_back_6 : decode (mC mX12_back) 6 = .ok (.getfield 75, 3) := by decide +kernel
theorem dX12_back_9 : decode (mC mX12_back) 9 = .ok (.ifCond .ne 5, 3) := by decide +kernel
theorem dX12_back_12 : decode (mC mX12_back) 12 = .ok (.iconst 0, 1) := by decide +kernel
theorem dX12_back_13 : decode (mC mX12_back) 13 = .ok (.ireturn, 1) := by decide +kernel
theorem dX12_back_14 : decode (mC mX12_back) 14 = .ok (.iconst 0, 1) := by decide +kernel
theorem dX12_back_15 : decode (mC mX12_back) 15 = .ok (.istore_n 1, 1) := by decide +kernel
theorem dX12_back_16 : decode (mC mX12_back) 16 = .ok (.iload_n 1, 1) := by decide +kernel
theorem dX12_back_17 : decode (mC mX12_back) 17 = .ok (.sipush 1454, 3) := by decide +kernel
theorem dX12_back_20 : decode (mC mX12_back) 20 = .ok (.if_icmp .ge 21, 3) := by decide +kernel
theorem dX12_back_23 : decode (mC mX12_back) 23 = .ok (.aload_n 0, 1) := by decide +kernel
theorem dX12_back_24 : decode (mC mX12_back) 24 = .ok (.getfield 13, 3) := by decide +kernel
theorem dX12_back_27 : decode (mC mX12_back) 27 = .ok (.iload_n 1, 1) := by decide +kernel
theorem dX12_back_28 : decode (mC mX12_back) 28 = .ok (.aload_n 0, 1) := by decide +kernel
theorem dX12_back_29 : decode (mC mX12_back) 29 = .ok (.getfield 17, 3) := by decide +kernel
theorem dX12_back_32 : decode (mC mX12_back) 32 = .ok (.iload_n 1, 1) := by decide +kernel
theorem dX12_back_33 : decode (mC mX12_back) 33 = .ok (.iaload, 1) := by decide +kernel
theorem dX12_back_34 : decode (mC mX12_back) 34 = .ok (.iastore, 1) := by decide +kernel
theorem dX12_back_35 : decode (mC mX12_back) 35 = .ok (.iinc 1 1, 3) := by decide +kernel
theorem dX12_back_38 : decode (mC mX12_back) 38 = .ok (.goto (-22), 3) := by decide +kernel
theorem dX12_back_41 : decode (mC mX12_back) 41 = .ok (.iconst 1, 1) := by decide +kernel
theorem dX12_back_42 : decode (mC mX12_back) 42 = .ok (.ireturn, 1) := by decide +kernel
set_option maxRecDepth 100000 in
theorem bX12_back_0 {sc : Nat × (Nat → Int32)} {h : jH} {Q : jQ}
    (v1 : ¬ ((jput h 159 0 0) 159 3) = 0 → WP mX12_back Q 14 [some (.ref 159), none] [] (jG0 sc) (jput h 159 0 0) (0, 0))
    (v2 : ((jput h 159 0 0) 159 3) = 0 → WP mX12_back Q 12 [some (.ref 159), none] [] (jG0 sc) (jput h 159 0 0) (0, 0)) :
    WP mX12_back Q 0 [some (.ref 159), none] [] (jG0 sc) h (0, 0) := by
  refine j_aload_n (i := 0) rfl dX12_back_0 ?_
  refine j_iconst (n := 0) 0 (by decide) dX12_back_1 ?_
  refine j_putI (idx := 3) (ci := 12) (k := 0) (nest := false) (show (12, 3, 12, 0, false) ∈ jFT by decide) rfl rfl rfl rfl (Nat.le_of_ble_eq_true rfl) rfl dX12_back_2 ?_
  refine j_aload_n (i := 0) rfl dX12_back_5 ?_
  refine j_getI (idx := 75) (ci := 12) (k := 3) (nest := false) (show (12, 75, 12, 3, false) ∈ jFT by decide) rfl (Nat.le_of_ble_eq_true rfl) rfl dX12_back_6 ?_
  refine j_if_ne (off := 5) 14 dX12_back_9 (by decide) (fun c1 => ?_) (fun c1 => ?_)
  · exact j_le [some (.ref 159), none] (And.intro rfl True.intro) (v1 c1)
  · exact j_le [some (.ref 159), none] (And.intro rfl True.intro) (v2 c1)
set_option maxRecDepth 100000 in
theorem bX12_back_12 {sc : Nat × (Nat → Int32)} {h : jH} {Q : jQ}
    (v1 : Q (.inl (some (.int 0))) (jG0 sc) h) :
    WP mX12_back Q 12 [some (.ref 159), none] [] (jG0 sc) h (0, 0) := by
  refine j_iconst (n := 0) 0 (by decide) dX12_back_12 ?_
  exact j_iret rfl rfl (Nat.zero_le _) (Nat.zero_le _) dX12_back_13 v1
set_option maxRecDepth 100000 in
theorem bX12_back_14 {sc : Nat × (Nat → Int32)} {h : jH} {Q : jQ}
    (v1 : WP mX12_back Q 16 [some (.ref 159), some (.int 0)] [] (jG0 sc) h (0, 0)) :
    WP mX12_back Q 14 [some (.ref 159), none] [] (jG0 sc) h (0, 0) := by
  refine j_iconst (n := 0) 0 (by decide) dX12_back_14 ?_
  refine j_istore_n (i := 1) dX12_back_15 (Nat.le_of_ble_eq_true rfl) ?_
  exact j_le [some (.ref 159), some (.int 0)] (And.intro rfl (And.intro rfl True.intro)) v1
set_option maxRecDepth 100000 in
theorem bX12_back_16 {sc : Nat × (Nat → Int32)} {h : jH} {Q : jQ} {l1 : Int32}
    (v1 : 1454 ≤ l1 → WP mX12_back Q 41 [some (.ref 159), some (.int l1)] [] (jG0 sc) h (0, 0))
    (v2 : ¬ 1454 ≤ l1 → WP mX12_back Q 23 [some (.ref 159), some (.int l1)] [] (jG0 sc) h (0, 0)) :
    WP mX12_back Q 16 [some (.ref 159), some (.int l1)] [] (jG0 sc) h (0, 0) := by
  refine j_iload_n (i := 1) rfl dX12_back_16 ?_
  refine j_sipush (n := 1454) 1454 (by decide) dX12_back_17 ?_
  refine j_icmp_ge (off := 21) 41 dX12_back_20 (by decide) (fun c1 => ?_) (fun c1 => ?_)
  · exact j_le [some (.ref 159), some (.int l1)] (And.intro rfl (And.intro rfl True.intro)) (v1 c1)
  · exact j_le [some (.ref 159), some (.int l1)] (And.intro rfl (And.intro rfl True.intro)) (v2 c1)
set_option maxRecDepth 100000 in
theorem bX12_back_23 {sc : Nat × (Nat → Int32)} {h : jH} {Q : jQ} {l1 : Int32}
    (o1 : vp_in l1 1454)
    (o2 : vp_in l1 1454)
    (v1 : WP mX12_back Q 16 [some (.ref 159), some (.int (l1 + 1))] [] (jG0 sc) (jput h 160 l1.toNatClampNeg (h 161 l1.toNatClampNeg)) (0, 0)) :
    WP mX12_back Q 23 [some (.ref 159), some (.int l1)] [] (jG0 sc) h (0, 0) := by
  refine j_aload_n (i := 0) rfl dX12_back_23 ?_
  refine j_getR (idx := 13) (ci := 12) (k := 1) (nest := false) (show (12, 13, 12, 1, false) ∈ jFT by decide) rfl (Nat.le_of_ble_eq_true rfl) rfl (a := 160) rfl dX12_back_24 ?_
  refine j_iload_n (i := 1) rfl dX12_back_27 ?_
  refine j_aload_n (i := 0) rfl dX12_back_28 ?_
  refine j_getR (idx := 17) (ci := 12) (k := 2) (nest := false) (show (12, 17, 12, 2, false) ∈ jFT by decide) rfl (Nat.le_of_ble_eq_true rfl) rfl (a := 161) rfl dX12_back_29 ?_
  refine j_iload_n (i := 1) rfl dX12_back_32 ?_
  refine j_iald (Nat.le_of_ble_eq_true rfl) rfl o1 dX12_back_33 ?_
  refine j_iast (Nat.le_of_ble_eq_true rfl) rfl o2 dX12_back_34 ?_
  refine j_iinc (i := 1) (n := 1) rfl dX12_back_35 (Nat.le_of_ble_eq_true rfl) ?_
  refine j_eqlv [some (.ref 159), some (.int (l1 + 1))] rfl ?_
  refine j_goto (off := -22) 16 dX12_back_38 (by decide) ?_
  exact j_le [some (.ref 159), some (.int (l1 + 1))] (And.intro rfl (And.intro rfl True.intro)) v1
set_option maxRecDepth 100000 in
theorem bX12_back_41 {sc : Nat × (Nat → Int32)} {h : jH} {Q : jQ} {l1 : Int32}
    (v1 : Q (.inl (some (.int 1))) (jG0 sc) h) :
    WP mX12_back Q 41 [some (.ref 159), some (.int l1)] [] (jG0 sc) h (0, 0) := by
  refine j_iconst (n := 1) 1 (by decide) dX12_back_41 ?_
  exact j_iret rfl rfl (Nat.zero_le _) (Nat.zero_le _) dX12_back_42 v1
set_option maxRecDepth 100000 in
theorem rX12_back_0 {sc : Nat × (Nat → Int32)} {h : jH} {Q : jQ}
    (v1 : ¬ ((jput h 159 0 0) 159 3) = 0 → WP mX12_back Q 16 [some (.ref 159), some (.int 0)] [] (jG0 sc) (jput h 159 0 0) (0, 0))
    (v2 : ((jput h 159 0 0) 159 3) = 0 → Q (.inl (some (.int 0))) (jG0 sc) (jput h 159 0 0)) :
    WP mX12_back Q 0 [some (.ref 159), none] [] (jG0 sc) h (0, 0) := by
  exact (bX12_back_0 (fun c1 => (bX12_back_14 (v1 c1))) (fun c1 => (bX12_back_12 (v2 c1))))
set_option maxRecDepth 100000 in
theorem rX12_back_16 {sc : Nat × (Nat → Int32)} {h : jH} {Q : jQ} {l1 : Int32}
    (v1 : 1454 ≤ l1 → Q (.inl (some (.int 1))) (jG0 sc) h)
    (o1 : ¬ 1454 ≤ l1 → vp_in l1 1454)
    (v2 : ¬ 1454 ≤ l1 → WP mX12_back Q 16 [some (.ref 159), some (.int (l1 + 1))] [] (jG0 sc) (jput h 160 l1.toNatClampNeg (h 161 l1.toNatClampNeg)) (0, 0)) :
    WP mX12_back Q 16 [some (.ref 159), some (.int l1)] [] (jG0 sc) h (0, 0) := by
  exact (bX12_back_16 (fun c1 => (bX12_back_41 (v1 c1))) (fun c1 => (bX12_back_23 (o1 c1) (o1 c1) (v2 c1))))
theorem dX12_feed_0 : decode (mC mX12_feed) 0 = .ok (.aload_n 0, 1) := by decide +kernel
theorem dX12_feed_1 : decode (mC mX12_feed) 1 = .ok (.iconst 0, 1) := by decide +kernel
theorem dX12_feed_2 : decode (mC mX12_feed) 2 = .ok (.putfield 3, 3) := by decide +kernel
theorem dX12_feed_5 : decode (mC mX12_feed) 5 = .ok (.aload_n 0, 1) := by decide +kernel
theorem dX12_feed_6 : decode (mC mX12_feed) 6 = .ok (.getfield 79, 3) := by decide +kernel
theorem dX12_feed_9 : decode (mC mX12_feed) 9 = .ok (.bipush 20, 2) := by decide +kernel
theorem dX12_feed_11 : decode (mC mX12_feed) 11 = .ok (.iadd, 1) := by decide +kernel
theorem dX12_feed_12 : decode (mC mX12_feed) 12 = .ok (.sipush 400, 3) := by decide +kernel
theorem dX12_feed_15 : decode (mC mX12_feed) 15 = .ok (.if_icmp .le 5, 3) := by decide +kernel
theorem dX12_feed_18 : decode (mC mX12_feed) 18 = .ok (.iconst (-1), 1) := by decide +kernel
theorem dX12_feed_19 : decode (mC mX12_feed) 19 = .ok (.ireturn, 1) := by decide +kernel
theorem dX12_feed_20 : decode (mC mX12_feed) 20 = .ok (.aload_n 0, 1) := by decide +kernel
theorem dX12_feed_21 : decode (mC mX12_feed) 21 = .ok (.getfield 27, 3) := by decide +kernel
theorem dX12_feed_24 : decode (mC mX12_feed) 24 = .ok (.iconst 0, 1) := by decide +kernel
theorem dX12_feed_25 : decode (mC mX12_feed) 25 = .ok (.iload_n 1, 1) := by decide +kernel
theorem dX12_feed_26 : decode (mC mX12_feed) 26 = .ok (.iastore, 1) := by decide +kernel
theorem dX12_feed_27 : decode (mC mX12_feed) 27 = .ok (.aload_n 0, 1) := by decide +kernel
theorem dX12_feed_28 : decode (mC mX12_feed) 28 = .ok (.getfield 27, 3) := by decide +kernel
theorem dX12_feed_31 : decode (mC mX12_feed) 31 = .ok (.iconst 1, 1) := by decide +kernel
theorem dX12_feed_32 : decode (mC mX12_feed) 32 = .ok (.iload_n 2, 1) := by decide +kernel
theorem dX12_feed_33 : decode (mC mX12_feed) 33 = .ok (.iastore, 1) := by decide +kernel
theorem dX12_feed_34 : decode (mC mX12_feed) 34 = .ok (.aload_n 0, 1) := by decide +kernel
theorem dX12_feed_35 : decode (mC mX12_feed) 35 = .ok (.getfield 27, 3) := by decide +kernel
theorem dX12_feed_38 : decode (mC mX12_feed) 38 = .ok (.iconst 2, 1) := by decide +kernel
theorem dX12_feed_39 : decode (mC mX12_feed) 39 = .ok (.iload_n 3, 1) := by decide +kernel
theorem dX12_feed_40 : decode (mC mX12_feed) 40 = .ok (.iastore, 1) := by decide +kernel
theorem dX12_feed_41 : decode (mC mX12_feed) 41 = .ok (.aload_n 0, 1) := by decide +kernel
theorem dX12_feed_42 : decode (mC mX12_feed) 42 = .ok (.getfield 27, 3) := by decide +kernel
theorem dX12_feed_45 : decode (mC mX12_feed) 45 = .ok (.iconst 3, 1) := by decide +kernel
theorem dX12_feed_46 : decode (mC mX12_feed) 46 = .ok (.iload 4, 2) := by decide +kernel
theorem dX12_feed_48 : decode (mC mX12_feed) 48 = .ok (.iastore, 1) := by decide +kernel
theorem dX12_feed_49 : decode (mC mX12_feed) 49 = .ok (.aload_n 0, 1) := by decide +kernel
theorem dX12_feed_50 : decode (mC mX12_feed) 50 = .ok (.getfield 27, 3) := by decide +kernel
theorem dX12_feed_53 : decode (mC mX12_feed) 53 = .ok (.iconst 4, 1) := by decide +kernel
theorem dX12_feed_54 : decode (mC mX12_feed) 54 = .ok (.iload 5, 2) := by decide +kernel
theorem dX12_feed_56 : decode (mC mX12_feed) 56 = .ok (.iastore, 1) := by decide +kernel
theorem dX12_feed_57 : decode (mC mX12_feed) 57 = .ok (.iconst 0, 1) := by decide +kernel
theorem dX12_feed_58 : decode (mC mX12_feed) 58 = .ok (.istore 6, 2) := by decide +kernel
theorem dX12_feed_60 : decode (mC mX12_feed) 60 = .ok (.iload 6, 2) := by decide +kernel
theorem dX12_feed_62 : decode (mC mX12_feed) 62 = .ok (.bipush 20, 2) := by decide +kernel
theorem dX12_feed_64 : decode (mC mX12_feed) 64 = .ok (.if_icmp .ge 42, 3) := by decide +kernel
theorem dX12_feed_67 : decode (mC mX12_feed) 67 = .ok (.aload_n 0, 1) := by decide +kernel
theorem dX12_feed_68 : decode (mC mX12_feed) 68 = .ok (.getfield 20, 3) := by decide +kernel
theorem dX12_feed_71 : decode (mC mX12_feed) 71 = .ok (.aload_n 0, 1) := by decide +kernel
theorem dX12_feed_72 : decode (mC mX12_feed) 72 = .ok (.getfield 79, 3) := by decide +kernel
theorem dX12_feed_75 : decode (mC mX12_feed) 75 = .ok (.iload 6, 2) := by decide +kernel
theorem dX12_feed_77 : decode (mC mX12_feed) 77 = .ok (.iadd, 1) := by decide +kernel
theorem dX12_feed_78 : decode (mC mX12_feed) 78 = .ok (.aload_n 0, 1) := by decide +kernel
theorem dX12_feed_79 : decode (mC mX12_feed) 79 = .ok (.getfield 27, 3) := by decide +kernel
theorem dX12_feed_82 : decode (mC mX12_feed) 82 = .ok (.iload 6, 2) := by decide +kernel
theorem dX12_feed_84 : decode (mC mX12_feed) 84 = .ok (.iconst 4, 1) := by decide +kernel
theorem dX12_feed_85 : decode (mC mX12_feed) 85 = .ok (.idiv, 1) := by decide +kernel
theorem dX12_feed_86 : decode (mC mX12_feed) 86 = .ok (.iaload, 1) := by decide +kernel
theorem dX12_feed_87 : decode (mC mX12_feed) 87 = .ok (.bipush 24, 2) := by decide +kernel
theorem dX12_feed_89 : decode (mC mX12_feed) 89 = .ok (.bipush 8, 2) := by decide +kernel
theorem dX12_feed_91 : decode (mC mX12_feed) 91 = .ok (.iload 6, 2) := by decide +kernel
theorem dX12_feed_93 : decode (mC mX12_feed) 93 = .ok (.iconst 4, 1) := by decide +kernel
theorem dX12_feed_94 : decode (mC mX12_feed) 94 = .ok (.irem, 1) := by decide +kernel
theorem dX12_feed_95 : decode (mC mX12_feed) 95 = .ok (.imul, 1) := by decide +kernel
theorem dX12_feed_96 : decode (mC mX12_feed) 96 = .ok (.isub, 1) := by decide +kernel
theorem dX12_feed_97 : decode (mC mX12_feed) 97 = .ok (.ishr, 1) := by decide +kernel
theorem dX12_feed_98 : decode (mC mX12_feed) 98 = .ok (.i2b, 1) := by decide +kernel
theorem dX12_feed_99 : decode (mC mX12_feed) 99 = .ok (.bastore, 1) := by decide +kernel
theorem dX12_feed_100 : decode (mC mX12_feed) 100 = .ok (.iinc 6 1, 3) := by decide +kernel
theorem dX12_feed_103 : decode (mC mX12_feed) 103 = .ok (.goto (-43), 3) := by decide +kernel
theorem dX12_feed_106 : decode (mC mX12_feed) 106 = .ok (.aload_n 0, 1) := by decide +kernel
theorem dX12_feed_107 : decode (mC mX12_feed) 107 = .ok (.dup, 1) := by decide +kernel
theorem dX12_feed_108 : decode (mC mX12_feed) 108 = .ok (.getfield 79, 3) := by decide +kernel
theorem dX12_feed_111 : decode (mC mX12_feed) 111 = .ok (.bipush 20, 2) := by decide +kernel
theorem dX12_feed_113 : decode (mC mX12_feed) 113 = .ok (.iadd, 1) := by decide +kernel
theorem dX12_feed_114 : decode (mC mX12_feed) 114 = .ok (.putfield 79, 3) := by decide +kernel
theorem dX12_feed_117 : decode (mC mX12_feed) 117 = .ok (.aload_n 0, 1) := by decide +kernel
theorem dX12_feed_118 : decode (mC mX12_feed) 118 = .ok (.getfield 79, 3) := by decide +kernel
theorem dX12_feed_121 : decode (mC mX12_feed) 121 = .ok (.ireturn, 1) := by decide +kernel
set_option maxRecDepth 100000 in
theorem bX12_feed_0 {sc : Nat × (Nat → Int32)} {h : jH} {Q : jQ} {l1 l2 l3 l4 l5 : Int32}
    (v1 : (((jput h 159 0 0) 159 5) + 20) ≤ 400 → WP mX12_feed Q 20 [some (.ref 159), some (.int l1), some (.int l2), some (.int l3), some (.int l4), some (.int l5), none] [] (jG0 sc) (jput h 159 0 0) (0, 0))
    (v2 : ¬ (((jput h 159 0 0) 159 5) + 20) ≤ 400 → WP mX12_feed Q 18 [some (.ref 159), some (.int l1), some (.int l2), some (.int l3), some (.int l4), some (.int l5), none] [] (jG0 sc) (jput h 159 0 0) (0, 0)) :
    WP mX12_feed Q 0 [some (.ref 159), some (.int l1), some (.int l2), some (.int l3), some (.int l4), some (.int l5), none] [] (jG0 sc) h (0, 0) := by
  refine j_aload_n (i := 0) rfl dX12_feed_0 ?_
  refine j_iconst (n := 0) 0 (by decide) dX12_feed_1 ?_
  refine j_putI (idx := 3) (ci := 12) (k := 0) (nest := false) (show (12, 3, 12, 0, false) ∈ jFT by decide) rfl rfl rfl rfl (Nat.le_of_ble_eq_true rfl) rfl dX12_feed_2 ?_
  refine j_aload_n (i := 0) rfl dX12_feed_5 ?_
  refine j_getI (idx := 79) (ci := 12) (k := 5) (nest := false) (show (12, 79, 12, 5, false) ∈ jFT by decide) rfl (Nat.le_of_ble_eq_true rfl) rfl dX12_feed_6 ?_
  refine j_bipush (n := 20) 20 (by decide) dX12_feed_9 ?_
  refine j_iadd dX12_feed_11 ?_
  refine j_sipush (n := 400) 400 (by decide) dX12_feed_12 ?_
  refine j_icmp_le (off := 5) 20 dX12_feed_15 (by decide) (fun c1 => ?_) (fun c1 => ?_)
  · exact j_le [some (.ref 159), some (.int l1), some (.int l2), some (.int l3), some (.int l4), some (.int l5), none] (And.intro rfl (And.intro rfl (And.intro rfl (And.intro rfl (And.intro rfl (And.intro rfl True.intro)))))) (v1 c1)
  · exact j_le [some (.ref 159), some (.int l1), some (.int l2), some (.int l3), some (.int l4), some (.int l5), none] (And.intro rfl (And.intro rfl (And.intro rfl (And.intro rfl (And.intro rfl (And.intro rfl True.intro)))))) (v2 c1)
set_option maxRecDepth 100000 in
theorem bX12_feed_18 {sc : Nat × (Nat → Int32)} {h : jH} {Q : jQ} {l1 l2 l3 l4 l5 : Int32}
    (v1 : Q (.inl (some (.int (-1)))) (jG0 sc) h) :
    WP mX12_feed Q 18 [some (.ref 159), some (.int l1), some (.int l2), some (.int l3), some (.int l4), some (.int l5), none] [] (jG0 sc) h (0, 0) := by
  refine j_iconst (n := (-1)) (-1) (by decide) dX12_feed_18 ?_
  exact j_iret rfl rfl (Nat.zero_le _) (Nat.zero_le _) dX12_feed_19 v1
set_option maxRecDepth 100000 in
theorem bX12_feed_20 {sc : Nat × (Nat → Int32)} {h : jH} {Q : jQ} {l1 l2 l3 l4 l5 : Int32}
    (v1 : WP mX12_feed Q 54 [some (.ref 159), some (.int l1), some (.int l2), some (.int l3), some (.int l4), some (.int l5), none] [.int 4, .ref 163] (jG0 sc) (jput (jput (jput (jput h 163 0 l1) 163 1 l2) 163 2 l3) 163 3 l4) (0, 0)) :
    WP mX12_feed Q 20 [some (.ref 159), some (.int l1), some (.int l2), some (.int l3), some (.int l4), some (.int l5), none] [] (jG0 sc) h (0, 0) := by
  refine j_aload_n (i := 0) rfl dX12_feed_20 ?_
  refine j_getR (idx := 27) (ci := 12) (k := 11) (nest := false) (show (12, 27, 12, 11, false) ∈ jFT by decide) rfl (Nat.le_of_ble_eq_true rfl) rfl (a := 163) rfl dX12_feed_21 ?_
  refine j_iconst (n := 0) 0 (by decide) dX12_feed_24 ?_
  refine j_iload_n (i := 1) rfl dX12_feed_25 ?_
  refine j_iast (Nat.le_of_ble_eq_true rfl) rfl (jinl (n := 5) (by decide)) dX12_feed_26 ?_
  refine j_aload_n (i := 0) rfl dX12_feed_27 ?_
  refine j_getR (idx := 27) (ci := 12) (k := 11) (nest := false) (show (12, 27, 12, 11, false) ∈ jFT by decide) rfl (Nat.le_of_ble_eq_true rfl) rfl (a := 163) rfl dX12_feed_28 ?_
  refine j_iconst (n := 1) 1 (by decide) dX12_feed_31 ?_
  refine j_iload_n (i := 2) rfl dX12_feed_32 ?_
  refine j_iast (Nat.le_of_ble_eq_true rfl) rfl (jinl (n := 5) (by decide)) dX12_feed_33 ?_
  refine j_aload_n (i := 0) rfl dX12_feed_34 ?_
  refine j_getR (idx := 27) (ci := 12) (k := 11) (nest := false) (show (12, 27, 12, 11, false) ∈ jFT by decide) rfl (Nat.le_of_ble_eq_true rfl) rfl (a := 163) rfl dX12_feed_35 ?_
  refine j_iconst (n := 2) 2 (by decide) dX12_feed_38 ?_
  refine j_iload_n (i := 3) rfl dX12_feed_39 ?_
  refine j_iast (Nat.le_of_ble_eq_true rfl) rfl (jinl (n := 5) (by decide)) dX12_feed_40 ?_
  refine j_aload_n (i := 0) rfl dX12_feed_41 ?_
  refine j_getR (idx := 27) (ci := 12) (k := 11) (nest := false) (show (12, 27, 12, 11, false) ∈ jFT by decide) rfl (Nat.le_of_ble_eq_true rfl) rfl (a := 163) rfl dX12_feed_42 ?_
  refine j_iconst (n := 3) 3 (by decide) dX12_feed_45 ?_
  refine j_iload (i := 4) rfl dX12_feed_46 ?_
  refine j_iast (Nat.le_of_ble_eq_true rfl) rfl (jinl (n := 5) (by decide)) dX12_feed_48 ?_
  refine j_aload_n (i := 0) rfl dX12_feed_49 ?_
  refine j_getR (idx := 27) (ci := 12) (k := 11) (nest := false) (show (12, 27, 12, 11, false) ∈ jFT by decide) rfl (Nat.le_of_ble_eq_true rfl) rfl (a := 163) rfl dX12_feed_50 ?_
  refine j_iconst (n := 4) 4 (by decide) dX12_feed_53 ?_
  exact j_le [some (.ref 159), some (.int l1), some (.int l2), some (.int l3), some (.int l4), some (.int l5), none] (And.intro rfl (And.intro rfl (And.intro rfl (And.intro rfl (And.intro rfl (And.intro rfl True.intro)))))) v1
set_option maxRecDepth 100000 in
theorem bX12_feed_54 {sc : Nat × (Nat → Int32)} {h : jH} {Q : jQ} {l1 l2 l3 l4 l5 s0 : Int32}
    (o1 : vp_in s0 5)
    (v1 : WP mX12_feed Q 60 [some (.ref 159), some (.int l1), some (.int l2), some (.int l3), some (.int l4), some (.int l5), some (.int 0)] [] (jG0 sc) (jput h 163 s0.toNatClampNeg l5) (0, 0)) :
    WP mX12_feed Q 54 [some (.ref 159), some (.int l1), some (.int l2), some (.int l3), some (.int l4), some (.int l5), none] [.int s0, .ref 163] (jG0 sc) h (0, 0) := by
  refine j_iload (i := 5) rfl dX12_feed_54 ?_
  refine j_iast (Nat.le_of_ble_eq_true rfl) rfl o1 dX12_feed_56 ?_
  refine j_iconst (n := 0) 0 (by decide) dX12_feed_57 ?_
  refine j_istore (i := 6) dX12_feed_58 (Nat.le_of_ble_eq_true rfl) ?_
  exact j_le [some (.ref 159), some (.int l1), some (.int l2), some (.int l3), some (.int l4), some (.int l5), some (.int 0)] (And.intro rfl (And.intro rfl (And.intro rfl (And.intro rfl (And.intro rfl (And.intro rfl (And.intro rfl True.intro))))))) v1
set_option maxRecDepth 100000 in
theorem bX12_feed_60 {sc : Nat × (Nat → Int32)} {h : jH} {Q : jQ} {l1 l2 l3 l4 l5 l6 : Int32}
    (v1 : 20 ≤ l6 → WP mX12_feed Q 106 [some (.ref 159), some (.int l1), some (.int l2), some (.int l3), some (.int l4), some (.int l5), some (.int l6)] [] (jG0 sc) h (0, 0))
    (v2 : ¬ 20 ≤ l6 → WP mX12_feed Q 67 [some (.ref 159), some (.int l1), some (.int l2), some (.int l3), some (.int l4), some (.int l5), some (.int l6)] [] (jG0 sc) h (0, 0)) :
    WP mX12_feed Q 60 [some (.ref 159), some (.int l1), some (.int l2), some (.int l3), some (.int l4), some (.int l5), some (.int l6)] [] (jG0 sc) h (0, 0) := by
  refine j_iload (i := 6) rfl dX12_feed_60 ?_
  refine j_bipush (n := 20) 20 (by decide) dX12_feed_62 ?_
  refine j_icmp_ge (off := 42) 106 dX12_feed_64 (by decide) (fun c1 => ?_) (fun c1 => ?_)
  · exact j_le [some (.ref 159), some (.int l1), some (.int l2), some (.int l3), some (.int l4), some (.int l5), some (.int l6)] (And.intro rfl (And.intro rfl (And.intro rfl (And.intro rfl (And.intro rfl (And.intro rfl (And.intro rfl True.intro))))))) (v1 c1)
  · exact j_le [some (.ref 159), some (.int l1), some (.int l2), some (.int l3), some (.int l4), some (.int l5), some (.int l6)] (And.intro rfl (And.intro rfl (And.intro rfl (And.intro rfl (And.intro rfl (And.intro rfl (And.intro rfl True.intro))))))) (v2 c1)
set_option maxRecDepth 100000 in
theorem bX12_feed_67 {sc : Nat × (Nat → Int32)} {h : jH} {Q : jQ} {l1 l2 l3 l4 l5 l6 : Int32}
    (o1 : vp_in (l6 / 4) 5)
    (o2 : vp_in ((h 159 5) + l6) 400)
    (v1 : WP mX12_feed Q 103 [some (.ref 159), some (.int l1), some (.int l2), some (.int l3), some (.int l4), some (.int l5), some (.int (l6 + 1))] [] (jG0 sc) (jput h 162 (((h 159 5) + l6).toNatClampNeg) ((((((h 163 ((l6 / 4).toNatClampNeg)) >>> ((24 - (8 * (l6 - l6 / 4 * 4))) &&& 31) : Int32)).toInt8.toInt32 : Int32)).toInt8.toInt32)) (0, 0)) :
    WP mX12_feed Q 67 [some (.ref 159), some (.int l1), some (.int l2), some (.int l3), some (.int l4), some (.int l5), some (.int l6)] [] (jG0 sc) h (0, 0) := by
  refine j_aload_n (i := 0) rfl dX12_feed_67 ?_
  refine j_getR (idx := 20) (ci := 12) (k := 4) (nest := false) (show (12, 20, 12, 4, false) ∈ jFT by decide) rfl (Nat.le_of_ble_eq_true rfl) rfl (a := 162) rfl dX12_feed_68 ?_
  refine j_aload_n (i := 0) rfl dX12_feed_71 ?_
  refine j_getI (idx := 79) (ci := 12) (k := 5) (nest := false) (show (12, 79, 12, 5, false) ∈ jFT by decide) rfl (Nat.le_of_ble_eq_true rfl) rfl dX12_feed_72 ?_
  refine j_iload (i := 6) rfl dX12_feed_75 ?_
  refine j_iadd dX12_feed_77 ?_
  refine j_aload_n (i := 0) rfl dX12_feed_78 ?_
  refine j_getR (idx := 27) (ci := 12) (k := 11) (nest := false) (show (12, 27, 12, 11, false) ∈ jFT by decide) rfl (Nat.le_of_ble_eq_true rfl) rfl (a := 163) rfl dX12_feed_79 ?_
  refine j_iload (i := 6) rfl dX12_feed_82 ?_
  refine j_iconst (n := 4) 4 (by decide) dX12_feed_84 ?_
  refine j_idiv (by decide) dX12_feed_85 ?_
  refine j_iald (Nat.le_of_ble_eq_true rfl) rfl o1 dX12_feed_86 ?_
  refine j_bipush (n := 24) 24 (by decide) dX12_feed_87 ?_
  refine j_bipush (n := 8) 8 (by decide) dX12_feed_89 ?_
  refine j_iload (i := 6) rfl dX12_feed_91 ?_
  refine j_iconst (n := 4) 4 (by decide) dX12_feed_93 ?_
  refine j_irem (by decide) dX12_feed_94 ?_
  refine j_imul dX12_feed_95 ?_
  refine j_isub dX12_feed_96 ?_
  refine j_ishr dX12_feed_97 ?_
  refine j_i2b dX12_feed_98 ?_
  refine j_bast (Nat.le_of_ble_eq_true rfl) rfl o2 dX12_feed_99 ?_
  refine j_iinc (i := 6) (n := 1) rfl dX12_feed_100 (Nat.le_of_ble_eq_true rfl) ?_
  refine j_eqlv [some (.ref 159), some (.int l1), some (.int l2), some (.int l3), some (.int l4), some (.int l5), some (.int (l6 + 1))] rfl ?_
  exact j_le [some (.ref 159), some (.int l1), some (.int l2), some (.int l3), some (.int l4), some (.int l5), some (.int (l6 + 1))] (And.intro rfl (And.intro rfl (And.intro rfl (And.intro rfl (And.intro rfl (And.intro rfl (And.intro rfl True.intro))))))) v1
set_option maxRecDepth 100000 in
theorem bX12_feed_103 {sc : Nat × (Nat → Int32)} {h : jH} {Q : jQ} {l1 l2 l3 l4 l5 l6 : Int32}
    (v1 : WP mX12_feed Q 60 [some (.ref 159), some (.int l1), some (.int l2), some (.int l3), some (.int l4), some (.int l5), some (.int l6)] [] (jG0 sc) h (0, 0)) :
    WP mX12_feed Q 103 [some (.ref 159), some (.int l1), some (.int l2), some (.int l3), some (.int l4), some (.int l5), some (.int l6)] [] (jG0 sc) h (0, 0) := by
  refine j_goto (off := -43) 60 dX12_feed_103 (by decide) ?_
  exact j_le [some (.ref 159), some (.int l1), some (.int l2), some (.int l3), some (.int l4), some (.int l5), some (.int l6)] (And.intro rfl (And.intro rfl (And.intro rfl (And.intro rfl (And.intro rfl (And.intro rfl (And.intro rfl True.intro))))))) v1
set_option maxRecDepth 100000 in
theorem bX12_feed_106 {sc : Nat × (Nat → Int32)} {h : jH} {Q : jQ} {l1 l2 l3 l4 l5 l6 : Int32}
    (v1 : Q (.inl (some (.int ((jput h 159 5 ((h 159 5) + 20)) 159 5)))) (jG0 sc) (jput h 159 5 ((h 159 5) + 20))) :
    WP mX12_feed Q 106 [some (.ref 159), some (.int l1), some (.int l2), some (.int l3), some (.int l4), some (.int l5), some (.int l6)] [] (jG0 sc) h (0, 0) := by
  refine j_aload_n (i := 0) rfl dX12_feed_106 ?_
  refine j_dup rfl dX12_feed_107 ?_
  refine j_getI (idx := 79) (ci := 12) (k := 5) (nest := false) (show (12, 79, 12, 5, false) ∈ jFT by decide) rfl (Nat.le_of_ble_eq_true rfl) rfl dX12_feed_108 ?_
  refine j_bipush (n := 20) 20 (by decide) dX12_feed_111 ?_
  refine j_iadd dX12_feed_113 ?_
  refine j_putI (idx := 79) (ci := 12) (k := 5) (nest := false) (show (12, 79, 12, 5, false) ∈ jFT by decide) rfl rfl rfl rfl (Nat.le_of_ble_eq_true rfl) rfl dX12_feed_114 ?_
  refine j_aload_n (i := 0) rfl dX12_feed_117 ?_
  refine j_getI (idx := 79) (ci := 12) (k := 5) (nest := false) (show (12, 79, 12, 5, false) ∈ jFT by decide) rfl (Nat.le_of_ble_eq_true rfl) rfl dX12_feed_118 ?_
  exact j_iret rfl rfl (Nat.zero_le _) (Nat.zero_le _) dX12_feed_121 v1
set_option maxRecDepth 100000 in
theorem rX12_feed_0 {sc : Nat × (Nat → Int32)} {h : jH} {Q : jQ} {l1 l2 l3 l4 l5 : Int32}
    (v1 : (((jput h 159 0 0) 159 5) + 20) ≤ 400 → WP mX12_feed Q 60 [some (.ref 159), some (.int l1), some (.int l2), some (.int l3), some (.int l4), some (.int l5), some (.int 0)] [] (jG0 sc) (jput (jput (jput (jput (jput (jput h 159 0 0) 163 0 l1) 163 1 l2) 163 2 l3) 163 3 l4) 163 ((4 : Int32).toNatClampNeg) l5) (0, 0))
    (v2 : ¬ (((jput h 159 0 0) 159 5) + 20) ≤ 400 → Q (.inl (some (.int (-1)))) (jG0 sc) (jput h 159 0 0)) :
    WP mX12_feed Q 0 [some (.ref 159), some (.int l1), some (.int l2), some (.int l3), some (.int l4), some (.int l5), none] [] (jG0 sc) h (0, 0) := by
  exact (bX12_feed_0 (fun c1 => (bX12_feed_20 (bX12_feed_54 (jinl (n := 5) (by decide)) (v1 c1)))) (fun c1 => (bX12_feed_18 (v2 c1))))
set_option maxRecDepth 100000 in
theorem rX12_feed_60 {sc : Nat × (Nat → Int32)} {h : jH} {Q : jQ} {l1 l2 l3 l4 l5 l6 : Int32}
    (v1 : 20 ≤ l6 → Q (.inl (some (.int ((jput h 159 5 ((h 159 5) + 20)) 159 5)))) (jG0 sc) (jput h 159 5 ((h 159 5) + 20)))
    (o1 : ¬ 20 ≤ l6 → vp_in (l6 / 4) 5)
    (o2 : ¬ 20 ≤ l6 → vp_in ((h 159 5) + l6) 400)
    (v2 : ¬ 20 ≤ l6 → WP mX12_feed Q 60 [some (.ref 159), some (.int l1), some (.int l2), some (.int l3), some (.int l4), some (.int l5), some (.int (l6 + 1))] [] (jG0 sc) (jput h 162 (((h 159 5) + l6).toNatClampNeg) ((((((h 163 ((l6 / 4).toNatClampNeg)) >>> ((24 - (8 * (l6 - l6 / 4 * 4))) &&& 31) : Int32)).toInt8.toInt32 : Int32)).toInt8.toInt32)) (0, 0)) :
    WP mX12_feed Q 60 [some (.ref 159), some (.int l1), some (.int l2), some (.int l3), some (.int l4), some (.int l5), some (.int l6)] [] (jG0 sc) h (0, 0) := by
  exact (bX12_feed_60 (fun c1 => (bX12_feed_106 (v1 c1))) (fun c1 => (bX12_feed_67 (o1 c1) (o2 c1) (bX12_feed_103 (v2 c1)))))
theorem dX12_end_0 : decode (mC mX12_end) 0 = .ok (.aload_n 0, 1) := by decide +kernel
theorem dX12_end_1 : decode (mC mX12_end) 1 = .ok (.iconst 0, 1) := by decide +kernel
theorem dX12_end_2 : decode (mC mX12_end) 2 = .ok (.putfield 3, 3) := by decide +kernel
theorem dX12_end_5 : decode (mC mX12_end) 5 = .ok (.iload_n 1, 1) := by decide +kernel
theorem dX12_end_6 : decode (mC mX12_end) 6 = .ok (.ifCond .lt 11, 3) := by decide +kernel
theorem dX12_end_9 : decode (mC mX12_end) 9 = .ok (.iload_n 1, 1) := by decide +kernel
theorem dX12_end_10 : decode (mC mX12_end) 10 = .ok (.aload_n 0, 1) := by decide +kernel
theorem dX12_end_11 : decode (mC mX12_end) 11 = .ok (.getfield 79, 3) := by decide +kernel
theorem dX12_end_14 : decode (mC mX12_end) 14 = .ok (.if_icmp .le 5, 3) := by decide +kernel
theorem dX12_end_17 : decode (mC mX12_end) 17 = .ok (.iconst 0, 1) := by decide +kernel
theorem dX12_end_18 : decode (mC mX12_end) 18 = .ok (.ireturn, 1) := by decide +kernel
theorem dX12_end_19 : decode (mC mX12_end) 19 = .ok (.aload_n 0, 1) := by decide +kernel
theorem dX12_end_20 : decode (mC mX12_end) 20 = .ok (.iload_n 1, 1) := by decide +kernel
theorem dX12_end_21 : decode (mC mX12_end) 21 = .ok (.putfield 79, 3) := by decide +kernel
theorem dX12_end_24 : decode (mC mX12_end) 24 = .ok (.iconst 1, 1) := by decide +kernel
theorem dX12_end_25 : decode (mC mX12_end) 25 = .ok (.ireturn, 1) := by decide +kernel
set_option maxRecDepth 100000 in
theorem bX12_end_0 {sc : Nat × (Nat → Int32)} {h : jH} {Q : jQ} {l1 : Int32}
    (v1 : l1 < 0 → WP mX12_end Q 17 [some (.ref 159), some (.int l1)] [] (jG0 sc) (jput h 159 0 0) (0, 0))
    (v2 : ¬ l1 < 0 → WP mX12_end Q 9 [some (.ref 159), some (.int l1)] [] (jG0 sc) (jput h 159 0 0) (0, 0)) :
    WP mX12_end Q 0 [some (.ref 159), some (.int l1)] [] (jG0 sc) h (0, 0) := by
  refine j_aload_n (i := 0) rfl dX12_end_0 ?_
  refine j_iconst (n := 0) 0 (by decide) dX12_end_1 ?_
  refine j_putI (idx := 3) (ci := 12) (k := 0) (nest := false) (show (12, 3, 12, 0, false) ∈ jFT by decide) rfl rfl rfl rfl (Nat.le_of_ble_eq_true rfl) rfl dX12_end_2 ?_
  refine j_iload_n (i := 1) rfl dX12_end_5 ?_
  refine j_if_lt (off := 11) 17 dX12_end_6 (by decide) (fun c1 => ?_) (fun c1 => ?_)
  · exact j_le [some (.ref 159), some (.int l1)] (And.intro rfl (And.intro rfl True.intro)) (v1 c1)
  · exact j_le [some (.ref 159), some (.int l1)] (And.intro rfl (And.intro rfl True.intro)) (v2 c1)
set_option maxRecDepth 100000 in
theorem bX12_end_9 {sc : Nat × (Nat → Int32)} {h : jH} {Q : jQ} {l1 : Int32}
    (v1 : l1 ≤ (h 159 5) → WP mX12_end Q 19 [some (.ref 159), some (.int l1)] [] (jG0 sc) h (0, 0))
    (v2 : ¬ l1 ≤ (h 159 5) → WP mX12_end Q 17 [some (.ref 159), some (.int l1)] [] (jG0 sc) h (0, 0)) :
    WP mX12_end Q 9 [some (.ref 159), some (.int l1)] [] (jG0 sc) h (0, 0) := by
  refine j_iload_n (i := 1) rfl dX12_end_9 ?_
  refine j_aload_n (i := 0) rfl dX12_end_10 ?_
  refine j_getI (idx := 79) (ci := 12) (k := 5) (nest := false) (show (12, 79, 12, 5, false) ∈ jFT by decide) rfl (Nat.le_of_ble_eq_true rfl) rfl dX12_end_11 ?_
  refine j_icmp_le (off := 5) 19 dX12_end_14 (by decide) (fun c1 => ?_) (fun c1 => ?_)
  · exact j_le [some (.ref 159), some (.int l1)] (And.intro rfl (And.intro rfl True.intro)) (v1 c1)
  · exact j_le [some (.ref 159), some (.int l1)] (And.intro rfl (And.intro rfl True.intro)) (v2 c1)
set_option maxRecDepth 100000 in
theorem bX12_end_17 {sc : Nat × (Nat → Int32)} {h : jH} {Q : jQ} {l1 : Int32}
    (v1 : Q (.inl (some (.int 0))) (jG0 sc) h) :
    WP mX12_end Q 17 [some (.ref 159), some (.int l1)] [] (jG0 sc) h (0, 0) := by
  refine j_iconst (n := 0) 0 (by decide) dX12_end_17 ?_
  exact j_iret rfl rfl (Nat.zero_le _) (Nat.zero_le _) dX12_end_18 v1
set_option maxRecDepth 100000 in
theorem bX12_end_19 {sc : Nat × (Nat → Int32)} {h : jH} {Q : jQ} {l1 : Int32}
    (v1 : Q (.inl (some (.int 1))) (jG0 sc) (jput h 159 5 l1)) :
    WP mX12_end Q 19 [some (.ref 159), some (.int l1)] [] (jG0 sc) h (0, 0) := by
  refine j_aload_n (i := 0) rfl dX12_end_19 ?_
  refine j_iload_n (i := 1) rfl dX12_end_20 ?_
  refine j_putI (idx := 79) (ci := 12) (k := 5) (nest := false) (show (12, 79, 12, 5, false) ∈ jFT by decide) rfl rfl rfl rfl (Nat.le_of_ble_eq_true rfl) rfl dX12_end_21 ?_
  refine j_iconst (n := 1) 1 (by decide) dX12_end_24 ?_
  exact j_iret rfl rfl (Nat.zero_le _) (Nat.zero_le _) dX12_end_25 v1
set_option maxRecDepth 100000 in
theorem rX12_end_0 {sc : Nat × (Nat → Int32)} {h : jH} {Q : jQ} {l1 : Int32}
    (v1 : l1 < 0 → Q (.inl (some (.int 0))) (jG0 sc) (jput h 159 0 0))
    (v2 : ¬ l1 < 0 → l1 ≤ ((jput h 159 0 0) 159 5) → Q (.inl (some (.int 1))) (jG0 sc) (jput (jput h 159 0 0) 159 5 l1))
    (v3 : ¬ l1 < 0 → ¬ l1 ≤ ((jput h 159 0 0) 159 5) → Q (.inl (some (.int 0))) (jG0 sc) (jput h 159 0 0)) :
    WP mX12_end Q 0 [some (.ref 159), some (.int l1)] [] (jG0 sc) h (0, 0) := by
  exact (bX12_end_0 (fun c1 => (bX12_end_17 (v1 c1))) (fun c1 => (bX12_end_9 (fun c2 => (bX12_end_19 (v2 c1 c2))) (fun c2 => (bX12_end_17 (v3 c1 c2))))))
theorem dX12_uses_0 : decode (mC mX12_uses) 0 = .ok (.aload_n 0, 1) := by decide +kernel
theorem dX12_uses_1 : decode (mC mX12_uses) 1 = .ok (.iconst 0, 1) := by decide +kernel
theorem dX12_uses_2 : decode (mC mX12_uses) 2 = .ok (.putfield 3, 3) := by decide +kernel
theorem dX12_uses_5 : decode (mC mX12_uses) 5 = .ok (.aload_n 0, 1) := by decide +kernel
theorem dX12_uses_6 : decode (mC mX12_uses) 6 = .ok (.aload_n 0, 1) := by decide +kernel
theorem dX12_uses_7 : decode (mC mX12_uses) 7 = .ok (.getfield 79, 3) := by decide +kernel
theorem dX12_uses_10 : decode (mC mX12_uses) 10 = .ok (.putfield 82, 3) := by decide +kernel
theorem dX12_uses_13 : decode (mC mX12_uses) 13 = .ok (.aload_n 0, 1) := by decide +kernel
theorem dX12_uses_14 : decode (mC mX12_uses) 14 = .ok (.iconst 0, 1) := by decide +kernel
theorem dX12_uses_15 : decode (mC mX12_uses) 15 = .ok (.putfield 79, 3) := by decide +kernel
theorem dX12_uses_18 : decode (mC mX12_uses) 18 = .ok (.aload_n 0, 1) := by decide +kernel
theorem dX12_uses_19 : decode (mC mX12_uses) 19 = .ok (.iconst 0, 1) := by decide +kernel
theorem dX12_uses_20 : decode (mC mX12_uses) 20 = .ok (.putfield 85, 3) := by decide +kernel
theorem dX12_uses_23 : decode (mC mX12_uses) 23 = .ok (.return_, 1) := by decide +kernel
set_option maxRecDepth 100000 in
theorem bX12_uses_0 {sc : Nat × (Nat → Int32)} {h : jH} {Q : jQ}
    (v1 : Q (.inl none) (jG0 sc) (jput (jput (jput (jput h 159 0 0) 159 7 ((jput h 159 0 0) 159 5)) 159 5 0) 159 6 0)) :
    WP mX12_uses Q 0 [some (.ref 159)] [] (jG0 sc) h (0, 0) := by
  refine j_aload_n (i := 0) rfl dX12_uses_0 ?_
  refine j_iconst (n := 0) 0 (by decide) dX12_uses_1 ?_
  refine j_putI (idx := 3) (ci := 12) (k := 0) (nest := false) (show (12, 3, 12, 0, false) ∈ jFT by decide) rfl rfl rfl rfl (Nat.le_of_ble_eq_true rfl) rfl dX12_uses_2 ?_
  refine j_aload_n (i := 0) rfl dX12_uses_5 ?_
  refine j_aload_n (i := 0) rfl dX12_uses_6 ?_
  refine j_getI (idx := 79) (ci := 12) (k := 5) (nest := false) (show (12, 79, 12, 5, false) ∈ jFT by decide) rfl (Nat.le_of_ble_eq_true rfl) rfl dX12_uses_7 ?_
  refine j_putI (idx := 82) (ci := 12) (k := 7) (nest := false) (show (12, 82, 12, 7, false) ∈ jFT by decide) rfl rfl rfl rfl (Nat.le_of_ble_eq_true rfl) rfl dX12_uses_10 ?_
  refine j_aload_n (i := 0) rfl dX12_uses_13 ?_
  refine j_iconst (n := 0) 0 (by decide) dX12_uses_14 ?_
  refine j_putI (idx := 79) (ci := 12) (k := 5) (nest := false) (show (12, 79, 12, 5, false) ∈ jFT by decide) rfl rfl rfl rfl (Nat.le_of_ble_eq_true rfl) rfl dX12_uses_15 ?_
  refine j_aload_n (i := 0) rfl dX12_uses_18 ?_
  refine j_iconst (n := 0) 0 (by decide) dX12_uses_19 ?_
  refine j_putI (idx := 85) (ci := 12) (k := 6) (nest := false) (show (12, 85, 12, 6, false) ∈ jFT by decide) rfl rfl rfl rfl (Nat.le_of_ble_eq_true rfl) rfl dX12_uses_20 ?_
  exact j_vret rfl (Nat.zero_le _) (Nat.zero_le _) dX12_uses_23 v1
set_option maxRecDepth 100000 in
theorem rX12_uses_0 {sc : Nat × (Nat → Int32)} {h : jH} {Q : jQ}
    (v1 : Q (.inl none) (jG0 sc) (jput (jput (jput (jput h 159 0 0) 159 7 ((jput h 159 0 0) 159 5)) 159 5 0) 159 6 0)) :
    WP mX12_uses Q 0 [some (.ref 159)] [] (jG0 sc) h (0, 0) := by
  exact (bX12_uses_0 v1)
theorem dX12_isAt_0 : decode (mC mX12_isAt) 0 = .ok (.aload_n 0, 1) := by decide +kernel
theorem dX12_isAt_1 : decode (mC mX12_isAt) 1 = .ok (.getfield 85, 3) := by decide +kernel
theorem dX12_isAt_4 : decode (mC mX12_isAt) 4 = .ok (.aload_n 0, 1) := by decide +kernel
theorem dX12_isAt_5 : decode (mC mX12_isAt) 5 = .ok (.getfield 82, 3) := by decide +kernel
theorem dX12_isAt_8 : decode (mC mX12_isAt) 8 = .ok (.if_icmp .ge 33, 3) := by decide +kernel
theorem dX12_isAt_11 : decode (mC mX12_isAt) 11 = .ok (.aload_n 0, 1) := by decide +kernel
theorem dX12_isAt_12 : decode (mC mX12_isAt) 12 = .ok (.getfield 20, 3) := by decide +kernel
theorem dX12_isAt_15 : decode (mC mX12_isAt) 15 = .ok (.aload_n 0, 1) := by decide +kernel
theorem dX12_isAt_16 : decode (mC mX12_isAt) 16 = .ok (.getfield 85, 3) := by decide +kernel
theorem dX12_isAt_19 : decode (mC mX12_isAt) 19 = .ok (.baload, 1) := by decide +kernel
theorem dX12_isAt_20 : decode (mC mX12_isAt) 20 = .ok (.iload_n 1, 1) := by decide +kernel
theorem dX12_isAt_21 : decode (mC mX12_isAt) 21 = .ok (.if_icmp .lt 20, 3) := by decide +kernel
theorem dX12_isAt_24 : decode (mC mX12_isAt) 24 = .ok (.aload_n 0, 1) := by decide +kernel
theorem dX12_isAt_25 : decode (mC mX12_isAt) 25 = .ok (.getfield 20, 3) := by decide +kernel
theorem dX12_isAt_28 : decode (mC mX12_isAt) 28 = .ok (.aload_n 0, 1) := by decide +kernel
theorem dX12_isAt_29 : decode (mC mX12_isAt) 29 = .ok (.getfield 85, 3) := by decide +kernel
theorem dX12_isAt_32 : decode (mC mX12_isAt) 32 = .ok (.baload, 1) := by decide +kernel
theorem dX12_isAt_33 : decode (mC mX12_isAt) 33 = .ok (.iload_n 2, 1) := by decide +kernel
theorem dX12_isAt_34 : decode (mC mX12_isAt) 34 = .ok (.if_icmp .gt 7, 3) := by decide +kernel
theorem dX12_isAt_37 : decode (mC mX12_isAt) 37 = .ok (.iconst 1, 1) := by decide +kernel
theorem dX12_isAt_38 : decode (mC mX12_isAt) 38 = .ok (.goto 4, 3) := by decide +kernel
theorem dX12_isAt_41 : decode (mC mX12_isAt) 41 = .ok (.iconst 0, 1) := by decide +kernel
theorem dX12_isAt_42 : decode (mC mX12_isAt) 42 = .ok (.ireturn, 1) := by decide +kernel
set_option maxRecDepth 100000 in
theorem bX12_isAt_0 {sc : Nat × (Nat → Int32)} {h : jH} {Q : jQ} {l1 l2 : Int32}
    (v1 : (h 159 7) ≤ (h 159 6) → WP mX12_isAt Q 41 [some (.ref 159), some (.int l1), some (.int l2)] [] (jG0 sc) h (0, 0))
    (v2 : ¬ (h 159 7) ≤ (h 159 6) → WP mX12_isAt Q 11 [some (.ref 159), some (.int l1), some (.int l2)] [] (jG0 sc) h (0, 0)) :
    WP mX12_isAt Q 0 [some (.ref 159), some (.int l1), some (.int l2)] [] (jG0 sc) h (0, 0) := by
  refine j_aload_n (i := 0) rfl dX12_isAt_0 ?_
  refine j_getI (idx := 85) (ci := 12) (k := 6) (nest := false) (show (12, 85, 12, 6, false) ∈ jFT by decide) rfl (Nat.le_of_ble_eq_true rfl) rfl dX12_isAt_1 ?_
  refine j_aload_n (i := 0) rfl dX12_isAt_4 ?_
  refine j_getI (idx := 82) (ci := 12) (k := 7) (nest := false) (show (12, 82, 12, 7, false) ∈ jFT by decide) rfl (Nat.le_of_ble_eq_true rfl) rfl dX12_isAt_5 ?_
  refine j_icmp_ge (off := 33) 41 dX12_isAt_8 (by decide) (fun c1 => ?_) (fun c1 => ?_)
  · exact j_le [some (.ref 159), some (.int l1), some (.int l2)] (And.intro rfl (And.intro rfl (And.intro rfl True.intro))) (v1 c1)
  · exact j_le [some (.ref 159), some (.int l1), some (.int l2)] (And.intro rfl (And.intro rfl (And.intro rfl True.intro))) (v2 c1)
set_option maxRecDepth 100000 in
theorem bX12_isAt_11 {sc : Nat × (Nat → Int32)} {h : jH} {Q : jQ} {l1 l2 : Int32}
    (o1 : vp_in (h 159 6) 400)
    (v1 : (h 162 ((h 159 6).toNatClampNeg)) < l1 → WP mX12_isAt Q 41 [some (.ref 159), some (.int l1), some (.int l2)] [] (jG0 sc) h (0, 0))
    (v2 : ¬ (h 162 ((h 159 6).toNatClampNeg)) < l1 → WP mX12_isAt Q 24 [some (.ref 159), some (.int l1), some (.int l2)] [] (jG0 sc) h (0, 0)) :
    WP mX12_isAt Q 11 [some (.ref 159), some (.int l1), some (.int l2)] [] (jG0 sc) h (0, 0) := by
  refine j_aload_n (i := 0) rfl dX12_isAt_11 ?_
  refine j_getR (idx := 20) (ci := 12) (k := 4) (nest := false) (show (12, 20, 12, 4, false) ∈ jFT by decide) rfl (Nat.le_of_ble_eq_true rfl) rfl (a := 162) rfl dX12_isAt_12 ?_
  refine j_aload_n (i := 0) rfl dX12_isAt_15 ?_
  refine j_getI (idx := 85) (ci := 12) (k := 6) (nest := false) (show (12, 85, 12, 6, false) ∈ jFT by decide) rfl (Nat.le_of_ble_eq_true rfl) rfl dX12_isAt_16 ?_
  refine j_bald (Nat.le_of_ble_eq_true rfl) rfl o1 dX12_isAt_19 ?_
  refine j_iload_n (i := 1) rfl dX12_isAt_20 ?_
  refine j_icmp_lt (off := 20) 41 dX12_isAt_21 (by decide) (fun c1 => ?_) (fun c1 => ?_)
  · exact j_le [some (.ref 159), some (.int l1), some (.int l2)] (And.intro rfl (And.intro rfl (And.intro rfl True.intro))) (v1 c1)
  · exact j_le [some (.ref 159), some (.int l1), some (.int l2)] (And.intro rfl (And.intro rfl (And.intro rfl True.intro))) (v2 c1)
set_option maxRecDepth 100000 in
theorem bX12_isAt_24 {sc : Nat × (Nat → Int32)} {h : jH} {Q : jQ} {l1 l2 : Int32}
    (o1 : vp_in (h 159 6) 400)
    (v1 : l2 < (h 162 ((h 159 6).toNatClampNeg)) → WP mX12_isAt Q 41 [some (.ref 159), some (.int l1), some (.int l2)] [] (jG0 sc) h (0, 0))
    (v2 : ¬ l2 < (h 162 ((h 159 6).toNatClampNeg)) → WP mX12_isAt Q 37 [some (.ref 159), some (.int l1), some (.int l2)] [] (jG0 sc) h (0, 0)) :
    WP mX12_isAt Q 24 [some (.ref 159), some (.int l1), some (.int l2)] [] (jG0 sc) h (0, 0) := by
  refine j_aload_n (i := 0) rfl dX12_isAt_24 ?_
  refine j_getR (idx := 20) (ci := 12) (k := 4) (nest := false) (show (12, 20, 12, 4, false) ∈ jFT by decide) rfl (Nat.le_of_ble_eq_true rfl) rfl (a := 162) rfl dX12_isAt_25 ?_
  refine j_aload_n (i := 0) rfl dX12_isAt_28 ?_
  refine j_getI (idx := 85) (ci := 12) (k := 6) (nest := false) (show (12, 85, 12, 6, false) ∈ jFT by decide) rfl (Nat.le_of_ble_eq_true rfl) rfl dX12_isAt_29 ?_
  refine j_bald (Nat.le_of_ble_eq_true rfl) rfl o1 dX12_isAt_32 ?_
  refine j_iload_n (i := 2) rfl dX12_isAt_33 ?_
  refine j_icmp_gt (off := 7) 41 dX12_isAt_34 (by decide) (fun c1 => ?_) (fun c1 => ?_)
  · exact j_le [some (.ref 159), some (.int l1), some (.int l2)] (And.intro rfl (And.intro rfl (And.intro rfl True.intro))) (v1 c1)
  · exact j_le [some (.ref 159), some (.int l1), some (.int l2)] (And.intro rfl (And.intro rfl (And.intro rfl True.intro))) (v2 c1)
set_option maxRecDepth 100000 in
theorem bX12_isAt_37 {sc : Nat × (Nat → Int32)} {h : jH} {Q : jQ} {l1 l2 : Int32}
    (v1 : WP mX12_isAt Q 42 [some (.ref 159), some (.int l1), some (.int l2)] [.int 1] (jG0 sc) h (0, 0)) :
    WP mX12_isAt Q 37 [some (.ref 159), some (.int l1), some (.int l2)] [] (jG0 sc) h (0, 0) := by
  refine j_iconst (n := 1) 1 (by decide) dX12_isAt_37 ?_
  refine j_goto (off := 4) 42 dX12_isAt_38 (by decide) ?_
  exact j_le [some (.ref 159), some (.int l1), some (.int l2)] (And.intro rfl (And.intro rfl (And.intro rfl True.intro))) v1
set_option maxRecDepth 100000 in
theorem bX12_isAt_41 {sc : Nat × (Nat → Int32)} {h : jH} {Q : jQ} {l1 l2 : Int32}
    (v1 : WP mX12_isAt Q 42 [some (.ref 159), some (.int l1), some (.int l2)] [.int 0] (jG0 sc) h (0, 0)) :
    WP mX12_isAt Q 41 [some (.ref 159), some (.int l1), some (.int l2)] [] (jG0 sc) h (0, 0) := by
  refine j_iconst (n := 0) 0 (by decide) dX12_isAt_41 ?_
  exact j_le [some (.ref 159), some (.int l1), some (.int l2)] (And.intro rfl (And.intro rfl (And.intro rfl True.intro))) v1
set_option maxRecDepth 100000 in
theorem bX12_isAt_42 {sc : Nat × (Nat → Int32)} {h : jH} {Q : jQ} {l1 l2 s0 : Int32}
    (o1 : s0 = 0 ∨ s0 = 1)
    (v1 : Q (.inl (some (.int s0))) (jG0 sc) h) :
    WP mX12_isAt Q 42 [some (.ref 159), some (.int l1), some (.int l2)] [.int s0] (jG0 sc) h (0, 0) := by
  exact j_iret rfl (jbn o1) (Nat.zero_le _) (Nat.zero_le _) dX12_isAt_42 v1
set_option maxRecDepth 100000 in
theorem rX12_isAt_0 {sc : Nat × (Nat → Int32)} {h : jH} {Q : jQ} {l1 l2 : Int32}
    (v1 : (h 159 7) ≤ (h 159 6) → Q (.inl (some (.int 0))) (jG0 sc) h)
    (o1 : ¬ (h 159 7) ≤ (h 159 6) → vp_in (h 159 6) 400)
    (v2 : ¬ (h 159 7) ≤ (h 159 6) → (h 162 ((h 159 6).toNatClampNeg)) < l1 → Q (.inl (some (.int 0))) (jG0 sc) h)
    (o2 : ¬ (h 159 7) ≤ (h 159 6) → ¬ (h 162 ((h 159 6).toNatClampNeg)) < l1 → vp_in (h 159 6) 400)
    (v3 : ¬ (h 159 7) ≤ (h 159 6) → ¬ (h 162 ((h 159 6).toNatClampNeg)) < l1 → l2 < (h 162 ((h 159 6).toNatClampNeg)) → Q (.inl (some (.int 0))) (jG0 sc) h)
    (v4 : ¬ (h 159 7) ≤ (h 159 6) → ¬ (h 162 ((h 159 6).toNatClampNeg)) < l1 → ¬ l2 < (h 162 ((h 159 6).toNatClampNeg)) → Q (.inl (some (.int 1))) (jG0 sc) h) :
    WP mX12_isAt Q 0 [some (.ref 159), some (.int l1), some (.int l2)] [] (jG0 sc) h (0, 0) := by
  exact (bX12_isAt_0 (fun c1 => (bX12_isAt_41 (bX12_isAt_42 (by decide) (v1 c1)))) (fun c1 => (bX12_isAt_11 (o1 c1) (fun c2 => (bX12_isAt_41 (bX12_isAt_42 (by decide) (v2 c1 c2)))) (fun c2 => (bX12_isAt_24 (o2 c1 c2) (fun c3 => (bX12_isAt_41 (bX12_isAt_42 (by decide) (v3 c1 c2 c3)))) (fun c3 => (bX12_isAt_37 (bX12_isAt_42 (by decide) (v4 c1 c2 c3)))))))))
theorem dX12_blanks_0 : decode (mC mX12_blanks) 0 = .ok (.aload_n 0, 1) := by decide +kernel
theorem dX12_blanks_1 : decode (mC mX12_blanks) 1 = .ok (.bipush 32, 2) := by decide +kernel
theorem dX12_blanks_3 : decode (mC mX12_blanks) 3 = .ok (.bipush 32, 2) := by decide +kernel
theorem dX12_blanks_5 : decode (mC mX12_blanks) 5 = .ok (.invokevirtual 88, 3) := by decide +kernel
theorem dX12_blanks_8 : decode (mC mX12_blanks) 8 = .ok (.ifCond .eq 16, 3) := by decide +kernel
theorem dX12_blanks_11 : decode (mC mX12_blanks) 11 = .ok (.aload_n 0, 1) := by decide +kernel
theorem dX12_blanks_12 : decode (mC mX12_blanks) 12 = .ok (.dup, 1) := by decide +kernel
theorem dX12_blanks_13 : decode (mC mX12_blanks) 13 = .ok (.getfield 85, 3) := by decide +kernel
theorem dX12_blanks_16 : decode (mC mX12_blanks) 16 = .ok (.iconst 1, 1) := by decide +kernel
theorem dX12_blanks_17 : decode (mC mX12_blanks) 17 = .ok (.iadd, 1) := by decide +kernel
theorem dX12_blanks_18 : decode (mC mX12_blanks) 18 = .ok (.putfield 85, 3) := by decide +kernel
theorem dX12_blanks_21 : decode (mC mX12_blanks) 21 = .ok (.goto (-21), 3) := by decide +kernel
theorem dX12_blanks_24 : decode (mC mX12_blanks) 24 = .ok (.aload_n 0, 1) := by decide +kernel
theorem dX12_blanks_25 : decode (mC mX12_blanks) 25 = .ok (.aload_n 0, 1) := by decide +kernel
theorem dX12_blanks_26 : decode (mC mX12_blanks) 26 = .ok (.getfield 85, 3) := by decide +kernel
theorem dX12_blanks_29 : decode (mC mX12_blanks) 29 = .ok (.putfield 92, 3) := by decide +kernel
theorem dX12_blanks_32 : decode (mC mX12_blanks) 32 = .ok (.return_, 1) := by decide +kernel
set_option maxRecDepth 100000 in
theorem bX12_blanks_0 {sc : Nat × (Nat → Int32)} {h : jH} {Q : jQ} {P1 : Int32 → jH → Prop}
    (k1 : JM mX12_isAt [.ref 159, .int 32, .int 32] (jG0 sc) h (jint sc P1))
    (v1 : ∀ (x1 : Int32) (h1 : jH), P1 x1 h1 → x1 = 0 → WP mX12_blanks Q 24 [some (.ref 159)] [] (jG0 sc) h1 (0, 0))
    (v2 : ∀ (x1 : Int32) (h1 : jH), P1 x1 h1 → ¬ x1 = 0 → WP mX12_blanks Q 11 [some (.ref 159)] [] (jG0 sc) h1 (0, 0)) :
    WP mX12_blanks Q 0 [some (.ref 159)] [] (jG0 sc) h (0, 0) := by
  refine j_aload_n (i := 0) rfl dX12_blanks_0 ?_
  refine j_bipush (n := 32) 32 (by decide) dX12_blanks_1 ?_
  refine j_bipush (n := 32) 32 (by decide) dX12_blanks_3 ?_
  refine j_callV (idx := 88) (As := [.int 32, .int 32]) (ci := 12) (n := 2) k1 jint_nt (jlkT (jtb6 215 rfl) rfl) sX12_isAt kX12_isAt rfl ⟨rfl, by decide +kernel, by decide +kernel, by decide +kernel⟩ rfl ⟨by decide, by decide⟩ (Nat.le_of_ble_eq_true rfl) rfl (Nat.le_of_ble_eq_true rfl) (Nat.le_of_ble_eq_true rfl) ⟨Nat.zero_le _, Nat.zero_le _⟩ dX12_blanks_5 (fun r Γ' h1 q => ?_)
  obtain ⟨x1, q0, rfl, p1⟩ := q; cases q0
  refine j_eqst [.int x1] (by rfl) ?_
  refine j_if_eq (off := 16) 24 dX12_blanks_8 (by decide) (fun c1 => ?_) (fun c1 => ?_)
  · exact j_le [some (.ref 159)] (And.intro rfl True.intro) (v1 x1 h1 p1 c1)
  · exact j_le [some (.ref 159)] (And.intro rfl True.intro) (v2 x1 h1 p1 c1)
set_option maxRecDepth 100000 in
theorem bX12_blanks_11 {sc : Nat × (Nat → Int32)} {h : jH} {Q : jQ}
    (v1 : WP mX12_blanks Q 0 [some (.ref 159)] [] (jG0 sc) (jput h 159 6 ((h 159 6) + 1)) (0, 0)) :
    WP mX12_blanks Q 11 [some (.ref 159)] [] (jG0 sc) h (0, 0) := by
  refine j_aload_n (i := 0) rfl dX12_blanks_11 ?_
  refine j_dup rfl dX12_blanks_12 ?_
  refine j_getI (idx := 85) (ci := 12) (k := 6) (nest := false) (show (12, 85, 12, 6, false) ∈ jFT by decide) rfl (Nat.le_of_ble_eq_true rfl) rfl dX12_blanks_13 ?_
  refine j_iconst (n := 1) 1 (by decide) dX12_blanks_16 ?_
  refine j_iadd dX12_blanks_17 ?_
  refine j_putI (idx := 85) (ci := 12) (k := 6) (nest := false) (show (12, 85, 12, 6, false) ∈ jFT by decide) rfl rfl rfl rfl (Nat.le_of_ble_eq_true rfl) rfl dX12_blanks_18 ?_
  refine j_goto (off := -21) 0 dX12_blanks_21 (by decide) ?_
  exact j_le [some (.ref 159)] (And.intro rfl True.intro) v1
set_option maxRecDepth 100000 in
theorem bX12_blanks_24 {sc : Nat × (Nat → Int32)} {h : jH} {Q : jQ}
    (v1 : Q (.inl none) (jG0 sc) (jput h 159 8 (h 159 6))) :
    WP mX12_blanks Q 24 [some (.ref 159)] [] (jG0 sc) h (0, 0) := by
  refine j_aload_n (i := 0) rfl dX12_blanks_24 ?_
  refine j_aload_n (i := 0) rfl dX12_blanks_25 ?_
  refine j_getI (idx := 85) (ci := 12) (k := 6) (nest := false) (show (12, 85, 12, 6, false) ∈ jFT by decide) rfl (Nat.le_of_ble_eq_true rfl) rfl dX12_blanks_26 ?_
  refine j_putI (idx := 92) (ci := 12) (k := 8) (nest := false) (show (12, 92, 12, 8, false) ∈ jFT by decide) rfl rfl rfl rfl (Nat.le_of_ble_eq_true rfl) rfl dX12_blanks_29 ?_
  exact j_vret rfl (Nat.zero_le _) (Nat.zero_le _) dX12_blanks_32 v1
set_option maxRecDepth 100000 in
theorem rX12_blanks_0 {sc : Nat × (Nat → Int32)} {h : jH} {Q : jQ} {P1 : Int32 → jH → Prop}
    (k1 : JM mX12_isAt [.ref 159, .int 32, .int 32] (jG0 sc) h (jint sc P1))
    (v1 : ∀ (x1 : Int32) (h1 : jH), P1 x1 h1 → x1 = 0 → Q (.inl none) (jG0 sc) (jput h1 159 8 (h1 159 6)))
    (v2 : ∀ (x1 : Int32) (h1 : jH), P1 x1 h1 → ¬ x1 = 0 → WP mX12_blanks Q 0 [some (.ref 159)] [] (jG0 sc) (jput h1 159 6 ((h1 159 6) + 1)) (0, 0)) :
    WP mX12_blanks Q 0 [some (.ref 159)] [] (jG0 sc) h (0, 0) := by
  exact (bX12_blanks_0 k1 (fun x1 h1 p1 c1 => (bX12_blanks_24 (v1 x1 h1 p1 c1))) (fun x1 h1 p1 c1 => (bX12_blanks_11 (v2 x1 h1 p1 c1))))
theorem dX12_letters_0 : decode (mC mX12_letters) 0 = .ok (.aload_n 0, 1) := by decide +kernel
theorem dX12_letters_1 : decode (mC mX12_letters) 1 = .ok (.invokevirtual 95, 3) := by decide +kernel
theorem dX12_letters_4 : decode (mC mX12_letters) 4 = .ok (.aload_n 0, 1) := by decide +kernel
theorem dX12_letters_5 : decode (mC mX12_letters) 5 = .ok (.bipush 97, 2) := by decide +kernel
theorem dX12_letters_7 : decode (mC mX12_letters) 7 = .ok (.bipush 122, 2) := by decide +kernel
theorem dX12_letters_9 : decode (mC mX12_letters) 9 = .ok (.invokevirtual 88, 3) := by decide +kernel
theorem dX12_letters_12 : decode (mC mX12_letters) 12 = .ok (.ifCond .eq 16, 3) := by decide +kernel
theorem dX12_letters_15 : decode (mC mX12_letters) 15 = .ok (.aload_n 0, 1) := by decide +kernel
theorem dX12_letters_16 : decode (mC mX12_letters) 16 = .ok (.dup, 1) := by decide +kernel
theorem dX12_letters_17 : decode (mC mX12_letters) 17 = .ok (.getfield 85, 3) := by decide +kernel
theorem dX12_letters_20 : decode (mC mX12_letters) 20 = .ok (.iconst 1, 1) := by decide +kernel
theorem dX12_letters_21 : decode (mC mX12_letters) 21 = .ok (.iadd, 1) := by decide +kernel
theorem dX12_letters_22 : decode (mC mX12_letters) 22 = .ok (.putfield 85, 3) := by decide +kernel
theorem dX12_letters_25 : decode (mC mX12_letters) 25 = .ok (.goto (-21), 3) := by decide +kernel
theorem dX12_letters_28 : decode (mC mX12_letters) 28 = .ok (.return_, 1) := by decide +kernel
set_option maxRecDepth 100000 in
theorem bX12_letters_0 {sc : Nat × (Nat → Int32)} {h : jH} {Q : jQ} {P1 : jH → Prop}
    (k1 : JM mX12_blanks [.ref 159] (jG0 sc) h (jvoid sc P1))
    (v1 : ∀ h1 : jH, P1 h1 → WP mX12_letters Q 4 [some (.ref 159)] [] (jG0 sc) h1 (0, 0)) :
    WP mX12_letters Q 0 [some (.ref 159)] [] (jG0 sc) h (0, 0) := by
  refine j_aload_n (i := 0) rfl dX12_letters_0 ?_
  refine j_callV (idx := 95) (As := []) (ci := 12) (n := 0) k1 jvoid_nt (jlkT (jtb6 211 rfl) rfl) sX12_blanks kX12_blanks rfl ⟨rfl, by decide +kernel, by decide +kernel, by decide +kernel⟩ rfl ⟨by decide, by decide⟩ (Nat.le_of_ble_eq_true rfl) rfl (Nat.le_of_ble_eq_true rfl) (Nat.le_of_ble_eq_true rfl) ⟨Nat.zero_le _, Nat.zero_le _⟩ dX12_letters_1 (fun r Γ' h1 q => ?_)
  obtain ⟨q0, rfl, p1⟩ := q; cases q0
  refine j_eqst [] (by rfl) ?_
  exact j_le [some (.ref 159)] (And.intro rfl True.intro) (v1 h1 p1)
set_option maxRecDepth 100000 in
theorem bX12_letters_4 {sc : Nat × (Nat → Int32)} {h : jH} {Q : jQ} {P1 : Int32 → jH → Prop}
    (k1 : JM mX12_isAt [.ref 159, .int 97, .int 122] (jG0 sc) h (jint sc P1))
    (v1 : ∀ (x1 : Int32) (h1 : jH), P1 x1 h1 → x1 = 0 → WP mX12_letters Q 28 [some (.ref 159)] [] (jG0 sc) h1 (0, 0))
    (v2 : ∀ (x1 : Int32) (h1 : jH), P1 x1 h1 → ¬ x1 = 0 → WP mX12_letters Q 15 [some (.ref 159)] [] (jG0 sc) h1 (0, 0)) :
    WP mX12_letters Q 4 [some (.ref 159)] [] (jG0 sc) h (0, 0) := by
  refine j_aload_n (i := 0) rfl dX12_letters_4 ?_
  refine j_bipush (n := 97) 97 (by decide) dX12_letters_5 ?_
  refine j_bipush (n := 122) 122 (by decide) dX12_letters_7 ?_
  refine j_callV (idx := 88) (As := [.int 97, .int 122]) (ci := 12) (n := 2) k1 jint_nt (jlkT (jtb6 215 rfl) rfl) sX12_isAt kX12_isAt rfl ⟨rfl, by decide +kernel, by decide +kernel, by decide +kernel⟩ rfl ⟨by decide, by decide⟩ (Nat.le_of_ble_eq_true rfl) rfl (Nat.le_of_ble_eq_true rfl) (Nat.le_of_ble_eq_true rfl) ⟨Nat.zero_le _, Nat.zero_le _⟩ dX12_letters_9 (fun r Γ' h1 q => ?_)
  obtain ⟨x1, q0, rfl, p1⟩ := q; cases q0
  refine j_eqst [.int x1] (by rfl) ?_
  refine j_if_eq (off := 16) 28 dX12_letters_12 (by decide) (fun c1 => ?_) (fun c1 => ?_)
  · exact j_le [some (.ref 159)] (And.intro rfl True.intro) (v1 x1 h1 p1 c1)
  · exact j_le [some (.ref 159)] (And.intro rfl True.intro) (v2 x1 h1 p1 c1)
set_option maxRecDepth 100000 in
theorem bX12_letters_15 {sc : Nat × (Nat → Int32)} {h : jH} {Q : jQ}
    (v1 : WP mX12_letters Q 4 [some (.ref 159)] [] (jG0 sc) (jput h 159 6 ((h 159 6) + 1)) (0, 0)) :
    WP mX12_letters Q 15 [some (.ref 159)] [] (jG0 sc) h (0, 0) := by
  refine j_aload_n (i := 0) rfl dX12_letters_15 ?_
  refine j_dup rfl dX12_letters_16 ?_
  refine j_getI (idx := 85) (ci := 12) (k := 6) (nest := false) (show (12, 85, 12, 6, false) ∈ jFT by decide) rfl (Nat.le_of_ble_eq_true rfl) rfl dX12_letters_17 ?_
  refine j_iconst (n := 1) 1 (by decide) dX12_letters_20 ?_
  refine j_iadd dX12_letters_21 ?_
  refine j_putI (idx := 85) (ci := 12) (k := 6) (nest := false) (show (12, 85, 12, 6, false) ∈ jFT by decide) rfl rfl rfl rfl (Nat.le_of_ble_eq_true rfl) rfl dX12_letters_22 ?_
  refine j_goto (off := -21) 4 dX12_letters_25 (by decide) ?_
  exact j_le [some (.ref 159)] (And.intro rfl True.intro) v1
set_option maxRecDepth 100000 in
theorem bX12_letters_28 {sc : Nat × (Nat → Int32)} {h : jH} {Q : jQ}
    (v1 : Q (.inl none) (jG0 sc) h) :
    WP mX12_letters Q 28 [some (.ref 159)] [] (jG0 sc) h (0, 0) := by
  exact j_vret rfl (Nat.zero_le _) (Nat.zero_le _) dX12_letters_28 v1
set_option maxRecDepth 100000 in
theorem rX12_letters_0 {sc : Nat × (Nat → Int32)} {h : jH} {Q : jQ} {P1 : jH → Prop}
    (k1 : JM mX12_blanks [.ref 159] (jG0 sc) h (jvoid sc P1))
    (v1 : ∀ h1 : jH, P1 h1 → WP mX12_letters Q 4 [some (.ref 159)] [] (jG0 sc) h1 (0, 0)) :
    WP mX12_letters Q 0 [some (.ref 159)] [] (jG0 sc) h (0, 0) := by
  exact (bX12_letters_0 k1 (fun h1 p1 => (v1 h1 p1)))
set_option maxRecDepth 100000 in
theorem rX12_letters_4 {sc : Nat × (Nat → Int32)} {h : jH} {Q : jQ} {P1 : Int32 → jH → Prop}
    (k1 : JM mX12_isAt [.ref 159, .int 97, .int 122] (jG0 sc) h (jint sc P1))
    (v1 : ∀ (x1 : Int32) (h1 : jH), P1 x1 h1 → x1 = 0 → Q (.inl none) (jG0 sc) h1)
    (v2 : ∀ (x1 : Int32) (h1 : jH), P1 x1 h1 → ¬ x1 = 0 → WP mX12_letters Q 4 [some (.ref 159)] [] (jG0 sc) (jput h1 159 6 ((h1 159 6) + 1)) (0, 0)) :
    WP mX12_letters Q 4 [some (.ref 159)] [] (jG0 sc) h (0, 0) := by
  exact (bX12_letters_4 k1 (fun x1 h1 p1 c1 => (bX12_letters_28 (v1 x1 h1 p1 c1))) (fun x1 h1 p1 c1 => (bX12_letters_15 (v2 x1 h1 p1 c1))))
theorem dX12_isWord_0 : decode (mC mX12_isWord) 0 = .ok (.aload_n 0, 1) := by decide +kernel
theorem dX12_isWord_1 : decode (mC mX12_isWord) 1 = .ok (.getfield 85, 3) := by decide +kernel
theorem dX12_isWord_4 : decode (mC mX12_isWord) 4 = .ok (.aload_n 0, 1) := by decide +kernel
theorem dX12_isWord_5 : decode (mC mX12_isWord) 5 = .ok (.getfield 92, 3) := by decide +kernel
theorem dX12_isWord_8 : decode (mC mX12_isWord) 8 = .ok (.isub, 1) := by decide +kernel
theorem dX12_isWord_9 : decode (mC mX12_isWord) 9 = .ok (.aload_n 1, 1) := by decide +kernel
theorem dX12_isWord_10 : decode (mC mX12_isWord) 10 = .ok (.invokevirtual 98, 3) := by decide +kernel
theorem dX12_isWord_13 : decode (mC mX12_isWord) 13 = .ok (.if_icmp .ne 7, 3) := by decide +kernel
theorem dX12_isWord_16 : decode (mC mX12_isWord) 16 = .ok (.iconst 1, 1) := by decide +kernel
theorem dX12_isWord_17 : decode (mC mX12_isWord) 17 = .ok (.goto 4, 3) := by decide +kernel
theorem dX12_isWord_20 : decode (mC mX12_isWord) 20 = .ok (.iconst 0, 1) := by decide +kernel
theorem dX12_isWord_21 : decode (mC mX12_isWord) 21 = .ok (.istore_n 2, 1) := by decide +kernel
theorem dX12_isWord_22 : decode (mC mX12_isWord) 22 = .ok (.iconst 0, 1) := by decide +kernel
theorem dX12_isWord_23 : decode (mC mX12_isWord) 23 = .ok (.istore_n 3, 1) := by decide +kernel
theorem dX12_isWord_24 : decode (mC mX12_isWord) 24 = .ok (.iload_n 2, 1) := by decide +kernel
theorem dX12_isWord_25 : decode (mC mX12_isWord) 25 = .ok (.ifCond .eq 42, 3) := by decide +kernel
theorem dX12_isWord_28 : decode (mC mX12_isWord) 28 = .ok (.iload_n 3, 1) := by decide +kernel
theorem dX12_isWord_29 : decode (mC mX12_isWord) 29 = .ok (.aload_n 1, 1) := by decide +kernel
theorem dX12_isWord_30 : decode (mC mX12_isWord) 30 = .ok (.invokevirtual 98, 3) := by decide +kernel
theorem dX12_isWord_33 : decode (mC mX12_isWord) 33 = .ok (.if_icmp .ge 34, 3) := by decide +kernel
theorem dX12_isWord_36 : decode (mC mX12_isWord) 36 = .ok (.aload_n 0, 1) := by decide +kernel
theorem dX12_isWord_37 : decode (mC mX12_isWord) 37 = .ok (.getfield 20, 3) := by decide +kernel
theorem dX12_isWord_40 : decode (mC mX12_isWord) 40 = .ok (.aload_n 0, 1) := by decide +kernel
theorem dX12_isWord_41 : decode (mC mX12_isWord) 41 = .ok (.getfield 92, 3) := by decide +kernel
theorem dX12_isWord_44 : decode (mC mX12_isWord) 44 = .ok (.iload_n 3, 1) := by decide +kernel
theorem dX12_isWord_45 : decode (mC mX12_isWord) 45 = .ok (.iadd, 1) := by decide +kernel
theorem dX12_isWord_46 : decode (mC mX12_isWord) 46 = .ok (.baload, 1) := by decide +kernel
theorem dX12_isWord_47 : decode (mC mX12_isWord) 47 = .ok (.aload_n 1, 1) := by decide +kernel
theorem dX12_isWord_48 : decode (mC mX12_isWord) 48 = .ok (.iload_n 3, 1) := by decide +kernel
theorem dX12_isWord_49 : decode (mC mX12_isWord) 49 = .ok (.invokevirtual 104, 3) := by decide +kernel
theorem dX12_isWord_52 : decode (mC mX12_isWord) 52 = .ok (.if_icmp .ne 7, 3) := by decide +kernel
theorem dX12_isWord_55 : decode (mC mX12_isWord) 55 = .ok (.iconst 1, 1) := by decide +kernel
theorem dX12_isWord_56 : decode (mC mX12_isWord) 56 = .ok (.goto 4, 3) := by decide +kernel
theorem dX12_isWord_59 : decode (mC mX12_isWord) 59 = .ok (.iconst 0, 1) := by decide +kernel
theorem dX12_isWord_60 : decode (mC mX12_isWord) 60 = .ok (.istore_n 2, 1) := by decide +kernel
theorem dX12_isWord_61 : decode (mC mX12_isWord) 61 = .ok (.iinc 3 1, 3) := by decide +kernel
theorem dX12_isWord_64 : decode (mC mX12_isWord) 64 = .ok (.goto (-40), 3) := by decide +kernel
theorem dX12_isWord_67 : decode (mC mX12_isWord) 67 = .ok (.iload_n 2, 1) := by decide +kernel
theorem dX12_isWord_68 : decode (mC mX12_isWord) 68 = .ok (.ireturn, 1) := by decide +kernel
set_option maxRecDepth 100000 in
theorem bX12_isWord_0 {sc : Nat × (Nat → Int32)} {h : jH} {Q : jQ} {n : Nat} {P1 : Int32 → jH → Prop} (n_h : n < 22)
    (k1 : JM mJlength [.ref (1001 + n)] (jG0 sc) h (jint sc P1))
    (v1 : ∀ (x1 : Int32) (h1 : jH), P1 x1 h1 → ¬ ((h 159 6) - (h 159 8)) = x1 → WP mX12_isWord Q 20 [some (.ref 159), some (.ref (1001 + n)), none, none] [] (jG0 sc) h1 (0, 0))
    (v2 : ∀ (x1 : Int32) (h1 : jH), P1 x1 h1 → ((h 159 6) - (h 159 8)) = x1 → WP mX12_isWord Q 16 [some (.ref 159), some (.ref (1001 + n)), none, none] [] (jG0 sc) h1 (0, 0)) :
    WP mX12_isWord Q 0 [some (.ref 159), some (.ref (1001 + n)), none, none] [] (jG0 sc) h (0, 0) := by
  refine j_aload_n (i := 0) rfl dX12_isWord_0 ?_
  refine j_getI (idx := 85) (ci := 12) (k := 6) (nest := false) (show (12, 85, 12, 6, false) ∈ jFT by decide) rfl (Nat.le_of_ble_eq_true rfl) rfl dX12_isWord_1 ?_
  refine j_aload_n (i := 0) rfl dX12_isWord_4 ?_
  refine j_getI (idx := 92) (ci := 12) (k := 8) (nest := false) (show (12, 92, 12, 8, false) ∈ jFT by decide) rfl (Nat.le_of_ble_eq_true rfl) rfl dX12_isWord_5 ?_
  refine j_isub dX12_isWord_8 ?_
  refine j_aload_n (i := 1) rfl dX12_isWord_9 ?_
  refine j_callStr (i := n) (idx := 98) (As := []) (n := 0) k1 jint_nt (jlkT (jtb6 227 rfl) rfl) sJlength kJlength rfl ⟨rfl, by decide +kernel, by decide +kernel, by decide +kernel⟩ rfl ⟨by decide, by decide⟩ n_h (Nat.le_of_ble_eq_true rfl) ⟨Nat.zero_le _, Nat.zero_le _⟩ dX12_isWord_10 (fun r Γ' h1 q => ?_)
  obtain ⟨x1, q0, rfl, p1⟩ := q; cases q0
  refine j_eqst [.int x1, .int ((h 159 6) - (h 159 8))] (by rfl) ?_
  refine j_icmp_ne (off := 7) 20 dX12_isWord_13 (by decide) (fun c1 => ?_) (fun c1 => ?_)
  · exact j_le [some (.ref 159), some (.ref (1001 + n)), none, none] (And.intro rfl (And.intro rfl True.intro)) (v1 x1 h1 p1 c1)
  · exact j_le [some (.ref 159), some (.ref (1001 + n)), none, none] (And.intro rfl (And.intro rfl True.intro)) (v2 x1 h1 p1 c1)
set_option maxRecDepth 100000 in
theorem bX12_isWord_16 {sc : Nat × (Nat → Int32)} {h : jH} {Q : jQ} {n : Nat} (n_h : n < 22)
    (v1 : WP mX12_isWord Q 21 [some (.ref 159), some (.ref (1001 + n)), none, none] [.int 1] (jG0 sc) h (0, 0)) :
    WP mX12_isWord Q 16 [some (.ref 159), some (.ref (1001 + n)), none, none] [] (jG0 sc) h (0, 0) := by
  refine j_iconst (n := 1) 1 (by decide) dX12_isWord_16 ?_
  refine j_goto (off := 4) 21 dX12_isWord_17 (by decide) ?_
  exact j_le [some (.ref 159), some (.ref (1001 + n)), none, none] (And.intro rfl (And.intro rfl True.intro)) v1
set_option maxRecDepth 100000 in
theorem bX12_isWord_20 {sc : Nat × (Nat → Int32)} {h : jH} {Q : jQ} {n : Nat} (n_h : n < 22)
    (v1 : WP mX12_isWord Q 21 [some (.ref 159), some (.ref (1001 + n)), none, none] [.int 0] (jG0 sc) h (0, 0)) :
    WP mX12_isWord Q 20 [some (.ref 159), some (.ref (1001 + n)), none, none] [] (jG0 sc) h (0, 0) := by
  refine j_iconst (n := 0) 0 (by decide) dX12_isWord_20 ?_
  exact j_le [some (.ref 159), some (.ref (1001 + n)), none, none] (And.intro rfl (And.intro rfl True.intro)) v1
set_option maxRecDepth 100000 in
theorem bX12_isWord_21 {sc : Nat × (Nat → Int32)} {h : jH} {Q : jQ} {n : Nat} {s0 : Int32} (n_h : n < 22)
    (v1 : WP mX12_isWord Q 24 [some (.ref 159), some (.ref (1001 + n)), some (.int s0), some (.int 0)] [] (jG0 sc) h (0, 0)) :
    WP mX12_isWord Q 21 [some (.ref 159), some (.ref (1001 + n)), none, none] [.int s0] (jG0 sc) h (0, 0) := by
  refine j_istore_n (i := 2) dX12_isWord_21 (Nat.le_of_ble_eq_true rfl) ?_
  refine j_iconst (n := 0) 0 (by decide) dX12_isWord_22 ?_
  refine j_istore_n (i := 3) dX12_isWord_23 (Nat.le_of_ble_eq_true rfl) ?_
  exact j_le [some (.ref 159), some (.ref (1001 + n)), some (.int s0), some (.int 0)] (And.intro rfl (And.intro rfl (And.intro rfl (And.intro rfl True.intro)))) v1
set_option maxRecDepth 100000 in
theorem bX12_isWord_24 {sc : Nat × (Nat → Int32)} {h : jH} {Q : jQ} {n : Nat} {l2 l3 : Int32} (n_h : n < 22)
    (v1 : l2 = 0 → WP mX12_isWord Q 67 [some (.ref 159), some (.ref (1001 + n)), some (.int l2), some (.int l3)] [] (jG0 sc) h (0, 0))
    (v2 : ¬ l2 = 0 → WP mX12_isWord Q 28 [some (.ref 159), some (.ref (1001 + n)), some (.int l2), some (.int l3)] [] (jG0 sc) h (0, 0)) :
    WP mX12_isWord Q 24 [some (.ref 159), some (.ref (1001 + n)), some (.int l2), some (.int l3)] [] (jG0 sc) h (0, 0) := by
  refine j_iload_n (i := 2) rfl dX12_isWord_24 ?_
  refine j_if_eq (off := 42) 67 dX12_isWord_25 (by decide) (fun c1 => ?_) (fun c1 => ?_)
  · exact j_le [some (.ref 159), some (.ref (1001 + n)), some (.int l2), some (.int l3)] (And.intro rfl (And.intro rfl (And.intro rfl (And.intro rfl True.intro)))) (v1 c1)
  · exact j_le [some (.ref 159), some (.ref (1001 + n)), some (.int l2), some (.int l3)] (And.intro rfl (And.intro rfl (And.intro rfl (And.intro rfl True.intro)))) (v2 c1)
set_option maxRecDepth 100000 in
theorem bX12_isWord_28 {sc : Nat × (Nat → Int32)} {h : jH} {Q : jQ} {n : Nat} {l2 l3 : Int32} {P1 : Int32 → jH → Prop} (n_h : n < 22)
    (k1 : JM mJlength [.ref (1001 + n)] (jG0 sc) h (jint sc P1))
    (v1 : ∀ (x1 : Int32) (h1 : jH), P1 x1 h1 → x1 ≤ l3 → WP mX12_isWord Q 67 [some (.ref 159), some (.ref (1001 + n)), some (.int l2), some (.int l3)] [] (jG0 sc) h1 (0, 0))
    (v2 : ∀ (x1 : Int32) (h1 : jH), P1 x1 h1 → ¬ x1 ≤ l3 → WP mX12_isWord Q 36 [some (.ref 159), some (.ref (1001 + n)), some (.int l2), some (.int l3)] [] (jG0 sc) h1 (0, 0)) :
    WP mX12_isWord Q 28 [some (.ref 159), some (.ref (1001 + n)), some (.int l2), some (.int l3)] [] (jG0 sc) h (0, 0) := by
  refine j_iload_n (i := 3) rfl dX12_isWord_28 ?_
  refine j_aload_n (i := 1) rfl dX12_isWord_29 ?_
  refine j_callStr (i := n) (idx := 98) (As := []) (n := 0) k1 jint_nt (jlkT (jtb6 227 rfl) rfl) sJlength kJlength rfl ⟨rfl, by decide +kernel, by decide +kernel, by decide +kernel⟩ rfl ⟨by decide, by decide⟩ n_h (Nat.le_of_ble_eq_true rfl) ⟨Nat.zero_le _, Nat.zero_le _⟩ dX12_isWord_30 (fun r Γ' h1 q => ?_)
  obtain ⟨x1, q0, rfl, p1⟩ := q; cases q0
  refine j_eqst [.int x1, .int l3] (by rfl) ?_
  refine j_icmp_ge (off := 34) 67 dX12_isWord_33 (by decide) (fun c1 => ?_) (fun c1 => ?_)
  · exact j_le [some (.ref 159), some (.ref (1001 + n)), some (.int l2), some (.int l3)] (And.intro rfl (And.intro rfl (And.intro rfl (And.intro rfl True.intro)))) (v1 x1 h1 p1 c1)
  · exact j_le [some (.ref 159), some (.ref (1001 + n)), some (.int l2), some (.int l3)] (And.intro rfl (And.intro rfl (And.intro rfl (And.intro rfl True.intro)))) (v2 x1 h1 p1 c1)
set_option maxRecDepth 100000 in
theorem bX12_isWord_36 {sc : Nat × (Nat → Int32)} {h : jH} {Q : jQ} {n : Nat} {l2 l3 : Int32} {P1 : Int32 → jH → Prop} (n_h : n < 22)
    (o1 : vp_in ((h 159 8) + l3) 400)
    (k1 : JM mJcharAt [.ref (1001 + n), .int l3] (jG0 sc) h (jint sc P1))
    (v1 : ∀ (x1 : Int32) (h1 : jH), P1 x1 h1 → ¬ (h 162 (((h 159 8) + l3).toNatClampNeg)) = x1 → WP mX12_isWord Q 59 [some (.ref 159), some (.ref (1001 + n)), some (.int l2), some (.int l3)] [] (jG0 sc) h1 (0, 0))
    (v2 : ∀ (x1 : Int32) (h1 : jH), P1 x1 h1 → (h 162 (((h 159 8) + l3).toNatClampNeg)) = x1 → WP mX12_isWord Q 55 [some (.ref 159), some (.ref (1001 + n)), some (.int l2), some (.int l3)] [] (jG0 sc) h1 (0, 0)) :
    WP mX12_isWord Q 36 [some (.ref 159), some (.ref (1001 + n)), some (.int l2), some (.int l3)] [] (jG0 sc) h (0, 0) := by
  refine j_aload_n (i := 0) rfl dX12_isWord_36 ?_
  refine j_getR (idx := 20) (ci := 12) (k := 4) (nest := false) (show (12, 20, 12, 4, false) ∈ jFT by decide) rfl (Nat.le_of_ble_eq_true rfl) rfl (a := 162) rfl dX12_isWord_37 ?_
  refine j_aload_n (i := 0) rfl dX12_isWord_40 ?_
  refine j_getI (idx := 92) (ci := 12) (k := 8) (nest := false) (show (12, 92, 12, 8, false) ∈ jFT by decide) rfl (Nat.le_of_ble_eq_true rfl) rfl dX12_isWord_41 ?_
  refine j_iload_n (i := 3) rfl dX12_isWord_44 ?_
  refine j_iadd dX12_isWord_45 ?_
  refine j_bald (Nat.le_of_ble_eq_true rfl) rfl o1 dX12_isWord_46 ?_
  refine j_aload_n (i := 1) rfl dX12_isWord_47 ?_
  refine j_iload_n (i := 3) rfl dX12_isWord_48 ?_
  refine j_callStr (i := n) (idx := 104) (As := [.int l3]) (n := 1) k1 jint_nt (jlkT (jtb6 228 rfl) rfl) sJcharAt kJcharAt rfl ⟨rfl, by decide +kernel, by decide +kernel, by decide +kernel⟩ rfl ⟨by decide, by decide⟩ n_h (Nat.le_of_ble_eq_true rfl) ⟨Nat.zero_le _, Nat.zero_le _⟩ dX12_isWord_49 (fun r Γ' h1 q => ?_)
  obtain ⟨x1, q0, rfl, p1⟩ := q; cases q0
  refine j_eqst [.int x1, .int (h 162 (((h 159 8) + l3).toNatClampNeg))] (by rfl) ?_
  refine j_icmp_ne (off := 7) 59 dX12_isWord_52 (by decide) (fun c1 => ?_) (fun c1 => ?_)
  · exact j_le [some (.ref 159), some (.ref (1001 + n)), some (.int l2), some (.int l3)] (And.intro rfl (And.intro rfl (And.intro rfl (And.intro rfl True.intro)))) (v1 x1 h1 p1 c1)
  · exact j_le [some (.ref 159), some (.ref (1001 + n)), some (.int l2), some (.int l3)] (And.intro rfl (And.intro rfl (And.intro rfl (And.intro rfl True.intro)))) (v2 x1 h1 p1 c1)
set_option maxRecDepth 100000 in
theorem bX12_isWord_55 {sc : Nat × (Nat → Int32)} {h : jH} {Q : jQ} {n : Nat} {l2 l3 : Int32} (n_h : n < 22)
    (v1 : WP mX12_isWord Q 60 [some (.ref 159), some (.ref (1001 + n)), some (.int l2), some (.int l3)] [.int 1] (jG0 sc) h (0, 0)) :
    WP mX12_isWord Q 55 [some (.ref 159), some (.ref (1001 + n)), some (.int l2), some (.int l3)] [] (jG0 sc) h (0, 0) := by
  refine j_iconst (n := 1) 1 (by decide) dX12_isWord_55 ?_
  refine j_goto (off := 4) 60 dX12_isWord_56 (by decide) ?_
  exact j_le [some (.ref 159), some (.ref (1001 + n)), some (.int l2), some (.int l3)] (And.intro rfl (And.intro rfl (And.intro rfl (And.intro rfl True.intro)))) v1
set_option maxRecDepth 100000 in
theorem bX12_isWord_59 {sc : Nat × (Nat → Int32)} {h : jH} {Q : jQ} {n : Nat} {l2 l3 : Int32} (n_h : n < 22)
    (v1 : WP mX12_isWord Q 60 [some (.ref 159), some (.ref (1001 + n)), some (.int l2), some (.int l3)] [.int 0] (jG0 sc) h (0, 0)) :
    WP mX12_isWord Q 59 [some (.ref 159), some (.ref (1001 + n)), some (.int l2), some (.int l3)] [] (jG0 sc) h (0, 0) := by
  refine j_iconst (n := 0) 0 (by decide) dX12_isWord_59 ?_
  exact j_le [some (.ref 159), some (.ref (1001 + n)), some (.int l2), some (.int l3)] (And.intro rfl (And.intro rfl (And.intro rfl (And.intro rfl True.intro)))) v1
set_option maxRecDepth 100000 in
theorem bX12_isWord_60 {sc : Nat × (Nat → Int32)} {h : jH} {Q : jQ} {n : Nat} {l2 l3 s0 : Int32} (n_h : n < 22)
    (v1 : WP mX12_isWord Q 24 [some (.ref 159), some (.ref (1001 + n)), some (.int s0), some (.int (l3 + 1))] [] (jG0 sc) h (0, 0)) :
    WP mX12_isWord Q 60 [some (.ref 159), some (.ref (1001 + n)), some (.int l2), some (.int l3)] [.int s0] (jG0 sc) h (0, 0) := by
  refine j_istore_n (i := 2) dX12_isWord_60 (Nat.le_of_ble_eq_true rfl) ?_
  refine j_iinc (i := 3) (n := 1) rfl dX12_isWord_61 (Nat.le_of_ble_eq_true rfl) ?_
  refine j_eqlv [some (.ref 159), some (.ref (1001 + n)), some (.int s0), some (.int (l3 + 1))] rfl ?_
  refine j_goto (off := -40) 24 dX12_isWord_64 (by decide) ?_
  exact j_le [some (.ref 159), some (.ref (1001 + n)), some (.int s0), some (.int (l3 + 1))] (And.intro rfl (And.intro rfl (And.intro rfl (And.intro rfl True.intro)))) v1
set_option maxRecDepth 100000 in
theorem bX12_isWord_67 {sc : Nat × (Nat → Int32)} {h : jH} {Q : jQ} {n : Nat} {l2 l3 : Int32} (n_h : n < 22)
    (o1 : l2 = 0 ∨ l2 = 1)
    (v1 : Q (.inl (some (.int l2))) (jG0 sc) h) :
    WP mX12_isWord Q 67 [some (.ref 159), some (.ref (1001 + n)), some (.int l2), some (.int l3)] [] (jG0 sc) h (0, 0) := by
  refine j_iload_n (i := 2) rfl dX12_isWord_67 ?_
  exact j_iret rfl (jbn o1) (Nat.zero_le _) (Nat.zero_le _) dX12_isWord_68 v1
set_option maxRecDepth 100000 in
theorem rX12_isWord_0 {sc : Nat × (Nat → Int32)} {h : jH} {Q : jQ} {n : Nat} {P1 : Int32 → jH → Prop} (n_h : n < 22)
    (k1 : JM mJlength [.ref (1001 + n)] (jG0 sc) h (jint sc P1))
    (v1 : ∀ (x1 : Int32) (h1 : jH), P1 x1 h1 → ¬ ((h 159 6) - (h 159 8)) = x1 → WP mX12_isWord Q 24 [some (.ref 159), some (.ref (1001 + n)), some (.int 0), some (.int 0)] [] (jG0 sc) h1 (0, 0))
    (v2 : ∀ (x1 : Int32) (h1 : jH), P1 x1 h1 → ((h 159 6) - (h 159 8)) = x1 → WP mX12_isWord Q 24 [some (.ref 159), some (.ref (1001 + n)), some (.int 1), some (.int 0)] [] (jG0 sc) h1 (0, 0)) :
    WP mX12_isWord Q 0 [some (.ref 159), some (.ref (1001 + n)), none, none] [] (jG0 sc) h (0, 0) := by
  exact (bX12_isWord_0 n_h k1 (fun x1 h1 p1 c1 => (bX12_isWord_20 n_h (bX12_isWord_21 n_h (v1 x1 h1 p1 c1)))) (fun x1 h1 p1 c1 => (bX12_isWord_16 n_h (bX12_isWord_21 n_h (v2 x1 h1 p1 c1)))))
set_option maxRecDepth 100000 in
theorem rX12_isWord_24 {sc : Nat × (Nat → Int32)} {h : jH} {Q : jQ} {n : Nat} {l2 l3 : Int32} {P1 : Int32 → jH → Prop} {P2 : Int32 → jH → Prop} (n_h : n < 22)
    (o1 : l2 = 0 → l2 = 0 ∨ l2 = 1)
    (v1 : l2 = 0 → Q (.inl (some (.int l2))) (jG0 sc) h)
    (k1 : ¬ l2 = 0 → JM mJlength [.ref (1001 + n)] (jG0 sc) h (jint sc P1))
    (o2 : ¬ l2 = 0 → ∀ (x1 : Int32) (h1 : jH), P1 x1 h1 → x1 ≤ l3 → l2 = 0 ∨ l2 = 1)
    (v2 : ¬ l2 = 0 → ∀ (x1 : Int32) (h1 : jH), P1 x1 h1 → x1 ≤ l3 → Q (.inl (some (.int l2))) (jG0 sc) h1)
    (o3 : ¬ l2 = 0 → ∀ (x1 : Int32) (h1 : jH), P1 x1 h1 → ¬ x1 ≤ l3 → vp_in ((h1 159 8) + l3) 400)
    (k2 : ¬ l2 = 0 → ∀ (x1 : Int32) (h1 : jH), P1 x1 h1 → ¬ x1 ≤ l3 → JM mJcharAt [.ref (1001 + n), .int l3] (jG0 sc) h1 (jint sc P2))
    (v3 : ¬ l2 = 0 → ∀ (x1 : Int32) (h1 : jH), P1 x1 h1 → ¬ x1 ≤ l3 → ∀ (x2 : Int32) (h2 : jH), P2 x2 h2 → ¬ (h1 162 (((h1 159 8) + l3).toNatClampNeg)) = x2 → WP mX12_isWord Q 24 [some (.ref 159), some (.ref (1001 + n)), some (.int 0), some (.int (l3 + 1))] [] (jG0 sc) h2 (0, 0))
    (v4 : ¬ l2 = 0 → ∀ (x1 : Int32) (h1 : jH), P1 x1 h1 → ¬ x1 ≤ l3 → ∀ (x2 : Int32) (h2 : jH), P2 x2 h2 → (h1 162 (((h1 159 8) + l3).toNatClampNeg)) = x2 → WP mX12_isWord Q 24 [some (.ref 159), some (.ref (1001 + n)), some (.int 1), some (.int (l3 + 1))] [] (jG0 sc) h2 (0, 0)) :
    WP mX12_isWord Q 24 [some (.ref 159), some (.ref (1001 + n)), some (.int l2), some (.int l3)] [] (jG0 sc) h (0, 0) := by
  exact (bX12_isWord_24 n_h (fun c1 => (bX12_isWord_67 n_h (o1 c1) (v1 c1))) (fun c1 => (bX12_isWord_28 n_h (k1 c1) (fun x1 h1 p1 c2 => (bX12_isWord_67 n_h (o2 c1 x1 h1 p1 c2) (v2 c1 x1 h1 p1 c2))) (fun x1 h1 p1 c2 => (bX12_isWord_36 n_h (o3 c1 x1 h1 p1 c2) (k2 c1 x1 h1 p1 c2) (fun x2 h2 p2 c3 => (bX12_isWord_59 n_h (bX12_isWord_60 n_h (v3 c1 x1 h1 p1 c2 x2 h2 p2 c3)))) (fun x2 h2 p2 c3 => (bX12_isWord_55 n_h (bX12_isWord_60 n_h (v4 c1 x1 h1 p1 c2 x2 h2 p2 c3)))))))))
theorem dX12_passes_0 : decode (mC mX12_passes) 0 = .ok (.aload_n 0, 1) := by decide +kernel
theorem dX12_passes_1 : decode (mC mX12_passes) 1 = .ok (.invokevirtual 108, 3) := by decide +kernel
theorem dX12_passes_4 : decode (mC mX12_passes) 4 = .ok (.aload_n 0, 1) := by decide +kernel
theorem dX12_passes_5 : decode (mC mX12_passes) 5 = .ok (.aload_n 1, 1) := by decide +kernel
theorem dX12_passes_6 : decode (mC mX12_passes) 6 = .ok (.invokevirtual 111, 3) := by decide +kernel
theorem dX12_passes_9 : decode (mC mX12_passes) 9 = .ok (.ifCond .eq 5, 3) := by decide +kernel
theorem dX12_passes_12 : decode (mC mX12_passes) 12 = .ok (.iconst 1, 1) := by decide +kernel
theorem dX12_passes_13 : decode (mC mX12_passes) 13 = .ok (.ireturn, 1) := by decide +kernel
theorem dX12_passes_14 : decode (mC mX12_passes) 14 = .ok (.aload_n 0, 1) := by decide +kernel
theorem dX12_passes_15 : decode (mC mX12_passes) 15 = .ok (.aload_n 0, 1) := by decide +kernel
theorem dX12_passes_16 : decode (mC mX12_passes) 16 = .ok (.getfield 92, 3) := by decide +kernel
theorem dX12_passes_19 : decode (mC mX12_passes) 19 = .ok (.putfield 85, 3) := by decide +kernel
theorem dX12_passes_22 : decode (mC mX12_passes) 22 = .ok (.iconst 0, 1) := by decide +kernel
theorem dX12_passes_23 : decode (mC mX12_passes) 23 = .ok (.ireturn, 1) := by decide +kernel
set_option maxRecDepth 100000 in
theorem bX12_passes_0 {sc : Nat × (Nat → Int32)} {h : jH} {Q : jQ} {n : Nat} {P1 : jH → Prop} {P2 : Int32 → jH → Prop} (n_h : n < 22)
    (k1 : JM mX12_letters [.ref 159] (jG0 sc) h (jvoid sc P1))
    (k2 : ∀ h1 : jH, P1 h1 → JM mX12_isWord [.ref 159, .ref (1001 + n)] (jG0 sc) h1 (jint sc P2))
    (v1 : ∀ h1 : jH, P1 h1 → ∀ (x2 : Int32) (h2 : jH), P2 x2 h2 → x2 = 0 → WP mX12_passes Q 14 [some (.ref 159), some (.ref (1001 + n))] [] (jG0 sc) h2 (0, 0))
    (v2 : ∀ h1 : jH, P1 h1 → ∀ (x2 : Int32) (h2 : jH), P2 x2 h2 → ¬ x2 = 0 → WP mX12_passes Q 12 [some (.ref 159), some (.ref (1001 + n))] [] (jG0 sc) h2 (0, 0)) :
    WP mX12_passes Q 0 [some (.ref 159), some (.ref (1001 + n))] [] (jG0 sc) h (0, 0) := by
  refine j_aload_n (i := 0) rfl dX12_passes_0 ?_
  refine j_callV (idx := 108) (As := []) (ci := 12) (n := 0) k1 jvoid_nt (jlkT (jtb6 207 rfl) rfl) sX12_letters kX12_letters rfl ⟨rfl, by decide +kernel, by decide +kernel, by decide +kernel⟩ rfl ⟨by decide, by decide⟩ (Nat.le_of_ble_eq_true rfl) rfl (Nat.le_of_ble_eq_true rfl) (Nat.le_of_ble_eq_true rfl) ⟨Nat.zero_le _, Nat.zero_le _⟩ dX12_passes_1 (fun r Γ' h1 q => ?_)
  obtain ⟨q0, rfl, p1⟩ := q; cases q0
  refine j_eqst [] (by rfl) ?_
  refine j_aload_n (i := 0) rfl dX12_passes_4 ?_
  refine j_aload_n (i := 1) rfl dX12_passes_5 ?_
  refine j_callV (idx := 111) (As := [.ref (1001 + n)]) (ci := 12) (n := 1) (k2 h1 p1) jint_nt (jlkT (jtb6 223 rfl) rfl) sX12_isWord kX12_isWord rfl ⟨rfl, by decide +kernel, by decide +kernel, by decide +kernel⟩ rfl ⟨by decide, by decide⟩ (Nat.le_of_ble_eq_true rfl) rfl (Nat.le_of_ble_eq_true rfl) (Nat.le_of_ble_eq_true rfl) ⟨Nat.zero_le _, Nat.zero_le _⟩ dX12_passes_6 (fun r Γ' h2 q => ?_)
  obtain ⟨x2, q0, rfl, p2⟩ := q; cases q0
  refine j_eqst [.int x2] (by rfl) ?_
  refine j_if_eq (off := 5) 14 dX12_passes_9 (by decide) (fun c1 => ?_) (fun c1 => ?_)
  · exact j_le [some (.ref 159), some (.ref (1001 + n))] (And.intro rfl (And.intro rfl True.intro)) (v1 h1 p1 x2 h2 p2 c1)
  · exact j_le [some (.ref 159), some (.ref (1001 + n))] (And.intro rfl (And.intro rfl True.intro)) (v2 h1 p1 x2 h2 p2 c1)
set_option maxRecDepth 100000 in
theorem bX12_passes_12 {sc : Nat × (Nat → Int32)} {h : jH} {Q : jQ} {n : Nat} (n_h : n < 22)
    (v1 : Q (.inl (some (.int 1))) (jG0 sc) h) :
    WP mX12_passes Q 12 [some (.ref 159), some (.ref (1001 + n))] [] (jG0 sc) h (0, 0) := by
  refine j_iconst (n := 1) 1 (by decide) dX12_passes_12 ?_
  exact j_iret rfl rfl (Nat.zero_le _) (Nat.zero_le _) dX12_passes_13 v1
set_option maxRecDepth 100000 in
theorem bX12_passes_14 {sc : Nat × (Nat → Int32)} {h : jH} {Q : jQ} {n : Nat} (n_h : n < 22)
    (v1 : Q (.inl (some (.int 0))) (jG0 sc) (jput h 159 6 (h 159 8))) :
    WP mX12_passes Q 14 [some (.ref 159), some (.ref (1001 + n))] [] (jG0 sc) h (0, 0) := by
  refine j_aload_n (i := 0) rfl dX12_passes_14 ?_
  refine j_aload_n (i := 0) rfl dX12_passes_15 ?_
  refine j_getI (idx := 92) (ci := 12) (k := 8) (nest := false) (show (12, 92, 12, 8, false) ∈ jFT by decide) rfl (Nat.le_of_ble_eq_true rfl) rfl dX12_passes_16 ?_
  refine j_putI (idx := 85) (ci := 12) (k := 6) (nest := false) (show (12, 85, 12, 6, false) ∈ jFT by decide) rfl rfl rfl rfl (Nat.le_of_ble_eq_true rfl) rfl dX12_passes_19 ?_
  refine j_iconst (n := 0) 0 (by decide) dX12_passes_22 ?_
  exact j_iret rfl rfl (Nat.zero_le _) (Nat.zero_le _) dX12_passes_23 v1
set_option maxRecDepth 100000 in
theorem rX12_passes_0 {sc : Nat × (Nat → Int32)} {h : jH} {Q : jQ} {n : Nat} {P1 : jH → Prop} {P2 : Int32 → jH → Prop} (n_h : n < 22)
    (k1 : JM mX12_letters [.ref 159] (jG0 sc) h (jvoid sc P1))
    (k2 : ∀ h1 : jH, P1 h1 → JM mX12_isWord [.ref 159, .ref (1001 + n)] (jG0 sc) h1 (jint sc P2))
    (v1 : ∀ h1 : jH, P1 h1 → ∀ (x2 : Int32) (h2 : jH), P2 x2 h2 → x2 = 0 → Q (.inl (some (.int 0))) (jG0 sc) (jput h2 159 6 (h2 159 8)))
    (v2 : ∀ h1 : jH, P1 h1 → ∀ (x2 : Int32) (h2 : jH), P2 x2 h2 → ¬ x2 = 0 → Q (.inl (some (.int 1))) (jG0 sc) h2) :
    WP mX12_passes Q 0 [some (.ref 159), some (.ref (1001 + n))] [] (jG0 sc) h (0, 0) := by
  exact (bX12_passes_0 n_h k1 (fun h1 p1 => (k2 h1 p1)) (fun h1 p1 x2 h2 p2 c1 => (bX12_passes_14 n_h (v1 h1 p1 x2 h2 p2 c1))) (fun h1 p1 x2 h2 p2 c1 => (bX12_passes_12 n_h (v2 h1 p1 x2 h2 p2 c1))))
theorem dX12_needs_0 : decode (mC mX12_needs) 0 = .ok (.aload_n 0, 1) := by decide +kernel
theorem dX12_needs_1 : decode (mC mX12_needs) 1 = .ok (.invokevirtual 108, 3) := by decide +kernel
theorem dX12_needs_4 : decode (mC mX12_needs) 4 = .ok (.aload_n 0, 1) := by decide +kernel
theorem dX12_needs_5 : decode (mC mX12_needs) 5 = .ok (.aload_n 1, 1) := by decide +kernel
theorem dX12_needs_6 : decode (mC mX12_needs) 6 = .ok (.invokevirtual 111, 3) := by decide +kernel
theorem dX12_needs_9 : decode (mC mX12_needs) 9 = .ok (.ireturn, 1) := by decide +kernel
set_option maxRecDepth 100000 in
theorem bX12_needs_0 {sc : Nat × (Nat → Int32)} {h : jH} {Q : jQ} {n : Nat} {P1 : jH → Prop} {P2 : Int32 → jH → Prop} (n_h : n < 22)
    (k1 : JM mX12_letters [.ref 159] (jG0 sc) h (jvoid sc P1))
    (k2 : ∀ h1 : jH, P1 h1 → JM mX12_isWord [.ref 159, .ref (1001 + n)] (jG0 sc) h1 (jint sc P2))
    (o1 : ∀ h1 : jH, P1 h1 → ∀ (x2 : Int32) (h2 : jH), P2 x2 h2 → x2 = 0 ∨ x2 = 1)
    (v1 : ∀ h1 : jH, P1 h1 → ∀ (x2 : Int32) (h2 : jH), P2 x2 h2 → Q (.inl (some (.int x2))) (jG0 sc) h2) :
    WP mX12_needs Q 0 [some (.ref 159), some (.ref (1001 + n))] [] (jG0 sc) h (0, 0) := by
  refine j_aload_n (i := 0) rfl dX12_needs_0 ?_
  refine j_callV (idx := 108) (As := []) (ci := 12) (n := 0) k1 jvoid_nt (jlkT (jtb6 207 rfl) rfl) sX12_letters kX12_letters rfl ⟨rfl, by decide +kernel, by decide +kernel, by decide +kernel⟩ rfl ⟨by decide, by decide⟩ (Nat.le_of_ble_eq_true rfl) rfl (Nat.le_of_ble_eq_true rfl) (Nat.le_of_ble_eq_true rfl) ⟨Nat.zero_le _, Nat.zero_le _⟩ dX12_needs_1 (fun r Γ' h1 q => ?_)
  obtain ⟨q0, rfl, p1⟩ := q; cases q0
  refine j_eqst [] (by rfl) ?_
  refine j_aload_n (i := 0) rfl dX12_needs_4 ?_
  refine j_aload_n (i := 1) rfl dX12_needs_5 ?_
  refine j_callV (idx := 111) (As := [.ref (1001 + n)]) (ci := 12) (n := 1) (k2 h1 p1) jint_nt (jlkT (jtb6 223 rfl) rfl) sX12_isWord kX12_isWord rfl ⟨rfl, by decide +kernel, by decide +kernel, by decide +kernel⟩ rfl ⟨by decide, by decide⟩ (Nat.le_of_ble_eq_true rfl) rfl (Nat.le_of_ble_eq_true rfl) (Nat.le_of_ble_eq_true rfl) ⟨Nat.zero_le _, Nat.zero_le _⟩ dX12_needs_6 (fun r Γ' h2 q => ?_)
  obtain ⟨x2, q0, rfl, p2⟩ := q; cases q0
  refine j_eqst [.int x2] (by rfl) ?_
  exact j_iret rfl (jbn (o1 h1 p1 x2 h2 p2)) (Nat.zero_le _) (Nat.zero_le _) dX12_needs_9 (v1 h1 p1 x2 h2 p2)
set_option maxRecDepth 100000 in
theorem rX12_needs_0 {sc : Nat × (Nat → Int32)} {h : jH} {Q : jQ} {n : Nat} {P1 : jH → Prop} {P2 : Int32 → jH → Prop} (n_h : n < 22)
    (k1 : JM mX12_letters [.ref 159] (jG0 sc) h (jvoid sc P1))
    (k2 : ∀ h1 : jH, P1 h1 → JM mX12_isWord [.ref 159, .ref (1001 + n)] (jG0 sc) h1 (jint sc P2))
    (o1 : ∀ h1 : jH, P1 h1 → ∀ (x2 : Int32) (h2 : jH), P2 x2 h2 → x2 = 0 ∨ x2 = 1)
    (v1 : ∀ h1 : jH, P1 h1 → ∀ (x2 : Int32) (h2 : jH), P2 x2 h2 → Q (.inl (some (.int x2))) (jG0 sc) h2) :
    WP mX12_needs Q 0 [some (.ref 159), some (.ref (1001 + n))] [] (jG0 sc) h (0, 0) := by
  exact (bX12_needs_0 n_h k1 (fun h1 p1 => (k2 h1 p1)) (fun h1 p1 x2 h2 p2 => (o1 h1 p1 x2 h2 p2)) (fun h1 p1 x2 h2 p2 => (v1 h1 p1 x2 h2 p2)))
theorem dX12_sign_0 : decode (mC mX12_sign) 0 = .ok (.aload_n 0, 1) := by decide +kernel
theorem dX12_sign_1 : decode (mC mX12_sign) 1 = .ok (.invokevirtual 95, 3) := by decide +kernel
theorem dX12_sign_4 : decode (mC mX12_sign) 4 = .ok (.aload_n 0, 1) := by decide +kernel
theorem dX12_sign_5 : decode (mC mX12_sign) 5 = .ok (.iload_n 1, 1) := by decide +kernel
theorem dX12_sign_6 : decode (mC mX12_sign) 6 = .ok (.iload_n 1, 1) := by decide +kernel
theorem dX12_sign_7 : decode (mC mX12_sign) 7 = .ok (.invokevirtual 88, 3) := by decide +kernel
theorem dX12_sign_10 : decode (mC mX12_sign) 10 = .ok (.ifCond .ne 5, 3) := by decide +kernel
theorem dX12_sign_13 : decode (mC mX12_sign) 13 = .ok (.iconst 0, 1) := by decide +kernel
theorem dX12_sign_14 : decode (mC mX12_sign) 14 = .ok (.ireturn, 1) := by decide +kernel
theorem dX12_sign_15 : decode (mC mX12_sign) 15 = .ok (.aload_n 0, 1) := by decide +kernel
theorem dX12_sign_16 : decode (mC mX12_sign) 16 = .ok (.dup, 1) := by decide +kernel
theorem dX12_sign_17 : decode (mC mX12_sign) 17 = .ok (.getfield 85, 3) := by decide +kernel
theorem dX12_sign_20 : decode (mC mX12_sign) 20 = .ok (.iconst 1, 1) := by decide +kernel
theorem dX12_sign_21 : decode (mC mX12_sign) 21 = .ok (.iadd, 1) := by decide +kernel
theorem dX12_sign_22 : decode (mC mX12_sign) 22 = .ok (.putfield 85, 3) := by decide +kernel
theorem dX12_sign_25 : decode (mC mX12_sign) 25 = .ok (.iconst 1, 1) := by decide +kernel
theorem dX12_sign_26 : decode (mC mX12_sign) 26 = .ok (.ireturn, 1) := by decide +kernel
set_option maxRecDepth 100000 in
theorem bX12_sign_0 {sc : Nat × (Nat → Int32)} {h : jH} {Q : jQ} {l1 : Int32} {P1 : jH → Prop} {P2 : Int32 → jH → Prop}
    (k1 : JM mX12_blanks [.ref 159] (jG0 sc) h (jvoid sc P1))
    (k2 : ∀ h1 : jH, P1 h1 → JM mX12_isAt [.ref 159, .int l1, .int l1] (jG0 sc) h1 (jint sc P2))
    (v1 : ∀ h1 : jH, P1 h1 → ∀ (x2 : Int32) (h2 : jH), P2 x2 h2 → ¬ x2 = 0 → WP mX12_sign Q 15 [some (.ref 159), some (.int l1)] [] (jG0 sc) h2 (0, 0))
    (v2 : ∀ h1 : jH, P1 h1 → ∀ (x2 : Int32) (h2 : jH), P2 x2 h2 → x2 = 0 → WP mX12_sign Q 13 [some (.ref 159), some (.int l1)] [] (jG0 sc) h2 (0, 0)) :
    WP mX12_sign Q 0 [some (.ref 159), some (.int l1)] [] (jG0 sc) h (0, 0) := by
  refine j_aload_n (i := 0) rfl dX12_sign_0 ?_
  refine j_callV (idx := 95) (As := []) (ci := 12) (n := 0) k1 jvoid_nt (jlkT (jtb6 211 rfl) rfl) sX12_blanks kX12_blanks rfl ⟨rfl, by decide +kernel, by decide +kernel, by decide +kernel⟩ rfl ⟨by decide, by decide⟩ (Nat.le_of_ble_eq_true rfl) rfl (Nat.le_of_ble_eq_true rfl) (Nat.le_of_ble_eq_true rfl) ⟨Nat.zero_le _, Nat.zero_le _⟩ dX12_sign_1 (fun r Γ' h1 q => ?_)
  obtain ⟨q0, rfl, p1⟩ := q; cases q0
  refine j_eqst [] (by rfl) ?_
  refine j_aload_n (i := 0) rfl dX12_sign_4 ?_
  refine j_iload_n (i := 1) rfl dX12_sign_5 ?_
  refine j_iload_n (i := 1) rfl dX12_sign_6 ?_
  refine j_callV (idx := 88) (As := [.int l1, .int l1]) (ci := 12) (n := 2) (k2 h1 p1) jint_nt (jlkT (jtb6 215 rfl) rfl) sX12_isAt kX12_isAt rfl ⟨rfl, by decide +kernel, by decide +kernel, by decide +kernel⟩ rfl ⟨by decide, by decide⟩ (Nat.le_of_ble_eq_true rfl) rfl (Nat.le_of_ble_eq_true rfl) (Nat.le_of_ble_eq_true rfl) ⟨Nat.zero_le _, Nat.zero_le _⟩ dX12_sign_7 (fun r Γ' h2 q => ?_)
  obtain ⟨x2, q0, rfl, p2⟩ := q; cases q0
  refine j_eqst [.int x2] (by rfl) ?_
  refine j_if_ne (off := 5) 15 dX12_sign_10 (by decide) (fun c1 => ?_) (fun c1 => ?_)
  · exact j_le [some (.ref 159), some (.int l1)] (And.intro rfl (And.intro rfl True.intro)) (v1 h1 p1 x2 h2 p2 c1)
  · exact j_le [some (.ref 159), some (.int l1)] (And.intro rfl (And.intro rfl True.intro)) (v2 h1 p1 x2 h2 p2 c1)
set_option maxRecDepth 100000 in
theorem bX12_sign_13 {sc : Nat × (Nat → Int32)} {h : jH} {Q : jQ} {l1 : Int32}
    (v1 : Q (.inl (some (.int 0))) (jG0 sc) h) :
    WP mX12_sign Q 13 [some (.ref 159), some (.int l1)] [] (jG0 sc) h (0, 0) := by
  refine j_iconst (n := 0) 0 (by decide) dX12_sign_13 ?_
  exact j_iret rfl rfl (Nat.zero_le _) (Nat.zero_le _) dX12_sign_14 v1
set_option maxRecDepth 100000 in
theorem bX12_sign_15 {sc : Nat × (Nat → Int32)} {h : jH} {Q : jQ} {l1 : Int32}
    (v1 : Q (.inl (some (.int 1))) (jG0 sc) (jput h 159 6 ((h 159 6) + 1))) :
    WP mX12_sign Q 15 [some (.ref 159), some (.int l1)] [] (jG0 sc) h (0, 0) := by
  refine j_aload_n (i := 0) rfl dX12_sign_15 ?_
  refine j_dup rfl dX12_sign_16 ?_
  refine j_getI (idx := 85) (ci := 12) (k := 6) (nest := false) (show (12, 85, 12, 6, false) ∈ jFT by decide) rfl (Nat.le_of_ble_eq_true rfl) rfl dX12_sign_17 ?_
  refine j_iconst (n := 1) 1 (by decide) dX12_sign_20 ?_
  refine j_iadd dX12_sign_21 ?_
  refine j_putI (idx := 85) (ci := 12) (k := 6) (nest := false) (show (12, 85, 12, 6, false) ∈ jFT by decide) rfl rfl rfl rfl (Nat.le_of_ble_eq_true rfl) rfl dX12_sign_22 ?_
  refine j_iconst (n := 1) 1 (by decide) dX12_sign_25 ?_
  exact j_iret rfl rfl (Nat.zero_le _) (Nat.zero_le _) dX12_sign_26 v1
set_option maxRecDepth 100000 in
theorem rX12_sign_0 {sc : Nat × (Nat → Int32)} {h : jH} {Q : jQ} {l1 : Int32} {P1 : jH → Prop} {P2 : Int32 → jH → Prop}
    (k1 : JM mX12_blanks [.ref 159] (jG0 sc) h (jvoid sc P1))
    (k2 : ∀ h1 : jH, P1 h1 → JM mX12_isAt [.ref 159, .int l1, .int l1] (jG0 sc) h1 (jint sc P2))
    (v1 : ∀ h1 : jH, P1 h1 → ∀ (x2 : Int32) (h2 : jH), P2 x2 h2 → ¬ x2 = 0 → Q (.inl (some (.int 1))) (jG0 sc) (jput h2 159 6 ((h2 159 6) + 1)))
    (v2 : ∀ h1 : jH, P1 h1 → ∀ (x2 : Int32) (h2 : jH), P2 x2 h2 → x2 = 0 → Q (.inl (some (.int 0))) (jG0 sc) h2) :
    WP mX12_sign Q 0 [some (.ref 159), some (.int l1)] [] (jG0 sc) h (0, 0) := by
  exact (bX12_sign_0 k1 (fun h1 p1 => (k2 h1 p1)) (fun h1 p1 x2 h2 p2 c1 => (bX12_sign_15 (v1 h1 p1 x2 h2 p2 c1))) (fun h1 p1 x2 h2 p2 c1 => (bX12_sign_13 (v2 h1 p1 x2 h2 p2 c1))))
theorem dX12_number_0 : decode (mC mX12_number) 0 = .ok (.aload_n 0, 1) := by decide +kernel
theorem dX12_number_1 : decode (mC mX12_number) 1 = .ok (.invokevirtual 95, 3) := by decide +kernel
theorem dX12_number_4 : decode (mC mX12_number) 4 = .ok (.iconst 0, 1) := by decide +kernel
theorem dX12_number_5 : decode (mC mX12_number) 5 = .ok (.istore_n 3, 1) := by decide +kernel
theorem dX12_number_6 : decode (mC mX12_number) 6 = .ok (.aload_n 0, 1) := by decide +kernel
theorem dX12_number_7 : decode (mC mX12_number) 7 = .ok (.bipush 48, 2) := by decide +kernel
theorem dX12_number_9 : decode (mC mX12_number) 9 = .ok (.bipush 57, 2) := by decide +kernel
theorem dX12_number_11 : decode (mC mX12_number) 11 = .ok (.invokevirtual 88, 3) := by decide +kernel
theorem dX12_number_14 : decode (mC mX12_number) 14 = .ok (.ifCond .eq 51, 3) := by decide +kernel
theorem dX12_number_17 : decode (mC mX12_number) 17 = .ok (.aload_n 0, 1) := by decide +kernel
theorem dX12_number_18 : decode (mC mX12_number) 18 = .ok (.getfield 85, 3) := by decide +kernel
theorem dX12_number_21 : decode (mC mX12_number) 21 = .ok (.aload_n 0, 1) := by decide +kernel
theorem dX12_number_22 : decode (mC mX12_number) 22 = .ok (.getfield 92, 3) := by decide +kernel
theorem dX12_number_25 : decode (mC mX12_number) 25 = .ok (.isub, 1) := by decide +kernel
theorem dX12_number_26 : decode (mC mX12_number) 26 = .ok (.iload_n 1, 1) := by decide +kernel
theorem dX12_number_27 : decode (mC mX12_number) 27 = .ok (.if_icmp .ge 23, 3) := by decide +kernel
theorem dX12_number_30 : decode (mC mX12_number) 30 = .ok (.bipush 10, 2) := by decide +kernel
theorem dX12_number_32 : decode (mC mX12_number) 32 = .ok (.iload_n 3, 1) := by decide +kernel
theorem dX12_number_33 : decode (mC mX12_number) 33 = .ok (.imul, 1) := by decide +kernel
theorem dX12_number_34 : decode (mC mX12_number) 34 = .ok (.aload_n 0, 1) := by decide +kernel
theorem dX12_number_35 : decode (mC mX12_number) 35 = .ok (.getfield 20, 3) := by decide +kernel
theorem dX12_number_38 : decode (mC mX12_number) 38 = .ok (.aload_n 0, 1) := by decide +kernel
theorem dX12_number_39 : decode (mC mX12_number) 39 = .ok (.getfield 85, 3) := by decide +kernel
theorem dX12_number_42 : decode (mC mX12_number) 42 = .ok (.baload, 1) := by decide +kernel
theorem dX12_number_43 : decode (mC mX12_number) 43 = .ok (.iadd, 1) := by decide +kernel
theorem dX12_number_44 : decode (mC mX12_number) 44 = .ok (.bipush 48, 2) := by decide +kernel
theorem dX12_number_46 : decode (mC mX12_number) 46 = .ok (.isub, 1) := by decide +kernel
theorem dX12_number_47 : decode (mC mX12_number) 47 = .ok (.goto 4, 3) := by decide +kernel
theorem dX12_number_50 : decode (mC mX12_number) 50 = .ok (.iload_n 3, 1) := by decide +kernel
theorem dX12_number_51 : decode (mC mX12_number) 51 = .ok (.istore_n 3, 1) := by decide +kernel
theorem dX12_number_52 : decode (mC mX12_number) 52 = .ok (.aload_n 0, 1) := by decide +kernel
theorem dX12_number_53 : decode (mC mX12_number) 53 = .ok (.dup, 1) := by decide +kernel
theorem dX12_number_54 : decode (mC mX12_number) 54 = .ok (.getfield 85, 3) := by decide +kernel
theorem dX12_number_57 : decode (mC mX12_number) 57 = .ok (.iconst 1, 1) := by decide +kernel
theorem dX12_number_58 : decode (mC mX12_number) 58 = .ok (.iadd, 1) := by decide +kernel
theorem dX12_number_59 : decode (mC mX12_number) 59 = .ok (.putfield 85, 3) := by decide +kernel
theorem dX12_number_62 : decode (mC mX12_number) 62 = .ok (.goto (-56), 3) := by decide +kernel
theorem dX12_number_65 : decode (mC mX12_number) 65 = .ok (.aload_n 0, 1) := by decide +kernel
theorem dX12_number_66 : decode (mC mX12_number) 66 = .ok (.getfield 85, 3) := by decide +kernel
theorem dX12_number_69 : decode (mC mX12_number) 69 = .ok (.aload_n 0, 1) := by decide +kernel
theorem dX12_number_70 : decode (mC mX12_number) 70 = .ok (.getfield 92, 3) := by decide +kernel
theorem dX12_number_73 : decode (mC mX12_number) 73 = .ok (.if_icmp .eq 21, 3) := by decide +kernel
theorem dX12_number_76 : decode (mC mX12_number) 76 = .ok (.aload_n 0, 1) := by decide +kernel
theorem dX12_number_77 : decode (mC mX12_number) 77 = .ok (.getfield 85, 3) := by decide +kernel
theorem dX12_number_80 : decode (mC mX12_number) 80 = .ok (.aload_n 0, 1) := by decide +kernel
theorem dX12_number_81 : decode (mC mX12_number) 81 = .ok (.getfield 92, 3) := by decide +kernel
theorem dX12_number_84 : decode (mC mX12_number) 84 = .ok (.isub, 1) := by decide +kernel
theorem dX12_number_85 : decode (mC mX12_number) 85 = .ok (.iload_n 1, 1) := by decide +kernel
theorem dX12_number_86 : decode (mC mX12_number) 86 = .ok (.if_icmp .gt 8, 3) := by decide +kernel
theorem dX12_number_89 : decode (mC mX12_number) 89 = .ok (.iload_n 3, 1) := by decide +kernel
theorem dX12_number_90 : decode (mC mX12_number) 90 = .ok (.iload_n 2, 1) := by decide +kernel
theorem dX12_number_91 : decode (mC mX12_number) 91 = .ok (.if_icmp .ge 7, 3) := by decide +kernel
theorem dX12_number_94 : decode (mC mX12_number) 94 = .ok (.iconst (-1), 1) := by decide +kernel
theorem dX12_number_95 : decode (mC mX12_number) 95 = .ok (.goto 4, 3) := by decide +kernel
theorem dX12_number_98 : decode (mC mX12_number) 98 = .ok (.iload_n 3, 1) := by decide +kernel
theorem dX12_number_99 : decode (mC mX12_number) 99 = .ok (.ireturn, 1) := by decide +kernel
set_option maxRecDepth 100000 in
theorem bX12_number_0 {sc : Nat × (Nat → Int32)} {h : jH} {Q : jQ} {l1 l2 : Int32} {P1 : jH → Prop}
    (k1 : JM mX12_blanks [.ref 159] (jG0 sc) h (jvoid sc P1))
    (v1 : ∀ h1 : jH, P1 h1 → WP mX12_number Q 6 [some (.ref 159), some (.int l1), some (.int l2), some (.int 0)] [] (jG0 sc) h1 (0, 0)) :
    WP mX12_number Q 0 [some (.ref 159), some (.int l1), some (.int l2), none] [] (jG0 sc) h (0, 0) := by
  refine j_aload_n (i := 0) rfl dX12_number_0 ?_
  refine j_callV (idx := 95) (As := []) (ci := 12) (n := 0) k1 jvoid_nt (jlkT (jtb6 211 rfl) rfl) sX12_blanks kX12_blanks rfl ⟨rfl, by decide +kernel, by decide +kernel, by decide +kernel⟩ rfl ⟨by decide, by decide⟩ (Nat.le_of_ble_eq_true rfl) rfl (Nat.le_of_ble_eq_true rfl) (Nat.le_of_ble_eq_true rfl) ⟨Nat.zero_le _, Nat.zero_le _⟩ dX12_number_1 (fun r Γ' h1 q => ?_)
  obtain ⟨q0, rfl, p1⟩ := q; cases q0
  refine j_eqst [] (by rfl) ?_
  refine j_iconst (n := 0) 0 (by decide) dX12_number_4 ?_
  refine j_istore_n (i := 3) dX12_number_5 (Nat.le_of_ble_eq_true rfl) ?_
  exact j_le [some (.ref 159), some (.int l1), some (.int l2), some (.int 0)] (And.intro rfl (And.intro rfl (And.intro rfl (And.intro rfl True.intro)))) (v1 h1 p1)
set_option maxRecDepth 100000 in
theorem bX12_number_6 {sc : Nat × (Nat → Int32)} {h : jH} {Q : jQ} {l1 l2 l3 : Int32} {P1 : Int32 → jH → Prop}
    (k1 : JM mX12_isAt [.ref 159, .int 48, .int 57] (jG0 sc) h (jint sc P1))
    (v1 : ∀ (x1 : Int32) (h1 : jH), P1 x1 h1 → x1 = 0 → WP mX12_number Q 65 [some (.ref 159), some (.int l1), some (.int l2), some (.int l3)] [] (jG0 sc) h1 (0, 0))
    (v2 : ∀ (x1 : Int32) (h1 : jH), P1 x1 h1 → ¬ x1 = 0 → WP mX12_number Q 17 [some (.ref 159), some (.int l1), some (.int l2), some (.int l3)] [] (jG0 sc) h1 (0, 0)) :
    WP mX12_number Q 6 [some (.ref 159), some (.int l1), some (.int l2), some (.int l3)] [] (jG0 sc) h (0, 0) := by
  refine j_aload_n (i := 0) rfl dX12_number_6 ?_
  refine j_bipush (n := 48) 48 (by decide) dX12_number_7 ?_
  refine j_bipush (n := 57) 57 (by decide) dX12_number_9 ?_
  refine j_callV (idx := 88) (As := [.int 48, .int 57]) (ci := 12) (n := 2) k1 jint_nt (jlkT (jtb6 215 rfl) rfl) sX12_isAt kX12_isAt rfl ⟨rfl, by decide +kernel, by decide +kernel, by decide +kernel⟩ rfl ⟨by decide, by decide⟩ (Nat.le_of_ble_eq_true rfl) rfl (Nat.le_of_ble_eq_true rfl) (Nat.le_of_ble_eq_true rfl) ⟨Nat.zero_le _, Nat.zero_le _⟩ dX12_number_11 (fun r Γ' h1 q => ?_)
  obtain ⟨x1, q0, rfl, p1⟩ := q; cases q0
  refine j_eqst [.int x1] (by rfl) ?_
  refine j_if_eq (off := 51) 65 dX12_number_14 (by decide) (fun c1 => ?_) (fun c1 => ?_)
  · exact j_le [some (.ref 159), some (.int l1), some (.int l2), some (.int l3)] (And.intro rfl (And.intro rfl (And.intro rfl (And.intro rfl True.intro)))) (v1 x1 h1 p1 c1)
  · exact j_le [some (.ref 159), some (.int l1), some (.int l2), some (.int l3)] (And.intro rfl (And.intro rfl (And.intro rfl (And.intro rfl True.intro)))) (v2 x1 h1 p1 c1)
set_option maxRecDepth 100000 in
theorem bX12_number_17 {sc : Nat × (Nat → Int32)} {h : jH} {Q : jQ} {l1 l2 l3 : Int32}
    (v1 : l1 ≤ ((h 159 6) - (h 159 8)) → WP mX12_number Q 50 [some (.ref 159), some (.int l1), some (.int l2), some (.int l3)] [] (jG0 sc) h (0, 0))
    (v2 : ¬ l1 ≤ ((h 159 6) - (h 159 8)) → WP mX12_number Q 30 [some (.ref 159), some (.int l1), some (.int l2), some (.int l3)] [] (jG0 sc) h (0, 0)) :
    WP mX12_number Q 17 [some (.ref 159), some (.int l1), some (.int l2), some (.int l3)] [] (jG0 sc) h (0, 0) := by
  refine j_aload_n (i := 0) rfl dX12_number_17 ?_
  refine j_getI (idx := 85) (ci := 12) (k := 6) (nest := false) (show (12, 85, 12, 6, false) ∈ jFT by decide) rfl (Nat.le_of_ble_eq_true rfl) rfl dX12_number_18 ?_
  refine j_aload_n (i := 0) rfl dX12_number_21 ?_
  refine j_getI (idx := 92) (ci := 12) (k := 8) (nest := false) (show (12, 92, 12, 8, false) ∈ jFT by decide) rfl (Nat.le_of_ble_eq_true rfl) rfl dX12_number_22 ?_
  refine j_isub dX12_number_25 ?_
  refine j_iload_n (i := 1) rfl dX12_number_26 ?_
  refine j_icmp_ge (off := 23) 50 dX12_number_27 (by decide) (fun c1 => ?_) (fun c1 => ?_)
  · exact j_le [some (.ref 159), some (.int l1), some (.int l2), some (.int l3)] (And.intro rfl (And.intro rfl (And.intro rfl (And.intro rfl True.intro)))) (v1 c1)
  · exact j_le [some (.ref 159), some (.int l1), some (.int l2), some (.int l3)] (And.intro rfl (And.intro rfl (And.intro rfl (And.intro rfl True.intro)))) (v2 c1)
set_option maxRecDepth 100000 in
theorem bX12_number_30 {sc : Nat × (Nat → Int32)} {h : jH} {Q : jQ} {l1 l2 l3 : Int32}
    (o1 : vp_in (h 159 6) 400)
    (v1 : WP mX12_number Q 51 [some (.ref 159), some (.int l1), some (.int l2), some (.int l3)] [.int (((10 * l3) + (h 162 ((h 159 6).toNatClampNeg))) - 48)] (jG0 sc) h (0, 0)) :
    WP mX12_number Q 30 [some (.ref 159), some (.int l1), some (.int l2), some (.int l3)] [] (jG0 sc) h (0, 0) := by
  refine j_bipush (n := 10) 10 (by decide) dX12_number_30 ?_
  refine j_iload_n (i := 3) rfl dX12_number_32 ?_
  refine j_imul dX12_number_33 ?_
  refine j_aload_n (i := 0) rfl dX12_number_34 ?_
  refine j_getR (idx := 20) (ci := 12) (k := 4) (nest := false) (show (12, 20, 12, 4, false) ∈ jFT by decide) rfl (Nat.le_of_ble_eq_true rfl) rfl (a := 162) rfl dX12_number_35 ?_
  refine j_aload_n (i := 0) rfl dX12_number_38 ?_
  refine j_getI (idx := 85) (ci := 12) (k := 6) (nest := false) (show (12, 85, 12, 6, false) ∈ jFT by decide) rfl (Nat.le_of_ble_eq_true rfl) rfl dX12_number_39 ?_
  refine j_bald (Nat.le_of_ble_eq_true rfl) rfl o1 dX12_number_42 ?_
  refine j_iadd dX12_number_43 ?_
  refine j_bipush (n := 48) 48 (by decide) dX12_number_44 ?_
  refine j_isub dX12_number_46 ?_
  refine j_goto (off := 4) 51 dX12_number_47 (by decide) ?_
  exact j_le [some (.ref 159), some (.int l1), some (.int l2), some (.int l3)] (And.intro rfl (And.intro rfl (And.intro rfl (And.intro rfl True.intro)))) v1
set_option maxRecDepth 100000 in
theorem bX12_number_50 {sc : Nat × (Nat → Int32)} {h : jH} {Q : jQ} {l1 l2 l3 : Int32}
    (v1 : WP mX12_number Q 51 [some (.ref 159), some (.int l1), some (.int l2), some (.int l3)] [.int l3] (jG0 sc) h (0, 0)) :
    WP mX12_number Q 50 [some (.ref 159), some (.int l1), some (.int l2), some (.int l3)] [] (jG0 sc) h (0, 0) := by
  refine j_iload_n (i := 3) rfl dX12_number_50 ?_
  exact j_le [some (.ref 159), some (.int l1), some (.int l2), some (.int l3)] (And.intro rfl (And.intro rfl (And.intro rfl (And.intro rfl True.intro)))) v1
set_option maxRecDepth 100000 in
theorem bX12_number_51 {sc : Nat × (Nat → Int32)} {h : jH} {Q : jQ} {l1 l2 l3 s0 : Int32}
    (v1 : WP mX12_number Q 6 [some (.ref 159), some (.int l1), some (.int l2), some (.int s0)] [] (jG0 sc) (jput h 159 6 ((h 159 6) + 1)) (0, 0)) :
    WP mX12_number Q 51 [some (.ref 159), some (.int l1), some (.int l2), some (.int l3)] [.int s0] (jG0 sc) h (0, 0) := by
  refine j_istore_n (i := 3) dX12_number_51 (Nat.le_of_ble_eq_true rfl) ?_
  refine j_aload_n (i := 0) rfl dX12_number_52 ?_
  refine j_dup rfl dX12_number_53 ?_
  refine j_getI (idx := 85) (ci := 12) (k := 6) (nest := false) (show (12, 85, 12, 6, false) ∈ jFT by decide) rfl (Nat.le_of_ble_eq_true rfl) rfl dX12_number_54 ?_
  refine j_iconst (n := 1) 1 (by decide) dX12_number_57 ?_
  refine j_iadd dX12_number_58 ?_
  refine j_putI (idx := 85) (ci := 12) (k := 6) (nest := false) (show (12, 85, 12, 6, false) ∈ jFT by decide) rfl rfl rfl rfl (Nat.le_of_ble_eq_true rfl) rfl dX12_number_59 ?_
  refine j_goto (off := -56) 6 dX12_number_62 (by decide) ?_
  exact j_le [some (.ref 159), some (.int l1), some (.int l2), some (.int s0)] (And.intro rfl (And.intro rfl (And.intro rfl (And.intro rfl True.intro)))) v1
set_option maxRecDepth 100000 in
theorem bX12_number_65 {sc : Nat × (Nat → Int32)} {h : jH} {Q : jQ} {l1 l2 l3 : Int32}
    (v1 : (h 159 6) = (h 159 8) → WP mX12_number Q 94 [some (.ref 159), some (.int l1), some (.int l2), some (.int l3)] [] (jG0 sc) h (0, 0))
    (v2 : ¬ (h 159 6) = (h 159 8) → WP mX12_number Q 76 [some (.ref 159), some (.int l1), some (.int l2), some (.int l3)] [] (jG0 sc) h (0, 0)) :
    WP mX12_number Q 65 [some (.ref 159), some (.int l1), some (.int l2), some (.int l3)] [] (jG0 sc) h (0, 0) := by
  refine j_aload_n (i := 0) rfl dX12_number_65 ?_
  refine j_getI (idx := 85) (ci := 12) (k := 6) (nest := false) (show (12, 85, 12, 6, false) ∈ jFT by decide) rfl (Nat.le_of_ble_eq_true rfl) rfl dX12_number_66 ?_
  refine j_aload_n (i := 0) rfl dX12_number_69 ?_
  refine j_getI (idx := 92) (ci := 12) (k := 8) (nest := false) (show (12, 92, 12, 8, false) ∈ jFT by decide) rfl (Nat.le_of_ble_eq_true rfl) rfl dX12_number_70 ?_
  refine j_icmp_eq (off := 21) 94 dX12_number_73 (by decide) (fun c1 => ?_) (fun c1 => ?_)
  · exact j_le [some (.ref 159), some (.int l1), some (.int l2), some (.int l3)] (And.intro rfl (And.intro rfl (And.intro rfl (And.intro rfl True.intro)))) (v1 c1)
  · exact j_le [some (.ref 159), some (.int l1), some (.int l2), some (.int l3)] (And.intro rfl (And.intro rfl (And.intro rfl (And.intro rfl True.intro)))) (v2 c1)
set_option maxRecDepth 100000 in
theorem bX12_number_76 {sc : Nat × (Nat → Int32)} {h : jH} {Q : jQ} {l1 l2 l3 : Int32}
    (v1 : l1 < ((h 159 6) - (h 159 8)) → WP mX12_number Q 94 [some (.ref 159), some (.int l1), some (.int l2), some (.int l3)] [] (jG0 sc) h (0, 0))
    (v2 : ¬ l1 < ((h 159 6) - (h 159 8)) → WP mX12_number Q 89 [some (.ref 159), some (.int l1), some (.int l2), some (.int l3)] [] (jG0 sc) h (0, 0)) :
    WP mX12_number Q 76 [some (.ref 159), some (.int l1), some (.int l2), some (.int l3)] [] (jG0 sc) h (0, 0) := by
  refine j_aload_n (i := 0) rfl dX12_number_76 ?_
  refine j_getI (idx := 85) (ci := 12) (k := 6) (nest := false) (show (12, 85, 12, 6, false) ∈ jFT by decide) rfl (Nat.le_of_ble_eq_true rfl) rfl dX12_number_77 ?_
  refine j_aload_n (i := 0) rfl dX12_number_80 ?_
  refine j_getI (idx := 92) (ci := 12) (k := 8) (nest := false) (show (12, 92, 12, 8, false) ∈ jFT by decide) rfl (Nat.le_of_ble_eq_true rfl) rfl dX12_number_81 ?_
  refine j_isub dX12_number_84 ?_
  refine j_iload_n (i := 1) rfl dX12_number_85 ?_
  refine j_icmp_gt (off := 8) 94 dX12_number_86 (by decide) (fun c1 => ?_) (fun c1 => ?_)
  · exact j_le [some (.ref 159), some (.int l1), some (.int l2), some (.int l3)] (And.intro rfl (And.intro rfl (And.intro rfl (And.intro rfl True.intro)))) (v1 c1)
  · exact j_le [some (.ref 159), some (.int l1), some (.int l2), some (.int l3)] (And.intro rfl (And.intro rfl (And.intro rfl (And.intro rfl True.intro)))) (v2 c1)
set_option maxRecDepth 100000 in
theorem bX12_number_89 {sc : Nat × (Nat → Int32)} {h : jH} {Q : jQ} {l1 l2 l3 : Int32}
    (v1 : l2 ≤ l3 → WP mX12_number Q 98 [some (.ref 159), some (.int l1), some (.int l2), some (.int l3)] [] (jG0 sc) h (0, 0))
    (v2 : ¬ l2 ≤ l3 → WP mX12_number Q 94 [some (.ref 159), some (.int l1), some (.int l2), some (.int l3)] [] (jG0 sc) h (0, 0)) :
    WP mX12_number Q 89 [some (.ref 159), some (.int l1), some (.int l2), some (.int l3)] [] (jG0 sc) h (0, 0) := by
  refine j_iload_n (i := 3) rfl dX12_number_89 ?_
  refine j_iload_n (i := 2) rfl dX12_number_90 ?_
  refine j_icmp_ge (off := 7) 98 dX12_number_91 (by decide) (fun c1 => ?_) (fun c1 => ?_)
  · exact j_le [some (.ref 159), some (.int l1), some (.int l2), some (.int l3)] (And.intro rfl (And.intro rfl (And.intro rfl (And.intro rfl True.intro)))) (v1 c1)
  · exact j_le [some (.ref 159), some (.int l1), some (.int l2), some (.int l3)] (And.intro rfl (And.intro rfl (And.intro rfl (And.intro rfl True.intro)))) (v2 c1)
set_option maxRecDepth 100000 in
theorem bX12_number_94 {sc : Nat × (Nat → Int32)} {h : jH} {Q : jQ} {l1 l2 l3 : Int32}
    (v1 : WP mX12_number Q 99 [some (.ref 159), some (.int l1), some (.int l2), some (.int l3)] [.int (-1)] (jG0 sc) h (0, 0)) :
    WP mX12_number Q 94 [some (.ref 159), some (.int l1), some (.int l2), some (.int l3)] [] (jG0 sc) h (0, 0) := by
  refine j_iconst (n := (-1)) (-1) (by decide) dX12_number_94 ?_
  refine j_goto (off := 4) 99 dX12_number_95 (by decide) ?_
  exact j_le [some (.ref 159), some (.int l1), some (.int l2), some (.int l3)] (And.intro rfl (And.intro rfl (And.intro rfl (And.intro rfl True.intro)))) v1
set_option maxRecDepth 100000 in
theorem bX12_number_98 {sc : Nat × (Nat → Int32)} {h : jH} {Q : jQ} {l1 l2 l3 : Int32}
    (v1 : WP mX12_number Q 99 [some (.ref 159), some (.int l1), some (.int l2), some (.int l3)] [.int l3] (jG0 sc) h (0, 0)) :
    WP mX12_number Q 98 [some (.ref 159), some (.int l1), some (.int l2), some (.int l3)] [] (jG0 sc) h (0, 0) := by
  refine j_iload_n (i := 3) rfl dX12_number_98 ?_
  exact j_le [some (.ref 159), some (.int l1), some (.int l2), some (.int l3)] (And.intro rfl (And.intro rfl (And.intro rfl (And.intro rfl True.intro)))) v1
set_option maxRecDepth 100000 in
theorem bX12_number_99 {sc : Nat × (Nat → Int32)} {h : jH} {Q : jQ} {l1 l2 l3 s0 : Int32}
    (v1 : Q (.inl (some (.int s0))) (jG0 sc) h) :
    WP mX12_number Q 99 [some (.ref 159), some (.int l1), some (.int l2), some (.int l3)] [.int s0] (jG0 sc) h (0, 0) := by
  exact j_iret rfl rfl (Nat.zero_le _) (Nat.zero_le _) dX12_number_99 v1
set_option maxRecDepth 100000 in
theorem rX12_number_0 {sc : Nat × (Nat → Int32)} {h : jH} {Q : jQ} {l1 l2 : Int32} {P1 : jH → Prop}
    (k1 : JM mX12_blanks [.ref 159] (jG0 sc) h (jvoid sc P1))
    (v1 : ∀ h1 : jH, P1 h1 → WP mX12_number Q 6 [some (.ref 159), some (.int l1), some (.int l2), some (.int 0)] [] (jG0 sc) h1 (0, 0)) :
    WP mX12_number Q 0 [some (.ref 159), some (.int l1), some (.int l2), none] [] (jG0 sc) h (0, 0) := by
  exact (bX12_number_0 k1 (fun h1 p1 => (v1 h1 p1)))
set_option maxRecDepth 100000 in
theorem rX12_number_6 {sc : Nat × (Nat → Int32)} {h : jH} {Q : jQ} {l1 l2 l3 : Int32} {P1 : Int32 → jH → Prop}
    (k1 : JM mX12_isAt [.ref 159, .int 48, .int 57] (jG0 sc) h (jint sc P1))
    (v1 : ∀ (x1 : Int32) (h1 : jH), P1 x1 h1 → x1 = 0 → (h1 159 6) = (h1 159 8) → Q (.inl (some (.int (-1)))) (jG0 sc) h1)
    (v2 : ∀ (x1 : Int32) (h1 : jH), P1 x1 h1 → x1 = 0 → ¬ (h1 159 6) = (h1 159 8) → l1 < ((h1 159 6) - (h1 159 8)) → Q (.inl (some (.int (-1)))) (jG0 sc) h1)
    (v3 : ∀ (x1 : Int32) (h1 : jH), P1 x1 h1 → x1 = 0 → ¬ (h1 159 6) = (h1 159 8) → ¬ l1 < ((h1 159 6) - (h1 159 8)) → l2 ≤ l3 → Q (.inl (some (.int l3))) (jG0 sc) h1)
    (v4 : ∀ (x1 : Int32) (h1 : jH), P1 x1 h1 → x1 = 0 → ¬ (h1 159 6) = (h1 159 8) → ¬ l1 < ((h1 159 6) - (h1 159 8)) → ¬ l2 ≤ l3 → Q (.inl (some (.int (-1)))) (jG0 sc) h1)
    (v5 : ∀ (x1 : Int32) (h1 : jH), P1 x1 h1 → ¬ x1 = 0 → l1 ≤ ((h1 159 6) - (h1 159 8)) → WP mX12_number Q 6 [some (.ref 159), some (.int l1), some (.int l2), some (.int l3)] [] (jG0 sc) (jput h1 159 6 ((h1 159 6) + 1)) (0, 0))
    (o1 : ∀ (x1 : Int32) (h1 : jH), P1 x1 h1 → ¬ x1 = 0 → ¬ l1 ≤ ((h1 159 6) - (h1 159 8)) → vp_in (h1 159 6) 400)
    (v6 : ∀ (x1 : Int32) (h1 : jH), P1 x1 h1 → ¬ x1 = 0 → ¬ l1 ≤ ((h1 159 6) - (h1 159 8)) → WP mX12_number Q 6 [some (.ref 159), some (.int l1), some (.int l2), some (.int (((10 * l3) + (h1 162 ((h1 159 6).toNatClampNeg))) - 48))] [] (jG0 sc) (jput h1 159 6 ((h1 159 6) + 1)) (0, 0)) :
    WP mX12_number Q 6 [some (.ref 159), some (.int l1), some (.int l2), some (.int l3)] [] (jG0 sc) h (0, 0) := by
  exact (bX12_number_6 k1 (fun x1 h1 p1 c1 => (bX12_number_65 (fun c2 => (bX12_number_94 (bX12_number_99 (v1 x1 h1 p1 c1 c2)))) (fun c2 => (bX12_number_76 (fun c3 => (bX12_number_94 (bX12_number_99 (v2 x1 h1 p1 c1 c2 c3)))) (fun c3 => (bX12_number_89 (fun c4 => (bX12_number_98 (bX12_number_99 (v3 x1 h1 p1 c1 c2 c3 c4)))) (fun c4 => (bX12_number_94 (bX12_number_99 (v4 x1 h1 p1 c1 c2 c3 c4)))))))))) (fun x1 h1 p1 c1 => (bX12_number_17 (fun c5 => (bX12_number_50 (bX12_number_51 (v5 x1 h1 p1 c1 c5)))) (fun c5 => (bX12_number_30 (o1 x1 h1 p1 c1 c5) (bX12_number_51 (v6 x1 h1 p1 c1 c5)))))))
theorem dX12_fault_0 : decode (mC mX12_fault) 0 = .ok (.aload_n 0, 1) := by decide +kernel
theorem dX12_fault_1 : decode (mC mX12_fault) 1 = .ok (.iconst 0, 1) := by decide +kernel
theorem dX12_fault_2 : decode (mC mX12_fault) 2 = .ok (.putfield 3, 3) := by decide +kernel
theorem dX12_fault_5 : decode (mC mX12_fault) 5 = .ok (.aload_n 0, 1) := by decide +kernel
theorem dX12_fault_6 : decode (mC mX12_fault) 6 = .ok (.getfield 24, 3) := by decide +kernel
theorem dX12_fault_9 : decode (mC mX12_fault) 9 = .ok (.ireturn, 1) := by decide +kernel
set_option maxRecDepth 100000 in
theorem bX12_fault_0 {sc : Nat × (Nat → Int32)} {h : jH} {Q : jQ}
    (v1 : Q (.inl (some (.int ((jput h 159 0 0) 159 10)))) (jG0 sc) (jput h 159 0 0)) :
    WP mX12_fault Q 0 [some (.ref 159)] [] (jG0 sc) h (0, 0) := by
  refine j_aload_n (i := 0) rfl dX12_fault_0 ?_
  refine j_iconst (n := 0) 0 (by decide) dX12_fault_1 ?_
  refine j_putI (idx := 3) (ci := 12) (k := 0) (nest := false) (show (12, 3, 12, 0, false) ∈ jFT by decide) rfl rfl rfl rfl (Nat.le_of_ble_eq_true rfl) rfl dX12_fault_2 ?_
  refine j_aload_n (i := 0) rfl dX12_fault_5 ?_
  refine j_getI (idx := 24) (ci := 12) (k := 10) (nest := false) (show (12, 24, 12, 10, false) ∈ jFT by decide) rfl (Nat.le_of_ble_eq_true rfl) rfl dX12_fault_6 ?_
  exact j_iret rfl rfl (Nat.zero_le _) (Nat.zero_le _) dX12_fault_9 v1
set_option maxRecDepth 100000 in
theorem rX12_fault_0 {sc : Nat × (Nat → Int32)} {h : jH} {Q : jQ}
    (v1 : Q (.inl (some (.int ((jput h 159 0 0) 159 10)))) (jG0 sc) (jput h 159 0 0)) :
    WP mX12_fault Q 0 [some (.ref 159)] [] (jG0 sc) h (0, 0) := by
  exact (bX12_fault_0 v1)
theorem dX12_readAtom_0 : decode (mC mX12_readAtom) 0 = .ok (.aload_n 0, 1) := by decide +kernel
theorem dX12_readAtom_1 : decode (mC mX12_readAtom) 1 = .ok (.invokevirtual 108, 3) := by decide +kernel
theorem dX12_readAtom_4 : decode (mC mX12_readAtom) 4 = .ok (.aload_n 0, 1) := by decide +kernel
theorem dX12_readAtom_5 : decode (mC mX12_readAtom) 5 = .ok (.getfield 85, 3) := by decide +kernel
theorem dX12_readAtom_8 : decode (mC mX12_readAtom) 8 = .ok (.aload_n 0, 1) := by decide +kernel
theorem dX12_readAtom_9 : decode (mC mX12_readAtom) 9 = .ok (.getfield 92, 3) := by decide +kernel
theorem dX12_readAtom_12 : decode (mC mX12_readAtom) 12 = .ok (.if_icmp .le 63, 3) := by decide +kernel
theorem dX12_readAtom_15 : decode (mC mX12_readAtom) 15 = .ok (.aload_n 0, 1) := by decide +kernel
theorem dX12_readAtom_16 : decode (mC mX12_readAtom) 16 = .ok (.getfield 85, 3) := by decide +kernel
theorem dX12_readAtom_19 : decode (mC mX12_readAtom) 19 = .ok (.aload_n 0, 1) := by decide +kernel
theorem dX12_readAtom_20 : decode (mC mX12_readAtom) 20 = .ok (.getfield 92, 3) := by decide +kernel
theorem dX12_readAtom_23 : decode (mC mX12_readAtom) 23 = .ok (.isub, 1) := by decide +kernel
theorem dX12_readAtom_24 : decode (mC mX12_readAtom) 24 = .ok (.iconst 1, 1) := by decide +kernel
theorem dX12_readAtom_25 : decode (mC mX12_readAtom) 25 = .ok (.if_icmp .le 5, 3) := by decide +kernel
theorem dX12_readAtom_28 : decode (mC mX12_readAtom) 28 = .ok (.iconst (-1), 1) := by decide +kernel
theorem dX12_readAtom_29 : decode (mC mX12_readAtom) 29 = .ok (.ireturn, 1) := by decide +kernel
theorem dX12_readAtom_30 : decode (mC mX12_readAtom) 30 = .ok (.aload_n 0, 1) := by decide +kernel
theorem dX12_readAtom_31 : decode (mC mX12_readAtom) 31 = .ok (.getfield 20, 3) := by decide +kernel
theorem dX12_readAtom_34 : decode (mC mX12_readAtom) 34 = .ok (.aload_n 0, 1) := by decide +kernel
theorem dX12_readAtom_35 : decode (mC mX12_readAtom) 35 = .ok (.getfield 92, 3) := by decide +kernel
theorem dX12_readAtom_38 : decode (mC mX12_readAtom) 38 = .ok (.baload, 1) := by decide +kernel
theorem dX12_readAtom_39 : decode (mC mX12_readAtom) 39 = .ok (.istore_n 1, 1) := by decide +kernel
theorem dX12_readAtom_40 : decode (mC mX12_readAtom) 40 = .ok (.iload_n 1, 1) := by decide +kernel
theorem dX12_readAtom_41 : decode (mC mX12_readAtom) 41 = .ok (.bipush 100, 2) := by decide +kernel
theorem dX12_readAtom_43 : decode (mC mX12_readAtom) 43 = .ok (.if_icmp .gt 10, 3) := by decide +kernel
theorem dX12_readAtom_46 : decode (mC mX12_readAtom) 46 = .ok (.iload_n 1, 1) := by decide +kernel
theorem dX12_readAtom_47 : decode (mC mX12_readAtom) 47 = .ok (.bipush 97, 2) := by decide +kernel
theorem dX12_readAtom_49 : decode (mC mX12_readAtom) 49 = .ok (.isub, 1) := by decide +kernel
theorem dX12_readAtom_50 : decode (mC mX12_readAtom) 50 = .ok (.goto 24, 3) := by decide +kernel
theorem dX12_readAtom_53 : decode (mC mX12_readAtom) 53 = .ok (.iload_n 1, 1) := by decide +kernel
theorem dX12_readAtom_54 : decode (mC mX12_readAtom) 54 = .ok (.bipush 120, 2) := by decide +kernel
theorem dX12_readAtom_56 : decode (mC mX12_readAtom) 56 = .ok (.if_icmp .ne 7, 3) := by decide +kernel
theorem dX12_readAtom_59 : decode (mC mX12_readAtom) 59 = .ok (.iconst 4, 1) := by decide +kernel
theorem dX12_readAtom_60 : decode (mC mX12_readAtom) 60 = .ok (.goto 14, 3) := by decide +kernel
theorem dX12_readAtom_63 : decode (mC mX12_readAtom) 63 = .ok (.iload_n 1, 1) := by decide +kernel
theorem dX12_readAtom_64 : decode (mC mX12_readAtom) 64 = .ok (.bipush 121, 2) := by decide +kernel
theorem dX12_readAtom_66 : decode (mC mX12_readAtom) 66 = .ok (.if_icmp .ne 7, 3) := by decide +kernel
theorem dX12_readAtom_69 : decode (mC mX12_readAtom) 69 = .ok (.iconst 5, 1) := by decide +kernel
theorem dX12_readAtom_70 : decode (mC mX12_readAtom) 70 = .ok (.goto 4, 3) := by decide +kernel
theorem dX12_readAtom_73 : decode (mC mX12_readAtom) 73 = .ok (.iconst (-1), 1) := by decide +kernel
theorem dX12_readAtom_74 : decode (mC mX12_readAtom) 74 = .ok (.ireturn, 1) := by decide +kernel
theorem dX12_readAtom_75 : decode (mC mX12_readAtom) 75 = .ok (.aload_n 0, 1) := by decide +kernel
theorem dX12_readAtom_76 : decode (mC mX12_readAtom) 76 = .ok (.iconst 2, 1) := by decide +kernel
theorem dX12_readAtom_77 : decode (mC mX12_readAtom) 77 = .ok (.iconst 0, 1) := by decide +kernel
theorem dX12_readAtom_78 : decode (mC mX12_readAtom) 78 = .ok (.invokevirtual 115, 3) := by decide +kernel
theorem dX12_readAtom_81 : decode (mC mX12_readAtom) 81 = .ok (.istore_n 1, 1) := by decide +kernel
theorem dX12_readAtom_82 : decode (mC mX12_readAtom) 82 = .ok (.iload_n 1, 1) := by decide +kernel
theorem dX12_readAtom_83 : decode (mC mX12_readAtom) 83 = .ok (.ifCond .ge 7, 3) := by decide +kernel
theorem dX12_readAtom_86 : decode (mC mX12_readAtom) 86 = .ok (.iconst (-1), 1) := by decide +kernel
theorem dX12_readAtom_87 : decode (mC mX12_readAtom) 87 = .ok (.goto 7, 3) := by decide +kernel
theorem dX12_readAtom_90 : decode (mC mX12_readAtom) 90 = .ok (.iload_n 1, 1) := by decide +kernel
theorem dX12_readAtom_91 : decode (mC mX12_readAtom) 91 = .ok (.bipush 10, 2) := by decide +kernel
theorem dX12_readAtom_93 : decode (mC mX12_readAtom) 93 = .ok (.iadd, 1) := by decide +kernel
theorem dX12_readAtom_94 : decode (mC mX12_readAtom) 94 = .ok (.ireturn, 1) := by decide +kernel
set_option maxRecDepth 100000 in
theorem bX12_readAtom_0 {sc : Nat × (Nat → Int32)} {h : jH} {Q : jQ} {P1 : jH → Prop}
    (k1 : JM mX12_letters [.ref 159] (jG0 sc) h (jvoid sc P1))
    (v1 : ∀ h1 : jH, P1 h1 → (h1 159 6) ≤ (h1 159 8) → WP mX12_readAtom Q 75 [some (.ref 159), none] [] (jG0 sc) h1 (0, 0))
    (v2 : ∀ h1 : jH, P1 h1 → ¬ (h1 159 6) ≤ (h1 159 8) → WP mX12_readAtom Q 15 [some (.ref 159), none] [] (jG0 sc) h1 (0, 0)) :
    WP mX12_readAtom Q 0 [some (.ref 159), none] [] (jG0 sc) h (0, 0) := by
  refine j_aload_n (i := 0) rfl dX12_readAtom_0 ?_
  refine j_callV (idx := 108) (As := []) (ci := 12) (n := 0) k1 jvoid_nt (jlkT (jtb6 207 rfl) rfl) sX12_letters kX12_letters rfl ⟨rfl, by decide +kernel, by decide +kernel, by decide +kernel⟩ rfl ⟨by decide, by decide⟩ (Nat.le_of_ble_eq_true rfl) rfl (Nat.le_of_ble_eq_true rfl) (Nat.le_of_ble_eq_true rfl) ⟨Nat.zero_le _, Nat.zero_le _⟩ dX12_readAtom_1 (fun r Γ' h1 q => ?_)
  obtain ⟨q0, rfl, p1⟩ := q; cases q0
  refine j_eqst [] (by rfl) ?_
  refine j_aload_n (i := 0) rfl dX12_readAtom_4 ?_
  refine j_getI (idx := 85) (ci := 12) (k := 6) (nest := false) (show (12, 85, 12, 6, false) ∈ jFT by decide) rfl (Nat.le_of_ble_eq_true rfl) rfl dX12_readAtom_5 ?_
  refine j_aload_n (i := 0) rfl dX12_readAtom_8 ?_
  refine j_getI (idx := 92) (ci := 12) (k := 8) (nest := false) (show (12, 92, 12, 8, false) ∈ jFT by decide) rfl (Nat.le_of_ble_eq_true rfl) rfl dX12_readAtom_9 ?_
  refine j_icmp_le (off := 63) 75 dX12_readAtom_12 (by decide) (fun c1 => ?_) (fun c1 => ?_)
  · exact j_le [some (.ref 159), none] (And.intro rfl True.intro) (v1 h1 p1 c1)
  · exact j_le [some (.ref 159), none] (And.intro rfl True.intro) (v2 h1 p1 c1)
set_option maxRecDepth 100000 in
theorem bX12_readAtom_15 {sc : Nat × (Nat → Int32)} {h : jH} {Q : jQ}
    (v1 : ((h 159 6) - (h 159 8)) ≤ 1 → WP mX12_readAtom Q 30 [some (.ref 159), none] [] (jG0 sc) h (0, 0))
    (v2 : ¬ ((h 159 6) - (h 159 8)) ≤ 1 → WP mX12_readAtom Q 28 [some (.ref 159), none] [] (jG0 sc) h (0, 0)) :
    WP mX12_readAtom Q 15 [some (.ref 159), none] [] (jG0 sc) h (0, 0) := by
  refine j_aload_n (i := 0) rfl dX12_readAtom_15 ?_
  refine j_getI (idx := 85) (ci := 12) (k := 6) (nest := false) (show (12, 85, 12, 6, false) ∈ jFT by decide) rfl (Nat.le_of_ble_eq_true rfl) rfl dX12_readAtom_16 ?_
  refine j_aload_n (i := 0) rfl dX12_readAtom_19 ?_
  refine j_getI (idx := 92) (ci := 12) (k := 8) (nest := false) (show (12, 92, 12, 8, false) ∈ jFT by decide) rfl (Nat.le_of_ble_eq_true rfl) rfl dX12_readAtom_20 ?_
  refine j_isub dX12_readAtom_23 ?_
  refine j_iconst (n := 1) 1 (by decide) dX12_readAtom_24 ?_
  refine j_icmp_le (off := 5) 30 dX12_readAtom_25 (by decide) (fun c1 => ?_) (fun c1 => ?_)
  · exact j_le [some (.ref 159), none] (And.intro rfl True.intro) (v1 c1)
  · exact j_le [some (.ref 159), none] (And.intro rfl True.intro) (v2 c1)
set_option maxRecDepth 100000 in
theorem bX12_readAtom_28 {sc : Nat × (Nat → Int32)} {h : jH} {Q : jQ}
    (v1 : Q (.inl (some (.int (-1)))) (jG0 sc) h) :
    WP mX12_readAtom Q 28 [some (.ref 159), none] [] (jG0 sc) h (0, 0) := by
  refine j_iconst (n := (-1)) (-1) (by decide) dX12_readAtom_28 ?_
  exact j_iret rfl rfl (Nat.zero_le _) (Nat.zero_le _) dX12_readAtom_29 v1
set_option maxRecDepth 100000 in
theorem bX12_readAtom_30 {sc : Nat × (Nat → Int32)} {h : jH} {Q : jQ}
    (o1 : vp_in (h 159 8) 400)
    (v1 : 100 < (h 162 ((h 159 8).toNatClampNeg)) → WP mX12_readAtom Q 53 [some (.ref 159), some (.int (h 162 ((h 159 8).toNatClampNeg)))] [] (jG0 sc) h (0, 0))
    (v2 : ¬ 100 < (h 162 ((h 159 8).toNatClampNeg)) → WP mX12_readAtom Q 46 [some (.ref 159), some (.int (h 162 ((h 159 8).toNatClampNeg)))] [] (jG0 sc) h (0, 0)) :
    WP mX12_readAtom Q 30 [some (.ref 159), none] [] (jG0 sc) h (0, 0) := by
  refine j_aload_n (i := 0) rfl dX12_readAtom_30 ?_
  refine j_getR (idx := 20) (ci := 12) (k := 4) (nest := false) (show (12, 20, 12, 4, false) ∈ jFT by decide) rfl (Nat.le_of_ble_eq_true rfl) rfl (a := 162) rfl dX12_readAtom_31 ?_
  refine j_aload_n (i := 0) rfl dX12_readAtom_34 ?_
  refine j_getI (idx := 92) (ci := 12) (k := 8) (nest := false) (show (12, 92, 12, 8, false) ∈ jFT by decide) rfl (Nat.le_of_ble_eq_true rfl) rfl dX12_readAtom_35 ?_
  refine j_bald (Nat.le_of_ble_eq_true rfl) rfl o1 dX12_readAtom_38 ?_
  refine j_istore_n (i := 1) dX12_readAtom_39 (Nat.le_of_ble_eq_true rfl) ?_
  refine j_iload_n (i := 1) rfl dX12_readAtom_40 ?_
  refine j_bipush (n := 100) 100 (by decide) dX12_readAtom_41 ?_
  refine j_icmp_gt (off := 10) 53 dX12_readAtom_43 (by decide) (fun c1 => ?_) (fun c1 => ?_)
  · exact j_le [some (.ref 159), some (.int (h 162 ((h 159 8).toNatClampNeg)))] (And.intro rfl (And.intro rfl True.intro)) (v1 c1)
  · exact j_le [some (.ref 159), some (.int (h 162 ((h 159 8).toNatClampNeg)))] (And.intro rfl (And.intro rfl True.intro)) (v2 c1)
set_option maxRecDepth 100000 in
theorem bX12_readAtom_46 {sc : Nat × (Nat → Int32)} {h : jH} {Q : jQ} {l1 : Int32}
    (v1 : WP mX12_readAtom Q 74 [some (.ref 159), some (.int l1)] [.int (l1 - 97)] (jG0 sc) h (0, 0)) :
    WP mX12_readAtom Q 46 [some (.ref 159), some (.int l1)] [] (jG0 sc) h (0, 0) := by
  refine j_iload_n (i := 1) rfl dX12_readAtom_46 ?_
  refine j_bipush (n := 97) 97 (by decide) dX12_readAtom_47 ?_
  refine j_isub dX12_readAtom_49 ?_
  refine j_goto (off := 24) 74 dX12_readAtom_50 (by decide) ?_
  exact j_le [some (.ref 159), some (.int l1)] (And.intro rfl (And.intro rfl True.intro)) v1
set_option maxRecDepth 100000 in
theorem bX12_readAtom_53 {sc : Nat × (Nat → Int32)} {h : jH} {Q : jQ} {l1 : Int32}
    (v1 : ¬ l1 = 120 → WP mX12_readAtom Q 63 [some (.ref 159), some (.int l1)] [] (jG0 sc) h (0, 0))
    (v2 : l1 = 120 → WP mX12_readAtom Q 59 [some (.ref 159), some (.int l1)] [] (jG0 sc) h (0, 0)) :
    WP mX12_readAtom Q 53 [some (.ref 159), some (.int l1)] [] (jG0 sc) h (0, 0) := by
  refine j_iload_n (i := 1) rfl dX12_readAtom_53 ?_
  refine j_bipush (n := 120) 120 (by decide) dX12_readAtom_54 ?_
  refine j_icmp_ne (off := 7) 63 dX12_readAtom_56 (by decide) (fun c1 => ?_) (fun c1 => ?_)
  · exact j_le [some (.ref 159), some (.int l1)] (And.intro rfl (And.intro rfl True.intro)) (v1 c1)
  · exact j_le [some (.ref 159), some (.int l1)] (And.intro rfl (And.intro rfl True.intro)) (v2 c1)
set_option maxRecDepth 100000 in
theorem bX12_readAtom_59 {sc : Nat × (Nat → Int32)} {h : jH} {Q : jQ} {l1 : Int32}
    (v1 : WP mX12_readAtom Q 74 [some (.ref 159), some (.int l1)] [.int 4] (jG0 sc) h (0, 0)) :
    WP mX12_readAtom Q 59 [some (.ref 159), some (.int l1)] [] (jG0 sc) h (0, 0) := by
  refine j_iconst (n := 4) 4 (by decide) dX12_readAtom_59 ?_
  refine j_goto (off := 14) 74 dX12_readAtom_60 (by decide) ?_
  exact j_le [some (.ref 159), some (.int l1)] (And.intro rfl (And.intro rfl True.intro)) v1
set_option maxRecDepth 100000 in
theorem bX12_readAtom_63 {sc : Nat × (Nat → Int32)} {h : jH} {Q : jQ} {l1 : Int32}
    (v1 : ¬ l1 = 121 → WP mX12_readAtom Q 73 [some (.ref 159), some (.int l1)] [] (jG0 sc) h (0, 0))
    (v2 : l1 = 121 → WP mX12_readAtom Q 69 [some (.ref 159), some (.int l1)] [] (jG0 sc) h (0, 0)) :
    WP mX12_readAtom Q 63 [some (.ref 159), some (.int l1)] [] (jG0 sc) h (0, 0) := by
  refine j_iload_n (i := 1) rfl dX12_readAtom_63 ?_
  refine j_bipush (n := 121) 121 (by decide) dX12_readAtom_64 ?_
  refine j_icmp_ne (off := 7) 73 dX12_readAtom_66 (by decide) (fun c1 => ?_) (fun c1 => ?_)
  · exact j_le [some (.ref 159), some (.int l1)] (And.intro rfl (And.intro rfl True.intro)) (v1 c1)
  · exact j_le [some (.ref 159), some (.int l1)] (And.intro rfl (And.intro rfl True.intro)) (v2 c1)
set_option maxRecDepth 100000 in
theorem bX12_readAtom_69 {sc : Nat × (Nat → Int32)} {h : jH} {Q : jQ} {l1 : Int32}
    (v1 : WP mX12_readAtom Q 74 [some (.ref 159), some (.int l1)] [.int 5] (jG0 sc) h (0, 0)) :
    WP mX12_readAtom Q 69 [some (.ref 159), some (.int l1)] [] (jG0 sc) h (0, 0) := by
  refine j_iconst (n := 5) 5 (by decide) dX12_readAtom_69 ?_
  refine j_goto (off := 4) 74 dX12_readAtom_70 (by decide) ?_
  exact j_le [some (.ref 159), some (.int l1)] (And.intro rfl (And.intro rfl True.intro)) v1
set_option maxRecDepth 100000 in
theorem bX12_readAtom_73 {sc : Nat × (Nat → Int32)} {h : jH} {Q : jQ} {l1 : Int32}
    (v1 : WP mX12_readAtom Q 74 [some (.ref 159), some (.int l1)] [.int (-1)] (jG0 sc) h (0, 0)) :
    WP mX12_readAtom Q 73 [some (.ref 159), some (.int l1)] [] (jG0 sc) h (0, 0) := by
  refine j_iconst (n := (-1)) (-1) (by decide) dX12_readAtom_73 ?_
  exact j_le [some (.ref 159), some (.int l1)] (And.intro rfl (And.intro rfl True.intro)) v1
set_option maxRecDepth 100000 in
theorem bX12_readAtom_74 {sc : Nat × (Nat → Int32)} {h : jH} {Q : jQ} {l1 s0 : Int32}
    (v1 : Q (.inl (some (.int s0))) (jG0 sc) h) :
    WP mX12_readAtom Q 74 [some (.ref 159), some (.int l1)] [.int s0] (jG0 sc) h (0, 0) := by
  exact j_iret rfl rfl (Nat.zero_le _) (Nat.zero_le _) dX12_readAtom_74 v1
set_option maxRecDepth 100000 in
theorem bX12_readAtom_75 {sc : Nat × (Nat → Int32)} {h : jH} {Q : jQ} {P1 : Int32 → jH → Prop}
    (k1 : JM mX12_number [.ref 159, .int 2, .int 0] (jG0 sc) h (jint sc P1))
    (v1 : ∀ (x1 : Int32) (h1 : jH), P1 x1 h1 → 0 ≤ x1 → WP mX12_readAtom Q 90 [some (.ref 159), some (.int x1)] [] (jG0 sc) h1 (0, 0))
    (v2 : ∀ (x1 : Int32) (h1 : jH), P1 x1 h1 → ¬ 0 ≤ x1 → WP mX12_readAtom Q 86 [some (.ref 159), some (.int x1)] [] (jG0 sc) h1 (0, 0)) :
    WP mX12_readAtom Q 75 [some (.ref 159), none] [] (jG0 sc) h (0, 0) := by
  refine j_aload_n (i := 0) rfl dX12_readAtom_75 ?_
  refine j_iconst (n := 2) 2 (by decide) dX12_readAtom_76 ?_
  refine j_iconst (n := 0) 0 (by decide) dX12_readAtom_77 ?_
  refine j_callV (idx := 115) (As := [.int 2, .int 0]) (ci := 12) (n := 2) k1 jint_nt (jlkT (jtb7 0 rfl) rfl) sX12_number kX12_number rfl ⟨rfl, by decide +kernel, by decide +kernel, by decide +kernel⟩ rfl ⟨by decide, by decide⟩ (Nat.le_of_ble_eq_true rfl) rfl (Nat.le_of_ble_eq_true rfl) (Nat.le_of_ble_eq_true rfl) ⟨Nat.zero_le _, Nat.zero_le _⟩ dX12_readAtom_78 (fun r Γ' h1 q => ?_)
  obtain ⟨x1, q0, rfl, p1⟩ := q; cases q0
  refine j_eqst [.int x1] (by rfl) ?_
  refine j_istore_n (i := 1) dX12_readAtom_81 (Nat.le_of_ble_eq_true rfl) ?_
  refine j_iload_n (i := 1) rfl dX12_readAtom_82 ?_
  refine j_if_ge (off := 7) 90 dX12_readAtom_83 (by decide) (fun c1 => ?_) (fun c1 => ?_)
  · exact j_le [some (.ref 159), some (.int x1)] (And.intro rfl (And.intro rfl True.intro)) (v1 x1 h1 p1 c1)
  · exact j_le [some (.ref 159), some (.int x1)] (And.intro rfl (And.intro rfl True.intro)) (v2 x1 h1 p1 c1)
set_option maxRecDepth 100000 in
theorem bX12_readAtom_86 {sc : Nat × (Nat → Int32)} {h : jH} {Q : jQ} {l1 : Int32}
    (v1 : WP mX12_readAtom Q 94 [some (.ref 159), some (.int l1)] [.int (-1)] (jG0 sc) h (0, 0)) :
    WP mX12_readAtom Q 86 [some (.ref 159), some (.int l1)] [] (jG0 sc) h (0, 0) := by
  refine j_iconst (n := (-1)) (-1) (by decide) dX12_readAtom_86 ?_
  refine j_goto (off := 7) 94 dX12_readAtom_87 (by decide) ?_
  exact j_le [some (.ref 159), some (.int l1)] (And.intro rfl (And.intro rfl True.intro)) v1
set_option maxRecDepth 100000 in
theorem bX12_readAtom_90 {sc : Nat × (Nat → Int32)} {h : jH} {Q : jQ} {l1 : Int32}
    (v1 : WP mX12_readAtom Q 94 [some (.ref 159), some (.int l1)] [.int (l1 + 10)] (jG0 sc) h (0, 0)) :
    WP mX12_readAtom Q 90 [some (.ref 159), some (.int l1)] [] (jG0 sc) h (0, 0) := by
  refine j_iload_n (i := 1) rfl dX12_readAtom_90 ?_
  refine j_bipush (n := 10) 10 (by decide) dX12_readAtom_91 ?_
  refine j_iadd dX12_readAtom_93 ?_
  exact j_le [some (.ref 159), some (.int l1)] (And.intro rfl (And.intro rfl True.intro)) v1
set_option maxRecDepth 100000 in
theorem bX12_readAtom_94 {sc : Nat × (Nat → Int32)} {h : jH} {Q : jQ} {l1 s0 : Int32}
    (v1 : Q (.inl (some (.int s0))) (jG0 sc) h) :
    WP mX12_readAtom Q 94 [some (.ref 159), some (.int l1)] [.int s0] (jG0 sc) h (0, 0) := by
  exact j_iret rfl rfl (Nat.zero_le _) (Nat.zero_le _) dX12_readAtom_94 v1
set_option maxRecDepth 100000 in
theorem rX12_readAtom_0 {sc : Nat × (Nat → Int32)} {h : jH} {Q : jQ} {P1 : jH → Prop} {P2 : Int32 → jH → Prop}
    (k1 : JM mX12_letters [.ref 159] (jG0 sc) h (jvoid sc P1))
    (k2 : ∀ h1 : jH, P1 h1 → (h1 159 6) ≤ (h1 159 8) → JM mX12_number [.ref 159, .int 2, .int 0] (jG0 sc) h1 (jint sc P2))
    (v1 : ∀ h1 : jH, P1 h1 → (h1 159 6) ≤ (h1 159 8) → ∀ (x2 : Int32) (h2 : jH), P2 x2 h2 → 0 ≤ x2 → Q (.inl (some (.int (x2 + 10)))) (jG0 sc) h2)
    (v2 : ∀ h1 : jH, P1 h1 → (h1 159 6) ≤ (h1 159 8) → ∀ (x2 : Int32) (h2 : jH), P2 x2 h2 → ¬ 0 ≤ x2 → Q (.inl (some (.int (-1)))) (jG0 sc) h2)
    (o1 : ∀ h1 : jH, P1 h1 → ¬ (h1 159 6) ≤ (h1 159 8) → ((h1 159 6) - (h1 159 8)) ≤ 1 → vp_in (h1 159 8) 400)
    (v3 : ∀ h1 : jH, P1 h1 → ¬ (h1 159 6) ≤ (h1 159 8) → ((h1 159 6) - (h1 159 8)) ≤ 1 → 100 < (h1 162 ((h1 159 8).toNatClampNeg)) → ¬ (h1 162 ((h1 159 8).toNatClampNeg)) = 120 → ¬ (h1 162 ((h1 159 8).toNatClampNeg)) = 121 → Q (.inl (some (.int (-1)))) (jG0 sc) h1)
    (v4 : ∀ h1 : jH, P1 h1 → ¬ (h1 159 6) ≤ (h1 159 8) → ((h1 159 6) - (h1 159 8)) ≤ 1 → 100 < (h1 162 ((h1 159 8).toNatClampNeg)) → ¬ (h1 162 ((h1 159 8).toNatClampNeg)) = 120 → (h1 162 ((h1 159 8).toNatClampNeg)) = 121 → Q (.inl (some (.int 5))) (jG0 sc) h1)
    (v5 : ∀ h1 : jH, P1 h1 → ¬ (h1 159 6) ≤ (h1 159 8) → ((h1 159 6) - (h1 159 8)) ≤ 1 → 100 < (h1 162 ((h1 159 8).toNatClampNeg)) → (h1 162 ((h1 159 8).toNatClampNeg)) = 120 → Q (.inl (some (.int 4))) (jG0 sc) h1)
    (v6 : ∀ h1 : jH, P1 h1 → ¬ (h1 159 6) ≤ (h1 159 8) → ((h1 159 6) - (h1 159 8)) ≤ 1 → ¬ 100 < (h1 162 ((h1 159 8).toNatClampNeg)) → Q (.inl (some (.int ((h1 162 ((h1 159 8).toNatClampNeg)) - 97)))) (jG0 sc) h1)
    (v7 : ∀ h1 : jH, P1 h1 → ¬ (h1 159 6) ≤ (h1 159 8) → ¬ ((h1 159 6) - (h1 159 8)) ≤ 1 → Q (.inl (some (.int (-1)))) (jG0 sc) h1) :
    WP mX12_readAtom Q 0 [some (.ref 159), none] [] (jG0 sc) h (0, 0) := by
  exact (bX12_readAtom_0 k1 (fun h1 p1 c1 => (bX12_readAtom_75 (k2 h1 p1 c1) (fun x2 h2 p2 c2 => (bX12_readAtom_90 (bX12_readAtom_94 (v1 h1 p1 c1 x2 h2 p2 c2)))) (fun x2 h2 p2 c2 => (bX12_readAtom_86 (bX12_readAtom_94 (v2 h1 p1 c1 x2 h2 p2 c2)))))) (fun h1 p1 c1 => (bX12_readAtom_15 (fun c3 => (bX12_readAtom_30 (o1 h1 p1 c1 c3) (fun c4 => (bX12_readAtom_53 (fun c5 => (bX12_readAtom_63 (fun c6 => (bX12_readAtom_73 (bX12_readAtom_74 (v3 h1 p1 c1 c3 c4 c5 c6)))) (fun c6 => (bX12_readAtom_69 (bX12_readAtom_74 (v4 h1 p1 c1 c3 c4 c5 c6)))))) (fun c5 => (bX12_readAtom_59 (bX12_readAtom_74 (v5 h1 p1 c1 c3 c4 c5)))))) (fun c4 => (bX12_readAtom_46 (bX12_readAtom_74 (v6 h1 p1 c1 c3 c4)))))) (fun c3 => (bX12_readAtom_28 (v7 h1 p1 c1 c3))))))
theorem dX12_readSum_0 : decode (mC mX12_readSum) 0 = .ok (.aload_n 0, 1) := by decide +kernel
theorem dX12_readSum_1 : decode (mC mX12_readSum) 1 = .ok (.getfield 30, 3) := by decide +kernel
theorem dX12_readSum_4 : decode (mC mX12_readSum) 4 = .ok (.iload_n 1, 1) := by decide +kernel
theorem dX12_readSum_5 : decode (mC mX12_readSum) 5 = .ok (.iconst 2, 1) := by decide +kernel
theorem dX12_readSum_6 : decode (mC mX12_readSum) 6 = .ok (.iadd, 1) := by decide +kernel
theorem dX12_readSum_7 : decode (mC mX12_readSum) 7 = .ok (.aload_n 0, 1) := by decide +kernel
theorem dX12_readSum_8 : decode (mC mX12_readSum) 8 = .ok (.invokevirtual 119, 3) := by decide +kernel
theorem dX12_readSum_11 : decode (mC mX12_readSum) 11 = .ok (.iastore, 1) := by decide +kernel
theorem dX12_readSum_12 : decode (mC mX12_readSum) 12 = .ok (.aload_n 0, 1) := by decide +kernel
theorem dX12_readSum_13 : decode (mC mX12_readSum) 13 = .ok (.getfield 30, 3) := by decide +kernel
theorem dX12_readSum_16 : decode (mC mX12_readSum) 16 = .ok (.iload_n 1, 1) := by decide +kernel
theorem dX12_readSum_17 : decode (mC mX12_readSum) 17 = .ok (.iconst 2, 1) := by decide +kernel
theorem dX12_readSum_18 : decode (mC mX12_readSum) 18 = .ok (.iadd, 1) := by decide +kernel
theorem dX12_readSum_19 : decode (mC mX12_readSum) 19 = .ok (.iaload, 1) := by decide +kernel
theorem dX12_readSum_20 : decode (mC mX12_readSum) 20 = .ok (.ifCond .ge 5, 3) := by decide +kernel
theorem dX12_readSum_23 : decode (mC mX12_readSum) 23 = .ok (.iconst 0, 1) := by decide +kernel
theorem dX12_readSum_24 : decode (mC mX12_readSum) 24 = .ok (.ireturn, 1) := by decide +kernel
theorem dX12_readSum_25 : decode (mC mX12_readSum) 25 = .ok (.aload_n 0, 1) := by decide +kernel
theorem dX12_readSum_26 : decode (mC mX12_readSum) 26 = .ok (.bipush 43, 2) := by decide +kernel
theorem dX12_readSum_28 : decode (mC mX12_readSum) 28 = .ok (.invokevirtual 122, 3) := by decide +kernel
theorem dX12_readSum_31 : decode (mC mX12_readSum) 31 = .ok (.ifCond .eq 7, 3) := by decide +kernel
theorem dX12_readSum_34 : decode (mC mX12_readSum) 34 = .ok (.iconst 1, 1) := by decide +kernel
theorem dX12_readSum_35 : decode (mC mX12_readSum) 35 = .ok (.goto 56, 3) := by decide +kernel
theorem dX12_readSum_38 : decode (mC mX12_readSum) 38 = .ok (.aload_n 0, 1) := by decide +kernel
theorem dX12_readSum_39 : decode (mC mX12_readSum) 39 = .ok (.bipush 45, 2) := by decide +kernel
theorem dX12_readSum_41 : decode (mC mX12_readSum) 41 = .ok (.invokevirtual 122, 3) := by decide +kernel
theorem dX12_readSum_44 : decode (mC mX12_readSum) 44 = .ok (.ifCond .eq 7, 3) := by decide +kernel
theorem dX12_readSum_47 : decode (mC mX12_readSum) 47 = .ok (.iconst 2, 1) := by decide +kernel
theorem dX12_readSum_48 : decode (mC mX12_readSum) 48 = .ok (.goto 43, 3) := by decide +kernel
theorem dX12_readSum_51 : decode (mC mX12_readSum) 51 = .ok (.aload_n 0, 1) := by decide +kernel
theorem dX12_readSum_52 : decode (mC mX12_readSum) 52 = .ok (.bipush 42, 2) := by decide +kernel
theorem dX12_readSum_54 : decode (mC mX12_readSum) 54 = .ok (.invokevirtual 122, 3) := by decide +kernel
theorem dX12_readSum_57 : decode (mC mX12_readSum) 57 = .ok (.ifCond .eq 7, 3) := by decide +kernel
theorem dX12_readSum_60 : decode (mC mX12_readSum) 60 = .ok (.iconst 3, 1) := by decide +kernel
theorem dX12_readSum_61 : decode (mC mX12_readSum) 61 = .ok (.goto 30, 3) := by decide +kernel
theorem dX12_readSum_64 : decode (mC mX12_readSum) 64 = .ok (.aload_n 0, 1) := by decide +kernel
theorem dX12_readSum_65 : decode (mC mX12_readSum) 65 = .ok (.bipush 47, 2) := by decide +kernel
theorem dX12_readSum_67 : decode (mC mX12_readSum) 67 = .ok (.invokevirtual 122, 3) := by decide +kernel
theorem dX12_readSum_70 : decode (mC mX12_readSum) 70 = .ok (.ifCond .eq 7, 3) := by decide +kernel
theorem dX12_readSum_73 : decode (mC mX12_readSum) 73 = .ok (.iconst 4, 1) := by decide +kernel
theorem dX12_readSum_74 : decode (mC mX12_readSum) 74 = .ok (.goto 17, 3) := by decide +kernel
theorem dX12_readSum_77 : decode (mC mX12_readSum) 77 = .ok (.aload_n 0, 1) := by decide +kernel
theorem dX12_readSum_78 : decode (mC mX12_readSum) 78 = .ok (.bipush 37, 2) := by decide +kernel
theorem dX12_readSum_80 : decode (mC mX12_readSum) 80 = .ok (.invokevirtual 122, 3) := by decide +kernel
theorem dX12_readSum_83 : decode (mC mX12_readSum) 83 = .ok (.ifCond .eq 7, 3) := by decide +kernel
theorem dX12_readSum_86 : decode (mC mX12_readSum) 86 = .ok (.iconst 5, 1) := by decide +kernel
theorem dX12_readSum_87 : decode (mC mX12_readSum) 87 = .ok (.goto 4, 3) := by decide +kernel
theorem dX12_readSum_90 : decode (mC mX12_readSum) 90 = .ok (.iconst 0, 1) := by decide +kernel
theorem dX12_readSum_91 : decode (mC mX12_readSum) 91 = .ok (.istore_n 2, 1) := by decide +kernel
theorem dX12_readSum_92 : decode (mC mX12_readSum) 92 = .ok (.iload_n 2, 1) := by decide +kernel
theorem dX12_readSum_93 : decode (mC mX12_readSum) 93 = .ok (.ifCond .ne 5, 3) := by decide +kernel
theorem dX12_readSum_96 : decode (mC mX12_readSum) 96 = .ok (.iconst 1, 1) := by decide +kernel
theorem dX12_readSum_97 : decode (mC mX12_readSum) 97 = .ok (.ireturn, 1) := by decide +kernel
theorem dX12_readSum_98 : decode (mC mX12_readSum) 98 = .ok (.aload_n 0, 1) := by decide +kernel
theorem dX12_readSum_99 : decode (mC mX12_readSum) 99 = .ok (.getfield 30, 3) := by decide +kernel
theorem dX12_readSum_102 : decode (mC mX12_readSum) 102 = .ok (.iload_n 1, 1) := by decide +kernel
theorem dX12_readSum_103 : decode (mC mX12_readSum) 103 = .ok (.iconst 3, 1) := by decide +kernel
theorem dX12_readSum_104 : decode (mC mX12_readSum) 104 = .ok (.iadd, 1) := by decide +kernel
theorem dX12_readSum_105 : decode (mC mX12_readSum) 105 = .ok (.iload_n 2, 1) := by decide +kernel
theorem dX12_readSum_106 : decode (mC mX12_readSum) 106 = .ok (.iastore, 1) := by decide +kernel
theorem dX12_readSum_107 : decode (mC mX12_readSum) 107 = .ok (.aload_n 0, 1) := by decide +kernel
theorem dX12_readSum_108 : decode (mC mX12_readSum) 108 = .ok (.getfield 30, 3) := by decide +kernel
theorem dX12_readSum_111 : decode (mC mX12_readSum) 111 = .ok (.iload_n 1, 1) := by decide +kernel
theorem dX12_readSum_112 : decode (mC mX12_readSum) 112 = .ok (.iconst 4, 1) := by decide +kernel
theorem dX12_readSum_113 : decode (mC mX12_readSum) 113 = .ok (.iadd, 1) := by decide +kernel
theorem dX12_readSum_114 : decode (mC mX12_readSum) 114 = .ok (.aload_n 0, 1) := by decide +kernel
theorem dX12_readSum_115 : decode (mC mX12_readSum) 115 = .ok (.invokevirtual 119, 3) := by decide +kernel
theorem dX12_readSum_118 : decode (mC mX12_readSum) 118 = .ok (.iastore, 1) := by decide +kernel
theorem dX12_readSum_119 : decode (mC mX12_readSum) 119 = .ok (.aload_n 0, 1) := by decide +kernel
theorem dX12_readSum_120 : decode (mC mX12_readSum) 120 = .ok (.getfield 30, 3) := by decide +kernel
theorem dX12_readSum_123 : decode (mC mX12_readSum) 123 = .ok (.iload_n 1, 1) := by decide +kernel
theorem dX12_readSum_124 : decode (mC mX12_readSum) 124 = .ok (.iconst 4, 1) := by decide +kernel
theorem dX12_readSum_125 : decode (mC mX12_readSum) 125 = .ok (.iadd, 1) := by decide +kernel
theorem dX12_readSum_126 : decode (mC mX12_readSum) 126 = .ok (.iaload, 1) := by decide +kernel
theorem dX12_readSum_127 : decode (mC mX12_readSum) 127 = .ok (.ifCond .lt 7, 3) := by decide +kernel
theorem dX12_readSum_130 : decode (mC mX12_readSum) 130 = .ok (.iconst 1, 1) := by decide +kernel
theorem dX12_readSum_131 : decode (mC mX12_readSum) 131 = .ok (.goto 4, 3) := by decide +kernel
theorem dX12_readSum_134 : decode (mC mX12_readSum) 134 = .ok (.iconst 0, 1) := by decide +kernel
theorem dX12_readSum_135 : decode (mC mX12_readSum) 135 = .ok (.ireturn, 1) := by decide +kernel
set_option maxRecDepth 100000 in
theorem bX12_readSum_0 {sc : Nat × (Nat → Int32)} {h : jH} {Q : jQ} {l1 : Int32} {P1 : Int32 → jH → Prop}
    (k1 : JM mX12_readAtom [.ref 159] (jG0 sc) h (jint sc P1))
    (o1 : ∀ (x1 : Int32) (h1 : jH), P1 x1 h1 → vp_in (l1 + 2) 61)
    (o2 : ∀ (x1 : Int32) (h1 : jH), P1 x1 h1 → vp_in (l1 + 2) 61)
    (v1 : ∀ (x1 : Int32) (h1 : jH), P1 x1 h1 → 0 ≤ ((jput h1 164 ((l1 + 2).toNatClampNeg) x1) 164 ((l1 + 2).toNatClampNeg)) → WP mX12_readSum Q 25 [some (.ref 159), some (.int l1), none] [] (jG0 sc) (jput h1 164 ((l1 + 2).toNatClampNeg) x1) (0, 0))
    (v2 : ∀ (x1 : Int32) (h1 : jH), P1 x1 h1 → ¬ 0 ≤ ((jput h1 164 ((l1 + 2).toNatClampNeg) x1) 164 ((l1 + 2).toNatClampNeg)) → WP mX12_readSum Q 23 [some (.ref 159), some (.int l1), none] [] (jG0 sc) (jput h1 164 ((l1 + 2).toNatClampNeg) x1) (0, 0)) :
    WP mX12_readSum Q 0 [some (.ref 159), some (.int l1), none] [] (jG0 sc) h (0, 0) := by
  refine j_aload_n (i := 0) rfl dX12_readSum_0 ?_
  refine j_getR (idx := 30) (ci := 12) (k := 12) (nest := false) (show (12, 30, 12, 12, false) ∈ jFT by decide) rfl (Nat.le_of_ble_eq_true rfl) rfl (a := 164) rfl dX12_readSum_1 ?_
  refine j_iload_n (i := 1) rfl dX12_readSum_4 ?_
  refine j_iconst (n := 2) 2 (by decide) dX12_readSum_5 ?_
  refine j_iadd dX12_readSum_6 ?_
  refine j_aload_n (i := 0) rfl dX12_readSum_7 ?_
  refine j_callV (idx := 119) (As := []) (ci := 12) (n := 0) k1 jint_nt (jlkT (jtb6 236 rfl) rfl) sX12_readAtom kX12_readAtom rfl ⟨rfl, by decide +kernel, by decide +kernel, by decide +kernel⟩ rfl ⟨by decide, by decide⟩ (Nat.le_of_ble_eq_true rfl) rfl (Nat.le_of_ble_eq_true rfl) (Nat.le_of_ble_eq_true rfl) ⟨Nat.zero_le _, Nat.zero_le _⟩ dX12_readSum_8 (fun r Γ' h1 q => ?_)
  obtain ⟨x1, q0, rfl, p1⟩ := q; cases q0
  refine j_eqst [.int x1, .int (l1 + 2), .ref 164] (by rfl) ?_
  refine j_iast (Nat.le_of_ble_eq_true rfl) rfl (o1 x1 h1 p1) dX12_readSum_11 ?_
  refine j_aload_n (i := 0) rfl dX12_readSum_12 ?_
  refine j_getR (idx := 30) (ci := 12) (k := 12) (nest := false) (show (12, 30, 12, 12, false) ∈ jFT by decide) rfl (Nat.le_of_ble_eq_true rfl) rfl (a := 164) rfl dX12_readSum_13 ?_
  refine j_iload_n (i := 1) rfl dX12_readSum_16 ?_
  refine j_iconst (n := 2) 2 (by decide) dX12_readSum_17 ?_
  refine j_iadd dX12_readSum_18 ?_
  refine j_iald (Nat.le_of_ble_eq_true rfl) rfl (o2 x1 h1 p1) dX12_readSum_19 ?_
  refine j_if_ge (off := 5) 25 dX12_readSum_20 (by decide) (fun c1 => ?_) (fun c1 => ?_)
  · exact j_le [some (.ref 159), some (.int l1), none] (And.intro rfl (And.intro rfl True.intro)) (v1 x1 h1 p1 c1)
  · exact j_le [some (.ref 159), some (.int l1), none] (And.intro rfl (And.intro rfl True.intro)) (v2 x1 h1 p1 c1)
set_option maxRecDepth 100000 in
theorem bX12_readSum_23 {sc : Nat × (Nat → Int32)} {h : jH} {Q : jQ} {l1 : Int32}
    (v1 : Q (.inl (some (.int 0))) (jG0 sc) h) :
    WP mX12_readSum Q 23 [some (.ref 159), some (.int l1), none] [] (jG0 sc) h (0, 0) := by
  refine j_iconst (n := 0) 0 (by decide) dX12_readSum_23 ?_
  exact j_iret rfl rfl (Nat.zero_le _) (Nat.zero_le _) dX12_readSum_24 v1
set_option maxRecDepth 100000 in
theorem bX12_readSum_25 {sc : Nat × (Nat → Int32)} {h : jH} {Q : jQ} {l1 : Int32} {P1 : Int32 → jH → Prop}
    (k1 : JM mX12_sign [.ref 159, .int 43] (jG0 sc) h (jint sc P1))
    (v1 : ∀ (x1 : Int32) (h1 : jH), P1 x1 h1 → x1 = 0 → WP mX12_readSum Q 38 [some (.ref 159), some (.int l1), none] [] (jG0 sc) h1 (0, 0))
    (v2 : ∀ (x1 : Int32) (h1 : jH), P1 x1 h1 → ¬ x1 = 0 → WP mX12_readSum Q 34 [some (.ref 159), some (.int l1), none] [] (jG0 sc) h1 (0, 0)) :
    WP mX12_readSum Q 25 [some (.ref 159), some (.int l1), none] [] (jG0 sc) h (0, 0) := by
  refine j_aload_n (i := 0) rfl dX12_readSum_25 ?_
  refine j_bipush (n := 43) 43 (by decide) dX12_readSum_26 ?_
  refine j_callV (idx := 122) (As := [.int 43]) (ci := 12) (n := 1) k1 jint_nt (jlkT (jtb7 4 rfl) rfl) sX12_sign kX12_sign rfl ⟨rfl, by decide +kernel, by decide +kernel, by decide +kernel⟩ rfl ⟨by decide, by decide⟩ (Nat.le_of_ble_eq_true rfl) rfl (Nat.le_of_ble_eq_true rfl) (Nat.le_of_ble_eq_true rfl) ⟨Nat.zero_le _, Nat.zero_le _⟩ dX12_readSum_28 (fun r Γ' h1 q => ?_)
  obtain ⟨x1, q0, rfl, p1⟩ := q; cases q0
  refine j_eqst [.int x1] (by rfl) ?_
  refine j_if_eq (off := 7) 38 dX12_readSum_31 (by decide) (fun c1 => ?_) (fun c1 => ?_)
  · exact j_le [some (.ref 159), some (.int l1), none] (And.intro rfl (And.intro rfl True.intro)) (v1 x1 h1 p1 c1)
  · exact j_le [some (.ref 159), some (.int l1), none] (And.intro rfl (And.intro rfl True.intro)) (v2 x1 h1 p1 c1)
set_option maxRecDepth 100000 in
theorem bX12_readSum_34 {sc : Nat × (Nat → Int32)} {h : jH} {Q : jQ} {l1 : Int32}
    (v1 : WP mX12_readSum Q 91 [some (.ref 159), some (.int l1), none] [.int 1] (jG0 sc) h (0, 0)) :
    WP mX12_readSum Q 34 [some (.ref 159), some (.int l1), none] [] (jG0 sc) h (0, 0) := by
  refine j_iconst (n := 1) 1 (by decide) dX12_readSum_34 ?_
  refine j_goto (off := 56) 91 dX12_readSum_35 (by decide) ?_
  exact j_le [some (.ref 159), some (.int l1), none] (And.intro rfl (And.intro rfl True.intro)) v1
set_option maxRecDepth 100000 in
theorem bX12_readSum_38 {sc : Nat × (Nat → Int32)} {h : jH} {Q : jQ} {l1 : Int32} {P1 : Int32 → jH → Prop}
    (k1 : JM mX12_sign [.ref 159, .int 45] (jG0 sc) h (jint sc P1))
    (v1 : ∀ (x1 : Int32) (h1 : jH), P1 x1 h1 → x1 = 0 → WP mX12_readSum Q 51 [some (.ref 159), some (.int l1), none] [] (jG0 sc) h1 (0, 0))
    (v2 : ∀ (x1 : Int32) (h1 : jH), P1 x1 h1 → ¬ x1 = 0 → WP mX12_readSum Q 47 [some (.ref 159), some (.int l1), none] [] (jG0 sc) h1 (0, 0)) :
    WP mX12_readSum Q 38 [some (.ref 159), some (.int l1), none] [] (jG0 sc) h (0, 0) := by
  refine j_aload_n (i := 0) rfl dX12_readSum_38 ?_
  refine j_bipush (n := 45) 45 (by decide) dX12_readSum_39 ?_
  refine j_callV (idx := 122) (As := [.int 45]) (ci := 12) (n := 1) k1 jint_nt (jlkT (jtb7 4 rfl) rfl) sX12_sign kX12_sign rfl ⟨rfl, by decide +kernel, by decide +kernel, by decide +kernel⟩ rfl ⟨by decide, by decide⟩ (Nat.le_of_ble_eq_true rfl) rfl (Nat.le_of_ble_eq_true rfl) (Nat.le_of_ble_eq_true rfl) ⟨Nat.zero_le _, Nat.zero_le _⟩ dX12_readSum_41 (fun r Γ' h1 q => ?_)
  obtain ⟨x1, q0, rfl, p1⟩ := q; cases q0
  refine j_eqst [.int x1] (by rfl) ?_
  refine j_if_eq (off := 7) 51 dX12_readSum_44 (by decide) (fun c1 => ?_) (fun c1 => ?_)
  · exact j_le [some (.ref 159), some (.int l1), none] (And.intro rfl (And.intro rfl True.intro)) (v1 x1 h1 p1 c1)
  · exact j_le [some (.ref 159), some (.int l1), none] (And.intro rfl (And.intro rfl True.intro)) (v2 x1 h1 p1 c1)
set_option maxRecDepth 100000 in
theorem bX12_readSum_47 {sc : Nat × (Nat → Int32)} {h : jH} {Q : jQ} {l1 : Int32}
    (v1 : WP mX12_readSum Q 91 [some (.ref 159), some (.int l1), none] [.int 2] (jG0 sc) h (0, 0)) :
    WP mX12_readSum Q 47 [some (.ref 159), some (.int l1), none] [] (jG0 sc) h (0, 0) := by
  refine j_iconst (n := 2) 2 (by decide) dX12_readSum_47 ?_
  refine j_goto (off := 43) 91 dX12_readSum_48 (by decide) ?_
  exact j_le [some (.ref 159), some (.int l1), none] (And.intro rfl (And.intro rfl True.intro)) v1
set_option maxRecDepth 100000 in
theorem bX12_readSum_51 {sc : Nat × (Nat → Int32)} {h : jH} {Q : jQ} {l1 : Int32} {P1 : Int32 → jH → Prop}
    (k1 : JM mX12_sign [.ref 159, .int 42] (jG0 sc) h (jint sc P1))
    (v1 : ∀ (x1 : Int32) (h1 : jH), P1 x1 h1 → x1 = 0 → WP mX12_readSum Q 64 [some (.ref 159), some (.int l1), none] [] (jG0 sc) h1 (0, 0))
    (v2 : ∀ (x1 : Int32) (h1 : jH), P1 x1 h1 → ¬ x1 = 0 → WP mX12_readSum Q 60 [some (.ref 159), some (.int l1), none] [] (jG0 sc) h1 (0, 0)) :
    WP mX12_readSum Q 51 [some (.ref 159), some (.int l1), none] [] (jG0 sc) h (0, 0) := by
  refine j_aload_n (i := 0) rfl dX12_readSum_51 ?_
  refine j_bipush (n := 42) 42 (by decide) dX12_readSum_52 ?_
  refine j_callV (idx := 122) (As := [.int 42]) (ci := 12) (n := 1) k1 jint_nt (jlkT (jtb7 4 rfl) rfl) sX12_sign kX12_sign rfl ⟨rfl, by decide +kernel, by decide +kernel, by decide +kernel⟩ rfl ⟨by decide, by decide⟩ (Nat.le_of_ble_eq_true rfl) rfl (Nat.le_of_ble_eq_true rfl) (Nat.le_of_ble_eq_true rfl) ⟨Nat.zero_le _, Nat.zero_le _⟩ dX12_readSum_54 (fun r Γ' h1 q => ?_)
  obtain ⟨x1, q0, rfl, p1⟩ := q; cases q0
  refine j_eqst [.int x1] (by rfl) ?_
  refine j_if_eq (off := 7) 64 dX12_readSum_57 (by decide) (fun c1 => ?_) (fun c1 => ?_)
  · exact j_le [some (.ref 159), some (.int l1), none] (And.intro rfl (And.intro rfl True.intro)) (v1 x1 h1 p1 c1)
  · exact j_le [some (.ref 159), some (.int l1), none] (And.intro rfl (And.intro rfl True.intro)) (v2 x1 h1 p1 c1)
set_option maxRecDepth 100000 in
theorem bX12_readSum_60 {sc : Nat × (Nat → Int32)} {h : jH} {Q : jQ} {l1 : Int32}
    (v1 : WP mX12_readSum Q 91 [some (.ref 159), some (.int l1), none] [.int 3] (jG0 sc) h (0, 0)) :
    WP mX12_readSum Q 60 [some (.ref 159), some (.int l1), none] [] (jG0 sc) h (0, 0) := by
  refine j_iconst (n := 3) 3 (by decide) dX12_readSum_60 ?_
  refine j_goto (off := 30) 91 dX12_readSum_61 (by decide) ?_
  exact j_le [some (.ref 159), some (.int l1), none] (And.intro rfl (And.intro rfl True.intro)) v1
set_option maxRecDepth 100000 in
theorem bX12_readSum_64 {sc : Nat × (Nat → Int32)} {h : jH} {Q : jQ} {l1 : Int32} {P1 : Int32 → jH → Prop}
    (k1 : JM mX12_sign [.ref 159, .int 47] (jG0 sc) h (jint sc P1))
    (v1 : ∀ (x1 : Int32) (h1 : jH), P1 x1 h1 → x1 = 0 → WP mX12_readSum Q 77 [some (.ref 159), some (.int l1), none] [] (jG0 sc) h1 (0, 0))
    (v2 : ∀ (x1 : Int32) (h1 : jH), P1 x1 h1 → ¬ x1 = 0 → WP mX12_readSum Q 73 [some (.ref 159), some (.int l1), none] [] (jG0 sc) h1 (0, 0)) :
    WP mX12_readSum Q 64 [some (.ref 159), some (.int l1), none] [] (jG0 sc) h (0, 0) := by
  refine j_aload_n (i := 0) rfl dX12_readSum_64 ?_
  refine j_bipush (n := 47) 47 (by decide) dX12_readSum_65 ?_
  refine j_callV (idx := 122) (As := [.int 47]) (ci := 12) (n := 1) k1 jint_nt (jlkT (jtb7 4 rfl) rfl) sX12_sign kX12_sign rfl ⟨rfl, by decide +kernel, by decide +kernel, by decide +kernel⟩ rfl ⟨by decide, by decide⟩ (Nat.le_of_ble_eq_true rfl) rfl (Nat.le_of_ble_eq_true rfl) (Nat.le_of_ble_eq_true rfl) ⟨Nat.zero_le _, Nat.zero_le _⟩ dX12_readSum_67 (fun r Γ' h1 q => ?_)
  obtain ⟨x1, q0, rfl, p1⟩ := q; cases q0
  refine j_eqst [.int x1] (by rfl) ?_
  refine j_if_eq (off := 7) 77 dX12_readSum_70 (by decide) (fun c1 => ?_) (fun c1 => ?_)
  · exact j_le [some (.ref 159), some (.int l1), none] (And.intro rfl (And.intro rfl True.intro)) (v1 x1 h1 p1 c1)
  · exact j_le [some (.ref 159), some (.int l1), none] (And.intro rfl (And.intro rfl True.intro)) (v2 x1 h1 p1 c1)
set_option maxRecDepth 100000 in
theorem bX12_readSum_73 {sc : Nat × (Nat → Int32)} {h : jH} {Q : jQ} {l1 : Int32}
    (v1 : WP mX12_readSum Q 91 [some (.ref 159), some (.int l1), none] [.int 4] (jG0 sc) h (0, 0)) :
    WP mX12_readSum Q 73 [some (.ref 159), some (.int l1), none] [] (jG0 sc) h (0, 0) := by
  refine j_iconst (n := 4) 4 (by decide) dX12_readSum_73 ?_
  refine j_goto (off := 17) 91 dX12_readSum_74 (by decide) ?_
  exact j_le [some (.ref 159), some (.int l1), none] (And.intro rfl (And.intro rfl True.intro)) v1
set_option maxRecDepth 100000 in
theorem bX12_readSum_77 {sc : Nat × (Nat → Int32)} {h : jH} {Q : jQ} {l1 : Int32} {P1 : Int32 → jH → Prop}
    (k1 : JM mX12_sign [.ref 159, .int 37] (jG0 sc) h (jint sc P1))
    (v1 : ∀ (x1 : Int32) (h1 : jH), P1 x1 h1 → x1 = 0 → WP mX12_readSum Q 90 [some (.ref 159), some (.int l1), none] [] (jG0 sc) h1 (0, 0))
    (v2 : ∀ (x1 : Int32) (h1 : jH), P1 x1 h1 → ¬ x1 = 0 → WP mX12_readSum Q 86 [some (.ref 159), some (.int l1), none] [] (jG0 sc) h1 (0, 0)) :
    WP mX12_readSum Q 77 [some (.ref 159), some (.int l1), none] [] (jG0 sc) h (0, 0) := by
  refine j_aload_n (i := 0) rfl dX12_readSum_77 ?_
  refine j_bipush (n := 37) 37 (by decide) dX12_readSum_78 ?_
  refine j_callV (idx := 122) (As := [.int 37]) (ci := 12) (n := 1) k1 jint_nt (jlkT (jtb7 4 rfl) rfl) sX12_sign kX12_sign rfl ⟨rfl, by decide +kernel, by decide +kernel, by decide +kernel⟩ rfl ⟨by decide, by decide⟩ (Nat.le_of_ble_eq_true rfl) rfl (Nat.le_of_ble_eq_true rfl) (Nat.le_of_ble_eq_true rfl) ⟨Nat.zero_le _, Nat.zero_le _⟩ dX12_readSum_80 (fun r Γ' h1 q => ?_)
  obtain ⟨x1, q0, rfl, p1⟩ := q; cases q0
  refine j_eqst [.int x1] (by rfl) ?_
  refine j_if_eq (off := 7) 90 dX12_readSum_83 (by decide) (fun c1 => ?_) (fun c1 => ?_)
  · exact j_le [some (.ref 159), some (.int l1), none] (And.intro rfl (And.intro rfl True.intro)) (v1 x1 h1 p1 c1)
  · exact j_le [some (.ref 159), some (.int l1), none] (And.intro rfl (And.intro rfl True.intro)) (v2 x1 h1 p1 c1)
set_option maxRecDepth 100000 in
theorem bX12_readSum_86 {sc : Nat × (Nat → Int32)} {h : jH} {Q : jQ} {l1 : Int32}
    (v1 : WP mX12_readSum Q 91 [some (.ref 159), some (.int l1), none] [.int 5] (jG0 sc) h (0, 0)) :
    WP mX12_readSum Q 86 [some (.ref 159), some (.int l1), none] [] (jG0 sc) h (0, 0) := by
  refine j_iconst (n := 5) 5 (by decide) dX12_readSum_86 ?_
  refine j_goto (off := 4) 91 dX12_readSum_87 (by decide) ?_
  exact j_le [some (.ref 159), some (.int l1), none] (And.intro rfl (And.intro rfl True.intro)) v1
set_option maxRecDepth 100000 in
theorem bX12_readSum_90 {sc : Nat × (Nat → Int32)} {h : jH} {Q : jQ} {l1 : Int32}
    (v1 : WP mX12_readSum Q 91 [some (.ref 159), some (.int l1), none] [.int 0] (jG0 sc) h (0, 0)) :
    WP mX12_readSum Q 90 [some (.ref 159), some (.int l1), none] [] (jG0 sc) h (0, 0) := by
  refine j_iconst (n := 0) 0 (by decide) dX12_readSum_90 ?_
  exact j_le [some (.ref 159), some (.int l1), none] (And.intro rfl (And.intro rfl True.intro)) v1
set_option maxRecDepth 100000 in
theorem bX12_readSum_91 {sc : Nat × (Nat → Int32)} {h : jH} {Q : jQ} {l1 s0 : Int32}
    (v1 : ¬ s0 = 0 → WP mX12_readSum Q 98 [some (.ref 159), some (.int l1), some (.int s0)] [] (jG0 sc) h (0, 0))
    (v2 : s0 = 0 → WP mX12_readSum Q 96 [some (.ref 159), some (.int l1), some (.int s0)] [] (jG0 sc) h (0, 0)) :
    WP mX12_readSum Q 91 [some (.ref 159), some (.int l1), none] [.int s0] (jG0 sc) h (0, 0) := by
  refine j_istore_n (i := 2) dX12_readSum_91 (Nat.le_of_ble_eq_true rfl) ?_
  refine j_iload_n (i := 2) rfl dX12_readSum_92 ?_
  refine j_if_ne (off := 5) 98 dX12_readSum_93 (by decide) (fun c1 => ?_) (fun c1 => ?_)
  · exact j_le [some (.ref 159), some (.int l1), some (.int s0)] (And.intro rfl (And.intro rfl (And.intro rfl True.intro))) (v1 c1)
  · exact j_le [some (.ref 159), some (.int l1), some (.int s0)] (And.intro rfl (And.intro rfl (And.intro rfl True.intro))) (v2 c1)
set_option maxRecDepth 100000 in
theorem bX12_readSum_96 {sc : Nat × (Nat → Int32)} {h : jH} {Q : jQ} {l1 l2 : Int32}
    (v1 : Q (.inl (some (.int 1))) (jG0 sc) h) :
    WP mX12_readSum Q 96 [some (.ref 159), some (.int l1), some (.int l2)] [] (jG0 sc) h (0, 0) := by
  refine j_iconst (n := 1) 1 (by decide) dX12_readSum_96 ?_
  exact j_iret rfl rfl (Nat.zero_le _) (Nat.zero_le _) dX12_readSum_97 v1
set_option maxRecDepth 100000 in
theorem bX12_readSum_98 {sc : Nat × (Nat → Int32)} {h : jH} {Q : jQ} {l1 l2 : Int32} {P1 : Int32 → jH → Prop}
    (o1 : vp_in (l1 + 3) 61)
    (k1 : JM mX12_readAtom [.ref 159] (jG0 sc) (jput h 164 ((l1 + 3).toNatClampNeg) l2) (jint sc P1))
    (o2 : ∀ (x1 : Int32) (h1 : jH), P1 x1 h1 → vp_in (l1 + 4) 61)
    (v1 : ∀ (x1 : Int32) (h1 : jH), P1 x1 h1 → WP mX12_readSum Q 126 [some (.ref 159), some (.int l1), some (.int l2)] [.int (l1 + 4), .ref 164] (jG0 sc) (jput h1 164 ((l1 + 4).toNatClampNeg) x1) (0, 0)) :
    WP mX12_readSum Q 98 [some (.ref 159), some (.int l1), some (.int l2)] [] (jG0 sc) h (0, 0) := by
  refine j_aload_n (i := 0) rfl dX12_readSum_98 ?_
  refine j_getR (idx := 30) (ci := 12) (k := 12) (nest := false) (show (12, 30, 12, 12, false) ∈ jFT by decide) rfl (Nat.le_of_ble_eq_true rfl) rfl (a := 164) rfl dX12_readSum_99 ?_
  refine j_iload_n (i := 1) rfl dX12_readSum_102 ?_
  refine j_iconst (n := 3) 3 (by decide) dX12_readSum_103 ?_
  refine j_iadd dX12_readSum_104 ?_
  refine j_iload_n (i := 2) rfl dX12_readSum_105 ?_
  refine j_iast (Nat.le_of_ble_eq_true rfl) rfl o1 dX12_readSum_106 ?_
  refine j_aload_n (i := 0) rfl dX12_readSum_107 ?_
  refine j_getR (idx := 30) (ci := 12) (k := 12) (nest := false) (show (12, 30, 12, 12, false) ∈ jFT by decide) rfl (Nat.le_of_ble_eq_true rfl) rfl (a := 164) rfl dX12_readSum_108 ?_
  refine j_iload_n (i := 1) rfl dX12_readSum_111 ?_
  refine j_iconst (n := 4) 4 (by decide) dX12_readSum_112 ?_
  refine j_iadd dX12_readSum_113 ?_
  refine j_aload_n (i := 0) rfl dX12_readSum_114 ?_
  refine j_callV (idx := 119) (As := []) (ci := 12) (n := 0) k1 jint_nt (jlkT (jtb6 236 rfl) rfl) sX12_readAtom kX12_readAtom rfl ⟨rfl, by decide +kernel, by decide +kernel, by decide +kernel⟩ rfl ⟨by decide, by decide⟩ (Nat.le_of_ble_eq_true rfl) rfl (Nat.le_of_ble_eq_true rfl) (Nat.le_of_ble_eq_true rfl) ⟨Nat.zero_le _, Nat.zero_le _⟩ dX12_readSum_115 (fun r Γ' h1 q => ?_)
  obtain ⟨x1, q0, rfl, p1⟩ := q; cases q0
  refine j_eqst [.int x1, .int (l1 + 4), .ref 164] (by rfl) ?_
  refine j_iast (Nat.le_of_ble_eq_true rfl) rfl (o2 x1 h1 p1) dX12_readSum_118 ?_
  refine j_aload_n (i := 0) rfl dX12_readSum_119 ?_
  refine j_getR (idx := 30) (ci := 12) (k := 12) (nest := false) (show (12, 30, 12, 12, false) ∈ jFT by decide) rfl (Nat.le_of_ble_eq_true rfl) rfl (a := 164) rfl dX12_readSum_120 ?_
  refine j_iload_n (i := 1) rfl dX12_readSum_123 ?_
  refine j_iconst (n := 4) 4 (by decide) dX12_readSum_124 ?_
  refine j_iadd dX12_readSum_125 ?_
  exact j_le [some (.ref 159), some (.int l1), some (.int l2)] (And.intro rfl (And.intro rfl (And.intro rfl True.intro))) (v1 x1 h1 p1)
set_option maxRecDepth 100000 in
theorem bX12_readSum_126 {sc : Nat × (Nat → Int32)} {h : jH} {Q : jQ} {l1 l2 s0 : Int32}
    (o1 : vp_in s0 61)
    (v1 : (h 164 s0.toNatClampNeg) < 0 → WP mX12_readSum Q 134 [some (.ref 159), some (.int l1), some (.int l2)] [] (jG0 sc) h (0, 0))
    (v2 : ¬ (h 164 s0.toNatClampNeg) < 0 → WP mX12_readSum Q 130 [some (.ref 159), some (.int l1), some (.int l2)] [] (jG0 sc) h (0, 0)) :
    WP mX12_readSum Q 126 [some (.ref 159), some (.int l1), some (.int l2)] [.int s0, .ref 164] (jG0 sc) h (0, 0) := by
  refine j_iald (Nat.le_of_ble_eq_true rfl) rfl o1 dX12_readSum_126 ?_
  refine j_if_lt (off := 7) 134 dX12_readSum_127 (by decide) (fun c1 => ?_) (fun c1 => ?_)
  · exact j_le [some (.ref 159), some (.int l1), some (.int l2)] (And.intro rfl (And.intro rfl (And.intro rfl True.intro))) (v1 c1)
  · exact j_le [some (.ref 159), some (.int l1), some (.int l2)] (And.intro rfl (And.intro rfl (And.intro rfl True.intro))) (v2 c1)
set_option maxRecDepth 100000 in
theorem bX12_readSum_130 {sc : Nat × (Nat → Int32)} {h : jH} {Q : jQ} {l1 l2 : Int32}
    (v1 : WP mX12_readSum Q 135 [some (.ref 159), some (.int l1), some (.int l2)] [.int 1] (jG0 sc) h (0, 0)) :
    WP mX12_readSum Q 130 [some (.ref 159), some (.int l1), some (.int l2)] [] (jG0 sc) h (0, 0) := by
  refine j_iconst (n := 1) 1 (by decide) dX12_readSum_130 ?_
  refine j_goto (off := 4) 135 dX12_readSum_131 (by decide) ?_
  exact j_le [some (.ref 159), some (.int l1), some (.int l2)] (And.intro rfl (And.intro rfl (And.intro rfl True.intro))) v1
set_option maxRecDepth 100000 in
theorem bX12_readSum_134 {sc : Nat × (Nat → Int32)} {h : jH} {Q : jQ} {l1 l2 : Int32}
    (v1 : WP mX12_readSum Q 135 [some (.ref 159), some (.int l1), some (.int l2)] [.int 0] (jG0 sc) h (0, 0)) :
    WP mX12_readSum Q 134 [some (.ref 159), some (.int l1), some (.int l2)] [] (jG0 sc) h (0, 0) := by
  refine j_iconst (n := 0) 0 (by decide) dX12_readSum_134 ?_
  exact j_le [some (.ref 159), some (.int l1), some (.int l2)] (And.intro rfl (And.intro rfl (And.intro rfl True.intro))) v1
set_option maxRecDepth 100000 in
theorem bX12_readSum_135 {sc : Nat × (Nat → Int32)} {h : jH} {Q : jQ} {l1 l2 s0 : Int32}
    (o1 : s0 = 0 ∨ s0 = 1)
    (v1 : Q (.inl (some (.int s0))) (jG0 sc) h) :
    WP mX12_readSum Q 135 [some (.ref 159), some (.int l1), some (.int l2)] [.int s0] (jG0 sc) h (0, 0) := by
  exact j_iret rfl (jbn o1) (Nat.zero_le _) (Nat.zero_le _) dX12_readSum_135 v1
set_option maxRecDepth 100000 in
theorem rX12_readSum_0 {sc : Nat × (Nat → Int32)} {h : jH} {Q : jQ} {l1 : Int32} {P1 : Int32 → jH → Prop} {P2 : Int32 → jH → Prop} {P3 : Int32 → jH → Prop} {P4 : Int32 → jH → Prop} {P5 : Int32 → jH → Prop} {P6 : Int32 → jH → Prop} {P7 : Int32 → jH → Prop} {P8 : Int32 → jH → Prop} {P9 : Int32 → jH → Prop} {P10 : Int32 → jH → Prop} {P11 : Int32 → jH → Prop}
    (k1 : JM mX12_readAtom [.ref 159] (jG0 sc) h (jint sc P1))
    (o1 : ∀ (x1 : Int32) (h1 : jH), P1 x1 h1 → vp_in (l1 + 2) 61)
    (k2 : ∀ (x1 : Int32) (h1 : jH), P1 x1 h1 → 0 ≤ ((jput h1 164 ((l1 + 2).toNatClampNeg) x1) 164 ((l1 + 2).toNatClampNeg)) → JM mX12_sign [.ref 159, .int 43] (jG0 sc) (jput h1 164 ((l1 + 2).toNatClampNeg) x1) (jint sc P2))
    (k3 : ∀ (x1 : Int32) (h1 : jH), P1 x1 h1 → 0 ≤ ((jput h1 164 ((l1 + 2).toNatClampNeg) x1) 164 ((l1 + 2).toNatClampNeg)) → ∀ (x2 : Int32) (h2 : jH), P2 x2 h2 → x2 = 0 → JM mX12_sign [.ref 159, .int 45] (jG0 sc) h2 (jint sc P3))
    (k4 : ∀ (x1 : Int32) (h1 : jH), P1 x1 h1 → 0 ≤ ((jput h1 164 ((l1 + 2).toNatClampNeg) x1) 164 ((l1 + 2).toNatClampNeg)) → ∀ (x2 : Int32) (h2 : jH), P2 x2 h2 → x2 = 0 → ∀ (x3 : Int32) (h3 : jH), P3 x3 h3 → x3 = 0 → JM mX12_sign [.ref 159, .int 42] (jG0 sc) h3 (jint sc P4))
    (k5 : ∀ (x1 : Int32) (h1 : jH), P1 x1 h1 → 0 ≤ ((jput h1 164 ((l1 + 2).toNatClampNeg) x1) 164 ((l1 + 2).toNatClampNeg)) → ∀ (x2 : Int32) (h2 : jH), P2 x2 h2 → x2 = 0 → ∀ (x3 : Int32) (h3 : jH), P3 x3 h3 → x3 = 0 → ∀ (x4 : Int32) (h4 : jH), P4 x4 h4 → x4 = 0 → JM mX12_sign [.ref 159, .int 47] (jG0 sc) h4 (jint sc P5))
    (k6 : ∀ (x1 : Int32) (h1 : jH), P1 x1 h1 → 0 ≤ ((jput h1 164 ((l1 + 2).toNatClampNeg) x1) 164 ((l1 + 2).toNatClampNeg)) → ∀ (x2 : Int32) (h2 : jH), P2 x2 h2 → x2 = 0 → ∀ (x3 : Int32) (h3 : jH), P3 x3 h3 → x3 = 0 → ∀ (x4 : Int32) (h4 : jH), P4 x4 h4 → x4 = 0 → ∀ (x5 : Int32) (h5 : jH), P5 x5 h5 → x5 = 0 → JM mX12_sign [.ref 159, .int 37] (jG0 sc) h5 (jint sc P6))
    (v1 : ∀ (x1 : Int32) (h1 : jH), P1 x1 h1 → 0 ≤ ((jput h1 164 ((l1 + 2).toNatClampNeg) x1) 164 ((l1 + 2).toNatClampNeg)) → ∀ (x2 : Int32) (h2 : jH), P2 x2 h2 → x2 = 0 → ∀ (x3 : Int32) (h3 : jH), P3 x3 h3 → x3 = 0 → ∀ (x4 : Int32) (h4 : jH), P4 x4 h4 → x4 = 0 → ∀ (x5 : Int32) (h5 : jH), P5 x5 h5 → x5 = 0 → ∀ (x6 : Int32) (h6 : jH), P6 x6 h6 → x6 = 0 → Q (.inl (some (.int 1))) (jG0 sc) h6)
    (o2 : ∀ (x1 : Int32) (h1 : jH), P1 x1 h1 → 0 ≤ ((jput h1 164 ((l1 + 2).toNatClampNeg) x1) 164 ((l1 + 2).toNatClampNeg)) → ∀ (x2 : Int32) (h2 : jH), P2 x2 h2 → x2 = 0 → ∀ (x3 : Int32) (h3 : jH), P3 x3 h3 → x3 = 0 → ∀ (x4 : Int32) (h4 : jH), P4 x4 h4 → x4 = 0 → ∀ (x5 : Int32) (h5 : jH), P5 x5 h5 → x5 = 0 → ∀ (x6 : Int32) (h6 : jH), P6 x6 h6 → ¬ x6 = 0 → vp_in (l1 + 3) 61)
    (k7 : ∀ (x1 : Int32) (h1 : jH), P1 x1 h1 → 0 ≤ ((jput h1 164 ((l1 + 2).toNatClampNeg) x1) 164 ((l1 + 2).toNatClampNeg)) → ∀ (x2 : Int32) (h2 : jH), P2 x2 h2 → x2 = 0 → ∀ (x3 : Int32) (h3 : jH), P3 x3 h3 → x3 = 0 → ∀ (x4 : Int32) (h4 : jH), P4 x4 h4 → x4 = 0 → ∀ (x5 : Int32) (h5 : jH), P5 x5 h5 → x5 = 0 → ∀ (x6 : Int32) (h6 : jH), P6 x6 h6 → ¬ x6 = 0 → JM mX12_readAtom [.ref 159] (jG0 sc) (jput h6 164 ((l1 + 3).toNatClampNeg) 5) (jint sc P7))
    (o3 : ∀ (x1 : Int32) (h1 : jH), P1 x1 h1 → 0 ≤ ((jput h1 164 ((l1 + 2).toNatClampNeg) x1) 164 ((l1 + 2).toNatClampNeg)) → ∀ (x2 : Int32) (h2 : jH), P2 x2 h2 → x2 = 0 → ∀ (x3 : Int32) (h3 : jH), P3 x3 h3 → x3 = 0 → ∀ (x4 : Int32) (h4 : jH), P4 x4 h4 → x4 = 0 → ∀ (x5 : Int32) (h5 : jH), P5 x5 h5 → x5 = 0 → ∀ (x6 : Int32) (h6 : jH), P6 x6 h6 → ¬ x6 = 0 → ∀ (x7 : Int32) (h7 : jH), P7 x7 h7 → vp_in (l1 + 4) 61)
    (v2 : ∀ (x1 : Int32) (h1 : jH), P1 x1 h1 → 0 ≤ ((jput h1 164 ((l1 + 2).toNatClampNeg) x1) 164 ((l1 + 2).toNatClampNeg)) → ∀ (x2 : Int32) (h2 : jH), P2 x2 h2 → x2 = 0 → ∀ (x3 : Int32) (h3 : jH), P3 x3 h3 → x3 = 0 → ∀ (x4 : Int32) (h4 : jH), P4 x4 h4 → x4 = 0 → ∀ (x5 : Int32) (h5 : jH), P5 x5 h5 → x5 = 0 → ∀ (x6 : Int32) (h6 : jH), P6 x6 h6 → ¬ x6 = 0 → ∀ (x7 : Int32) (h7 : jH), P7 x7 h7 → ((jput h7 164 ((l1 + 4).toNatClampNeg) x7) 164 ((l1 + 4).toNatClampNeg)) < 0 → Q (.inl (some (.int 0))) (jG0 sc) (jput h7 164 ((l1 + 4).toNatClampNeg) x7))
    (v3 : ∀ (x1 : Int32) (h1 : jH), P1 x1 h1 → 0 ≤ ((jput h1 164 ((l1 + 2).toNatClampNeg) x1) 164 ((l1 + 2).toNatClampNeg)) → ∀ (x2 : Int32) (h2 : jH), P2 x2 h2 → x2 = 0 → ∀ (x3 : Int32) (h3 : jH), P3 x3 h3 → x3 = 0 → ∀ (x4 : Int32) (h4 : jH), P4 x4 h4 → x4 = 0 → ∀ (x5 : Int32) (h5 : jH), P5 x5 h5 → x5 = 0 → ∀ (x6 : Int32) (h6 : jH), P6 x6 h6 → ¬ x6 = 0 → ∀ (x7 : Int32) (h7 : jH), P7 x7 h7 → ¬ ((jput h7 164 ((l1 + 4).toNatClampNeg) x7) 164 ((l1 + 4).toNatClampNeg)) < 0 → Q (.inl (some (.int 1))) (jG0 sc) (jput h7 164 ((l1 + 4).toNatClampNeg) x7))
    (o4 : ∀ (x1 : Int32) (h1 : jH), P1 x1 h1 → 0 ≤ ((jput h1 164 ((l1 + 2).toNatClampNeg) x1) 164 ((l1 + 2).toNatClampNeg)) → ∀ (x2 : Int32) (h2 : jH), P2 x2 h2 → x2 = 0 → ∀ (x3 : Int32) (h3 : jH), P3 x3 h3 → x3 = 0 → ∀ (x4 : Int32) (h4 : jH), P4 x4 h4 → x4 = 0 → ∀ (x5 : Int32) (h5 : jH), P5 x5 h5 → ¬ x5 = 0 → vp_in (l1 + 3) 61)
    (k8 : ∀ (x1 : Int32) (h1 : jH), P1 x1 h1 → 0 ≤ ((jput h1 164 ((l1 + 2).toNatClampNeg) x1) 164 ((l1 + 2).toNatClampNeg)) → ∀ (x2 : Int32) (h2 : jH), P2 x2 h2 → x2 = 0 → ∀ (x3 : Int32) (h3 : jH), P3 x3 h3 → x3 = 0 → ∀ (x4 : Int32) (h4 : jH), P4 x4 h4 → x4 = 0 → ∀ (x5 : Int32) (h5 : jH), P5 x5 h5 → ¬ x5 = 0 → JM mX12_readAtom [.ref 159] (jG0 sc) (jput h5 164 ((l1 + 3).toNatClampNeg) 4) (jint sc P8))
    (o5 : ∀ (x1 : Int32) (h1 : jH), P1 x1 h1 → 0 ≤ ((jput h1 164 ((l1 + 2).toNatClampNeg) x1) 164 ((l1 + 2).toNatClampNeg)) → ∀ (x2 : Int32) (h2 : jH), P2 x2 h2 → x2 = 0 → ∀ (x3 : Int32) (h3 : jH), P3 x3 h3 → x3 = 0 → ∀ (x4 : Int32) (h4 : jH), P4 x4 h4 → x4 = 0 → ∀ (x5 : Int32) (h5 : jH), P5 x5 h5 → ¬ x5 = 0 → ∀ (x8 : Int32) (h8 : jH), P8 x8 h8 → vp_in (l1 + 4) 61)
    (v4 : ∀ (x1 : Int32) (h1 : jH), P1 x1 h1 → 0 ≤ ((jput h1 164 ((l1 + 2).toNatClampNeg) x1) 164 ((l1 + 2).toNatClampNeg)) → ∀ (x2 : Int32) (h2 : jH), P2 x2 h2 → x2 = 0 → ∀ (x3 : Int32) (h3 : jH), P3 x3 h3 → x3 = 0 → ∀ (x4 : Int32) (h4 : jH), P4 x4 h4 → x4 = 0 → ∀ (x5 : Int32) (h5 : jH), P5 x5 h5 → ¬ x5 = 0 → ∀ (x8 : Int32) (h8 : jH), P8 x8 h8 → ((jput h8 164 ((l1 + 4).toNatClampNeg) x8) 164 ((l1 + 4).toNatClampNeg)) < 0 → Q (.inl (some (.int 0))) (jG0 sc) (jput h8 164 ((l1 + 4).toNatClampNeg) x8))
    (v5 : ∀ (x1 : Int32) (h1 : jH), P1 x1 h1 → 0 ≤ ((jput h1 164 ((l1 + 2).toNatClampNeg) x1) 164 ((l1 + 2).toNatClampNeg)) → ∀ (x2 : Int32) (h2 : jH), P2 x2 h2 → x2 = 0 → ∀ (x3 : Int32) (h3 : jH), P3 x3 h3 → x3 = 0 → ∀ (x4 : Int32) (h4 : jH), P4 x4 h4 → x4 = 0 → ∀ (x5 : Int32) (h5 : jH), P5 x5 h5 → ¬ x5 = 0 → ∀ (x8 : Int32) (h8 : jH), P8 x8 h8 → ¬ ((jput h8 164 ((l1 + 4).toNatClampNeg) x8) 164 ((l1 + 4).toNatClampNeg)) < 0 → Q (.inl (some (.int 1))) (jG0 sc) (jput h8 164 ((l1 + 4).toNatClampNeg) x8))
    (o6 : ∀ (x1 : Int32) (h1 : jH), P1 x1 h1 → 0 ≤ ((jput h1 164 ((l1 + 2).toNatClampNeg) x1) 164 ((l1 + 2).toNatClampNeg)) → ∀ (x2 : Int32) (h2 : jH), P2 x2 h2 → x2 = 0 → ∀ (x3 : Int32) (h3 : jH), P3 x3 h3 → x3 = 0 → ∀ (x4 : Int32) (h4 : jH), P4 x4 h4 → ¬ x4 = 0 → vp_in (l1 + 3) 61)
    (k9 : ∀ (x1 : Int32) (h1 : jH), P1 x1 h1 → 0 ≤ ((jput h1 164 ((l1 + 2).toNatClampNeg) x1) 164 ((l1 + 2).toNatClampNeg)) → ∀ (x2 : Int32) (h2 : jH), P2 x2 h2 → x2 = 0 → ∀ (x3 : Int32) (h3 : jH), P3 x3 h3 → x3 = 0 → ∀ (x4 : Int32) (h4 : jH), P4 x4 h4 → ¬ x4 = 0 → JM mX12_readAtom [.ref 159] (jG0 sc) (jput h4 164 ((l1 + 3).toNatClampNeg) 3) (jint sc P9))
    (o7 : ∀ (x1 : Int32) (h1 : jH), P1 x1 h1 → 0 ≤ ((jput h1 164 ((l1 + 2).toNatClampNeg) x1) 164 ((l1 + 2).toNatClampNeg)) → ∀ (x2 : Int32) (h2 : jH), P2 x2 h2 → x2 = 0 → ∀ (x3 : Int32) (h3 : jH), P3 x3 h3 → x3 = 0 → ∀ (x4 : Int32) (h4 : jH), P4 x4 h4 → ¬ x4 = 0 → ∀ (x9 : Int32) (h9 : jH), P9 x9 h9 → vp_in (l1 + 4) 61)
    (v6 : ∀ (x1 : Int32) (h1 : jH), P1 x1 h1 → 0 ≤ ((jput h1 164 ((l1 + 2).toNatClampNeg) x1) 164 ((l1 + 2).toNatClampNeg)) → ∀ (x2 : Int32) (h2 : jH), P2 x2 h2 → x2 = 0 → ∀ (x3 : Int32) (h3 : jH), P3 x3 h3 → x3 = 0 → ∀ (x4 : Int32) (h4 : jH), P4 x4 h4 → ¬ x4 = 0 → ∀ (x9 : Int32) (h9 : jH), P9 x9 h9 → ((jput h9 164 ((l1 + 4).toNatClampNeg) x9) 164 ((l1 + 4).toNatClampNeg)) < 0 → Q (.inl (some (.int 0))) (jG0 sc) (jput h9 164 ((l1 + 4).toNatClampNeg) x9))
    (v7 : ∀ (x1 : Int32) (h1 : jH), P1 x1 h1 → 0 ≤ ((jput h1 164 ((l1 + 2).toNatClampNeg) x1) 164 ((l1 + 2).toNatClampNeg)) → ∀ (x2 : Int32) (h2 : jH), P2 x2 h2 → x2 = 0 → ∀ (x3 : Int32) (h3 : jH), P3 x3 h3 → x3 = 0 → ∀ (x4 : Int32) (h4 : jH), P4 x4 h4 → ¬ x4 = 0 → ∀ (x9 : Int32) (h9 : jH), P9 x9 h9 → ¬ ((jput h9 164 ((l1 + 4).toNatClampNeg) x9) 164 ((l1 + 4).toNatClampNeg)) < 0 → Q (.inl (some (.int 1))) (jG0 sc) (jput h9 164 ((l1 + 4).toNatClampNeg) x9))
    (o8 : ∀ (x1 : Int32) (h1 : jH), P1 x1 h1 → 0 ≤ ((jput h1 164 ((l1 + 2).toNatClampNeg) x1) 164 ((l1 + 2).toNatClampNeg)) → ∀ (x2 : Int32) (h2 : jH), P2 x2 h2 → x2 = 0 → ∀ (x3 : Int32) (h3 : jH), P3 x3 h3 → ¬ x3 = 0 → vp_in (l1 + 3) 61)
    (k10 : ∀ (x1 : Int32) (h1 : jH), P1 x1 h1 → 0 ≤ ((jput h1 164 ((l1 + 2).toNatClampNeg) x1) 164 ((l1 + 2).toNatClampNeg)) → ∀ (x2 : Int32) (h2 : jH), P2 x2 h2 → x2 = 0 → ∀ (x3 : Int32) (h3 : jH), P3 x3 h3 → ¬ x3 = 0 → JM mX12_readAtom [.ref 159] (jG0 sc) (jput h3 164 ((l1 + 3).toNatClampNeg) 2) (jint sc P10))
    (o9 : ∀ (x1 : Int32) (h1 : jH), P1 x1 h1 → 0 ≤ ((jput h1 164 ((l1 + 2).toNatClampNeg) x1) 164 ((l1 + 2).toNatClampNeg)) → ∀ (x2 : Int32) (h2 : jH), P2 x2 h2 → x2 = 0 → ∀ (x3 : Int32) (h3 : jH), P3 x3 h3 → ¬ x3 = 0 → ∀ (x10 : Int32) (h10 : jH), P10 x10 h10 → vp_in (l1 + 4) 61)
    (v8 : ∀ (x1 : Int32) (h1 : jH), P1 x1 h1 → 0 ≤ ((jput h1 164 ((l1 + 2).toNatClampNeg) x1) 164 ((l1 + 2).toNatClampNeg)) → ∀ (x2 : Int32) (h2 : jH), P2 x2 h2 → x2 = 0 → ∀ (x3 : Int32) (h3 : jH), P3 x3 h3 → ¬ x3 = 0 → ∀ (x10 : Int32) (h10 : jH), P10 x10 h10 → ((jput h10 164 ((l1 + 4).toNatClampNeg) x10) 164 ((l1 + 4).toNatClampNeg)) < 0 → Q (.inl (some (.int 0))) (jG0 sc) (jput h10 164 ((l1 + 4).toNatClampNeg) x10))
    (v9 : ∀ (x1 : Int32) (h1 : jH), P1 x1 h1 → 0 ≤ ((jput h1 164 ((l1 + 2).toNatClampNeg) x1) 164 ((l1 + 2).toNatClampNeg)) → ∀ (x2 : Int32) (h2 : jH), P2 x2 h2 → x2 = 0 → ∀ (x3 : Int32) (h3 : jH), P3 x3 h3 → ¬ x3 = 0 → ∀ (x10 : Int32) (h10 : jH), P10 x10 h10 → ¬ ((jput h10 164 ((l1 + 4).toNatClampNeg) x10) 164 ((l1 + 4).toNatClampNeg)) < 0 → Q (.inl (some (.int 1))) (jG0 sc) (jput h10 164 ((l1 + 4).toNatClampNeg) x10))
    (o10 : ∀ (x1 : Int32) (h1 : jH), P1 x1 h1 → 0 ≤ ((jput h1 164 ((l1 + 2).toNatClampNeg) x1) 164 ((l1 + 2).toNatClampNeg)) → ∀ (x2 : Int32) (h2 : jH), P2 x2 h2 → ¬ x2 = 0 → vp_in (l1 + 3) 61)
    (k11 : ∀ (x1 : Int32) (h1 : jH), P1 x1 h1 → 0 ≤ ((jput h1 164 ((l1 + 2).toNatClampNeg) x1) 164 ((l1 + 2).toNatClampNeg)) → ∀ (x2 : Int32) (h2 : jH), P2 x2 h2 → ¬ x2 = 0 → JM mX12_readAtom [.ref 159] (jG0 sc) (jput h2 164 ((l1 + 3).toNatClampNeg) 1) (jint sc P11))
    (o11 : ∀ (x1 : Int32) (h1 : jH), P1 x1 h1 → 0 ≤ ((jput h1 164 ((l1 + 2).toNatClampNeg) x1) 164 ((l1 + 2).toNatClampNeg)) → ∀ (x2 : Int32) (h2 : jH), P2 x2 h2 → ¬ x2 = 0 → ∀ (x11 : Int32) (h11 : jH), P11 x11 h11 → vp_in (l1 + 4) 61)
    (v10 : ∀ (x1 : Int32) (h1 : jH), P1 x1 h1 → 0 ≤ ((jput h1 164 ((l1 + 2).toNatClampNeg) x1) 164 ((l1 + 2).toNatClampNeg)) → ∀ (x2 : Int32) (h2 : jH), P2 x2 h2 → ¬ x2 = 0 → ∀ (x11 : Int32) (h11 : jH), P11 x11 h11 → ((jput h11 164 ((l1 + 4).toNatClampNeg) x11) 164 ((l1 + 4).toNatClampNeg)) < 0 → Q (.inl (some (.int 0))) (jG0 sc) (jput h11 164 ((l1 + 4).toNatClampNeg) x11))
    (v11 : ∀ (x1 : Int32) (h1 : jH), P1 x1 h1 → 0 ≤ ((jput h1 164 ((l1 + 2).toNatClampNeg) x1) 164 ((l1 + 2).toNatClampNeg)) → ∀ (x2 : Int32) (h2 : jH), P2 x2 h2 → ¬ x2 = 0 → ∀ (x11 : Int32) (h11 : jH), P11 x11 h11 → ¬ ((jput h11 164 ((l1 + 4).toNatClampNeg) x11) 164 ((l1 + 4).toNatClampNeg)) < 0 → Q (.inl (some (.int 1))) (jG0 sc) (jput h11 164 ((l1 + 4).toNatClampNeg) x11))
    (v12 : ∀ (x1 : Int32) (h1 : jH), P1 x1 h1 → ¬ 0 ≤ ((jput h1 164 ((l1 + 2).toNatClampNeg) x1) 164 ((l1 + 2).toNatClampNeg)) → Q (.inl (some (.int 0))) (jG0 sc) (jput h1 164 ((l1 + 2).toNatClampNeg) x1)) :
    WP mX12_readSum Q 0 [some (.ref 159), some (.int l1), none] [] (jG0 sc) h (0, 0) := by
  exact (bX12_readSum_0 k1 (fun x1 h1 p1 => (o1 x1 h1 p1)) (fun x1 h1 p1 => (o1 x1 h1 p1)) (fun x1 h1 p1 c1 => (bX12_readSum_25 (k2 x1 h1 p1 c1) (fun x2 h2 p2 c2 => (bX12_readSum_38 (k3 x1 h1 p1 c1 x2 h2 p2 c2) (fun x3 h3 p3 c3 => (bX12_readSum_51 (k4 x1 h1 p1 c1 x2 h2 p2 c2 x3 h3 p3 c3) (fun x4 h4 p4 c4 => (bX12_readSum_64 (k5 x1 h1 p1 c1 x2 h2 p2 c2 x3 h3 p3 c3 x4 h4 p4 c4) (fun x5 h5 p5 c5 => (bX12_readSum_77 (k6 x1 h1 p1 c1 x2 h2 p2 c2 x3 h3 p3 c3 x4 h4 p4 c4 x5 h5 p5 c5) (fun x6 h6 p6 c6 => (bX12_readSum_90 (bX12_readSum_91 (fun q => absurd q (by decide)) (fun _ => (bX12_readSum_96 (v1 x1 h1 p1 c1 x2 h2 p2 c2 x3 h3 p3 c3 x4 h4 p4 c4 x5 h5 p5 c5 x6 h6 p6 c6)))))) (fun x6 h6 p6 c6 => (bX12_readSum_86 (bX12_readSum_91 (fun _ => (bX12_readSum_98 (o2 x1 h1 p1 c1 x2 h2 p2 c2 x3 h3 p3 c3 x4 h4 p4 c4 x5 h5 p5 c5 x6 h6 p6 c6) (k7 x1 h1 p1 c1 x2 h2 p2 c2 x3 h3 p3 c3 x4 h4 p4 c4 x5 h5 p5 c5 x6 h6 p6 c6) (fun x7 h7 p7 => (o3 x1 h1 p1 c1 x2 h2 p2 c2 x3 h3 p3 c3 x4 h4 p4 c4 x5 h5 p5 c5 x6 h6 p6 c6 x7 h7 p7)) (fun x7 h7 p7 => (bX12_readSum_126 (o3 x1 h1 p1 c1 x2 h2 p2 c2 x3 h3 p3 c3 x4 h4 p4 c4 x5 h5 p5 c5 x6 h6 p6 c6 x7 h7 p7) (fun c7 => (bX12_readSum_134 (bX12_readSum_135 (by decide) (v2 x1 h1 p1 c1 x2 h2 p2 c2 x3 h3 p3 c3 x4 h4 p4 c4 x5 h5 p5 c5 x6 h6 p6 c6 x7 h7 p7 c7)))) (fun c7 => (bX12_readSum_130 (bX12_readSum_135 (by decide) (v3 x1 h1 p1 c1 x2 h2 p2 c2 x3 h3 p3 c3 x4 h4 p4 c4 x5 h5 p5 c5 x6 h6 p6 c6 x7 h7 p7 c7)))))))) (fun q => absurd q (by decide))))))) (fun x5 h5 p5 c5 => (bX12_readSum_73 (bX12_readSum_91 (fun _ => (bX12_readSum_98 (o4 x1 h1 p1 c1 x2 h2 p2 c2 x3 h3 p3 c3 x4 h4 p4 c4 x5 h5 p5 c5) (k8 x1 h1 p1 c1 x2 h2 p2 c2 x3 h3 p3 c3 x4 h4 p4 c4 x5 h5 p5 c5) (fun x8 h8 p8 => (o5 x1 h1 p1 c1 x2 h2 p2 c2 x3 h3 p3 c3 x4 h4 p4 c4 x5 h5 p5 c5 x8 h8 p8)) (fun x8 h8 p8 => (bX12_readSum_126 (o5 x1 h1 p1 c1 x2 h2 p2 c2 x3 h3 p3 c3 x4 h4 p4 c4 x5 h5 p5 c5 x8 h8 p8) (fun c8 => (bX12_readSum_134 (bX12_readSum_135 (by decide) (v4 x1 h1 p1 c1 x2 h2 p2 c2 x3 h3 p3 c3 x4 h4 p4 c4 x5 h5 p5 c5 x8 h8 p8 c8)))) (fun c8 => (bX12_readSum_130 (bX12_readSum_135 (by decide) (v5 x1 h1 p1 c1 x2 h2 p2 c2 x3 h3 p3 c3 x4 h4 p4 c4 x5 h5 p5 c5 x8 h8 p8 c8)))))))) (fun q => absurd q (by decide))))))) (fun x4 h4 p4 c4 => (bX12_readSum_60 (bX12_readSum_91 (fun _ => (bX12_readSum_98 (o6 x1 h1 p1 c1 x2 h2 p2 c2 x3 h3 p3 c3 x4 h4 p4 c4) (k9 x1 h1 p1 c1 x2 h2 p2 c2 x3 h3 p3 c3 x4 h4 p4 c4) (fun x9 h9 p9 => (o7 x1 h1 p1 c1 x2 h2 p2 c2 x3 h3 p3 c3 x4 h4 p4 c4 x9 h9 p9)) (fun x9 h9 p9 => (bX12_readSum_126 (o7 x1 h1 p1 c1 x2 h2 p2 c2 x3 h3 p3 c3 x4 h4 p4 c4 x9 h9 p9) (fun c9 => (bX12_readSum_134 (bX12_readSum_135 (by decide) (v6 x1 h1 p1 c1 x2 h2 p2 c2 x3 h3 p3 c3 x4 h4 p4 c4 x9 h9 p9 c9)))) (fun c9 => (bX12_readSum_130 (bX12_readSum_135 (by decide) (v7 x1 h1 p1 c1 x2 h2 p2 c2 x3 h3 p3 c3 x4 h4 p4 c4 x9 h9 p9 c9)))))))) (fun q => absurd q (by decide))))))) (fun x3 h3 p3 c3 => (bX12_readSum_47 (bX12_readSum_91 (fun _ => (bX12_readSum_98 (o8 x1 h1 p1 c1 x2 h2 p2 c2 x3 h3 p3 c3) (k10 x1 h1 p1 c1 x2 h2 p2 c2 x3 h3 p3 c3) (fun x10 h10 p10 => (o9 x1 h1 p1 c1 x2 h2 p2 c2 x3 h3 p3 c3 x10 h10 p10)) (fun x10 h10 p10 => (bX12_readSum_126 (o9 x1 h1 p1 c1 x2 h2 p2 c2 x3 h3 p3 c3 x10 h10 p10) (fun c10 => (bX12_readSum_134 (bX12_readSum_135 (by decide) (v8 x1 h1 p1 c1 x2 h2 p2 c2 x3 h3 p3 c3 x10 h10 p10 c10)))) (fun c10 => (bX12_readSum_130 (bX12_readSum_135 (by decide) (v9 x1 h1 p1 c1 x2 h2 p2 c2 x3 h3 p3 c3 x10 h10 p10 c10)))))))) (fun q => absurd q (by decide))))))) (fun x2 h2 p2 c2 => (bX12_readSum_34 (bX12_readSum_91 (fun _ => (bX12_readSum_98 (o10 x1 h1 p1 c1 x2 h2 p2 c2) (k11 x1 h1 p1 c1 x2 h2 p2 c2) (fun x11 h11 p11 => (o11 x1 h1 p1 c1 x2 h2 p2 c2 x11 h11 p11)) (fun x11 h11 p11 => (bX12_readSum_126 (o11 x1 h1 p1 c1 x2 h2 p2 c2 x11 h11 p11) (fun c11 => (bX12_readSum_134 (bX12_readSum_135 (by decide) (v10 x1 h1 p1 c1 x2 h2 p2 c2 x11 h11 p11 c11)))) (fun c11 => (bX12_readSum_130 (bX12_readSum_135 (by decide) (v11 x1 h1 p1 c1 x2 h2 p2 c2 x11 h11 p11 c11)))))))) (fun q => absurd q (by decide))))))) (fun x1 h1 p1 c1 => (bX12_readSum_23 (v12 x1 h1 p1 c1))))
theorem dX12_readTest_0 : decode (mC mX12_readTest) 0 = .ok (.aload_n 0, 1) := by decide +kernel
theorem dX12_readTest_1 : decode (mC mX12_readTest) 1 = .ok (.getfield 30, 3) := by decide +kernel
theorem dX12_readTest_4 : decode (mC mX12_readTest) 4 = .ok (.iload_n 1, 1) := by decide +kernel
theorem dX12_readTest_5 : decode (mC mX12_readTest) 5 = .ok (.iconst 2, 1) := by decide +kernel
theorem dX12_readTest_6 : decode (mC mX12_readTest) 6 = .ok (.iadd, 1) := by decide +kernel
theorem dX12_readTest_7 : decode (mC mX12_readTest) 7 = .ok (.aload_n 0, 1) := by decide +kernel
theorem dX12_readTest_8 : decode (mC mX12_readTest) 8 = .ok (.invokevirtual 119, 3) := by decide +kernel
theorem dX12_readTest_11 : decode (mC mX12_readTest) 11 = .ok (.iastore, 1) := by decide +kernel
theorem dX12_readTest_12 : decode (mC mX12_readTest) 12 = .ok (.aload_n 0, 1) := by decide +kernel
theorem dX12_readTest_13 : decode (mC mX12_readTest) 13 = .ok (.getfield 30, 3) := by decide +kernel
theorem dX12_readTest_16 : decode (mC mX12_readTest) 16 = .ok (.iload_n 1, 1) := by decide +kernel
theorem dX12_readTest_17 : decode (mC mX12_readTest) 17 = .ok (.iconst 2, 1) := by decide +kernel
theorem dX12_readTest_18 : decode (mC mX12_readTest) 18 = .ok (.iadd, 1) := by decide +kernel
theorem dX12_readTest_19 : decode (mC mX12_readTest) 19 = .ok (.iaload, 1) := by decide +kernel
theorem dX12_readTest_20 : decode (mC mX12_readTest) 20 = .ok (.ifCond .ge 5, 3) := by decide +kernel
theorem dX12_readTest_23 : decode (mC mX12_readTest) 23 = .ok (.iconst 0, 1) := by decide +kernel
theorem dX12_readTest_24 : decode (mC mX12_readTest) 24 = .ok (.ireturn, 1) := by decide +kernel
theorem dX12_readTest_25 : decode (mC mX12_readTest) 25 = .ok (.aload_n 0, 1) := by decide +kernel
theorem dX12_readTest_26 : decode (mC mX12_readTest) 26 = .ok (.getfield 30, 3) := by decide +kernel
theorem dX12_readTest_29 : decode (mC mX12_readTest) 29 = .ok (.iload_n 1, 1) := by decide +kernel
theorem dX12_readTest_30 : decode (mC mX12_readTest) 30 = .ok (.iconst 3, 1) := by decide +kernel
theorem dX12_readTest_31 : decode (mC mX12_readTest) 31 = .ok (.iadd, 1) := by decide +kernel
theorem dX12_readTest_32 : decode (mC mX12_readTest) 32 = .ok (.aload_n 0, 1) := by decide +kernel
theorem dX12_readTest_33 : decode (mC mX12_readTest) 33 = .ok (.bipush 60, 2) := by decide +kernel
theorem dX12_readTest_35 : decode (mC mX12_readTest) 35 = .ok (.invokevirtual 122, 3) := by decide +kernel
theorem dX12_readTest_38 : decode (mC mX12_readTest) 38 = .ok (.ifCond .eq 8, 3) := by decide +kernel
theorem dX12_readTest_41 : decode (mC mX12_readTest) 41 = .ok (.bipush 6, 2) := by decide +kernel
theorem dX12_readTest_43 : decode (mC mX12_readTest) 43 = .ok (.goto 32, 3) := by decide +kernel
theorem dX12_readTest_46 : decode (mC mX12_readTest) 46 = .ok (.aload_n 0, 1) := by decide +kernel
theorem dX12_readTest_47 : decode (mC mX12_readTest) 47 = .ok (.bipush 62, 2) := by decide +kernel
theorem dX12_readTest_49 : decode (mC mX12_readTest) 49 = .ok (.invokevirtual 122, 3) := by decide +kernel
theorem dX12_readTest_52 : decode (mC mX12_readTest) 52 = .ok (.ifCond .eq 8, 3) := by decide +kernel
theorem dX12_readTest_55 : decode (mC mX12_readTest) 55 = .ok (.bipush 7, 2) := by decide +kernel
theorem dX12_readTest_57 : decode (mC mX12_readTest) 57 = .ok (.goto 18, 3) := by decide +kernel
theorem dX12_readTest_60 : decode (mC mX12_readTest) 60 = .ok (.aload_n 0, 1) := by decide +kernel
theorem dX12_readTest_61 : decode (mC mX12_readTest) 61 = .ok (.bipush 61, 2) := by decide +kernel
theorem dX12_readTest_63 : decode (mC mX12_readTest) 63 = .ok (.invokevirtual 122, 3) := by decide +kernel
theorem dX12_readTest_66 : decode (mC mX12_readTest) 66 = .ok (.ifCond .eq 8, 3) := by decide +kernel
theorem dX12_readTest_69 : decode (mC mX12_readTest) 69 = .ok (.bipush 8, 2) := by decide +kernel
theorem dX12_readTest_71 : decode (mC mX12_readTest) 71 = .ok (.goto 4, 3) := by decide +kernel
theorem dX12_readTest_74 : decode (mC mX12_readTest) 74 = .ok (.iconst 0, 1) := by decide +kernel
theorem dX12_readTest_75 : decode (mC mX12_readTest) 75 = .ok (.iastore, 1) := by decide +kernel
theorem dX12_readTest_76 : decode (mC mX12_readTest) 76 = .ok (.aload_n 0, 1) := by decide +kernel
theorem dX12_readTest_77 : decode (mC mX12_readTest) 77 = .ok (.getfield 30, 3) := by decide +kernel
theorem dX12_readTest_80 : decode (mC mX12_readTest) 80 = .ok (.iload_n 1, 1) := by decide +kernel
theorem dX12_readTest_81 : decode (mC mX12_readTest) 81 = .ok (.iconst 3, 1) := by decide +kernel
theorem dX12_readTest_82 : decode (mC mX12_readTest) 82 = .ok (.iadd, 1) := by decide +kernel
theorem dX12_readTest_83 : decode (mC mX12_readTest) 83 = .ok (.iaload, 1) := by decide +kernel
theorem dX12_readTest_84 : decode (mC mX12_readTest) 84 = .ok (.ifCond .ne 5, 3) := by decide +kernel
theorem dX12_readTest_87 : decode (mC mX12_readTest) 87 = .ok (.iconst 0, 1) := by decide +kernel
theorem dX12_readTest_88 : decode (mC mX12_readTest) 88 = .ok (.ireturn, 1) := by decide +kernel
theorem dX12_readTest_89 : decode (mC mX12_readTest) 89 = .ok (.aload_n 0, 1) := by decide +kernel
theorem dX12_readTest_90 : decode (mC mX12_readTest) 90 = .ok (.getfield 30, 3) := by decide +kernel
theorem dX12_readTest_93 : decode (mC mX12_readTest) 93 = .ok (.iload_n 1, 1) := by decide +kernel
theorem dX12_readTest_94 : decode (mC mX12_readTest) 94 = .ok (.iconst 4, 1) := by decide +kernel
theorem dX12_readTest_95 : decode (mC mX12_readTest) 95 = .ok (.iadd, 1) := by decide +kernel
theorem dX12_readTest_96 : decode (mC mX12_readTest) 96 = .ok (.aload_n 0, 1) := by decide +kernel
theorem dX12_readTest_97 : decode (mC mX12_readTest) 97 = .ok (.invokevirtual 119, 3) := by decide +kernel
theorem dX12_readTest_100 : decode (mC mX12_readTest) 100 = .ok (.iastore, 1) := by decide +kernel
theorem dX12_readTest_101 : decode (mC mX12_readTest) 101 = .ok (.aload_n 0, 1) := by decide +kernel
theorem dX12_readTest_102 : decode (mC mX12_readTest) 102 = .ok (.getfield 30, 3) := by decide +kernel
theorem dX12_readTest_105 : decode (mC mX12_readTest) 105 = .ok (.iload_n 1, 1) := by decide +kernel
theorem dX12_readTest_106 : decode (mC mX12_readTest) 106 = .ok (.iconst 4, 1) := by decide +kernel
theorem dX12_readTest_107 : decode (mC mX12_readTest) 107 = .ok (.iadd, 1) := by decide +kernel
theorem dX12_readTest_108 : decode (mC mX12_readTest) 108 = .ok (.iaload, 1) := by decide +kernel
theorem dX12_readTest_109 : decode (mC mX12_readTest) 109 = .ok (.ifCond .lt 7, 3) := by decide +kernel
theorem dX12_readTest_112 : decode (mC mX12_readTest) 112 = .ok (.iconst 1, 1) := by decide +kernel
theorem dX12_readTest_113 : decode (mC mX12_readTest) 113 = .ok (.goto 4, 3) := by decide +kernel
theorem dX12_readTest_116 : decode (mC mX12_readTest) 116 = .ok (.iconst 0, 1) := by decide +kernel
theorem dX12_readTest_117 : decode (mC mX12_readTest) 117 = .ok (.ireturn, 1) := by decide +kernel
set_option maxRecDepth 100000 in
theorem bX12_readTest_0 {sc : Nat × (Nat → Int32)} {h : jH} {Q : jQ} {l1 : Int32} {P1 : Int32 → jH → Prop}
    (k1 : JM mX12_readAtom [.ref 159] (jG0 sc) h (jint sc P1))
    (o1 : ∀ (x1 : Int32) (h1 : jH), P1 x1 h1 → vp_in (l1 + 2) 61)
    (o2 : ∀ (x1 : Int32) (h1 : jH), P1 x1 h1 → vp_in (l1 + 2) 61)
    (v1 : ∀ (x1 : Int32) (h1 : jH), P1 x1 h1 → 0 ≤ ((jput h1 164 ((l1 + 2).toNatClampNeg) x1) 164 ((l1 + 2).toNatClampNeg)) → WP mX12_readTest Q 25 [some (.ref 159), some (.int l1)] [] (jG0 sc) (jput h1 164 ((l1 + 2).toNatClampNeg) x1) (0, 0))
    (v2 : ∀ (x1 : Int32) (h1 : jH), P1 x1 h1 → ¬ 0 ≤ ((jput h1 164 ((l1 + 2).toNatClampNeg) x1) 164 ((l1 + 2).toNatClampNeg)) → WP mX12_readTest Q 23 [some (.ref 159), some (.int l1)] [] (jG0 sc) (jput h1 164 ((l1 + 2).toNatClampNeg) x1) (0, 0)) :
    WP mX12_readTest Q 0 [some (.ref 159), some (.int l1)] [] (jG0 sc) h (0, 0) := by
  refine j_aload_n (i := 0) rfl dX12_readTest_0 ?_
  refine j_getR (idx := 30) (ci := 12) (k := 12) (nest := false) (show (12, 30, 12, 12, false) ∈ jFT by decide) rfl (Nat.le_of_ble_eq_true rfl) rfl (a := 164) rfl dX12_readTest_1 ?_
  refine j_iload_n (i := 1) rfl dX12_readTest_4 ?_
  refine j_iconst (n := 2) 2 (by decide) dX12_readTest_5 ?_
  refine j_iadd dX12_readTest_6 ?_
  refine j_aload_n (i := 0) rfl dX12_readTest_7 ?_
  refine j_callV (idx := 119) (As := []) (ci := 12) (n := 0) k1 jint_nt (jlkT (jtb6 236 rfl) rfl) sX12_readAtom kX12_readAtom rfl ⟨rfl, by decide +kernel, by decide +kernel, by decide +kernel⟩ rfl ⟨by decide, by decide⟩ (Nat.le_of_ble_eq_true rfl) rfl (Nat.le_of_ble_eq_true rfl) (Nat.le_of_ble_eq_true rfl) ⟨Nat.zero_le _, Nat.zero_le _⟩ dX12_readTest_8 (fun r Γ' h1 q => ?_)
  obtain ⟨x1, q0, rfl, p1⟩ := q; cases q0
  refine j_eqst [.int x1, .int (l1 + 2), .ref 164] (by rfl) ?_
  refine j_iast (Nat.le_of_ble_eq_true rfl) rfl (o1 x1 h1 p1) dX12_readTest_11 ?_
  refine j_aload_n (i := 0) rfl dX12_readTest_12 ?_
  refine j_getR (idx := 30) (ci := 12) (k := 12) (nest := false) (show (12, 30, 12, 12, false) ∈ jFT by decide) rfl (Nat.le_of_ble_eq_true rfl) rfl (a := 164) rfl dX12_readTest_13 ?_
  refine j_iload_n (i := 1) rfl dX12_readTest_16 ?_
  refine j_iconst (n := 2) 2 (by decide) dX12_readTest_17 ?_
  refine j_iadd dX12_readTest_18 ?_
  refine j_iald (Nat.le_of_ble_eq_true rfl) rfl (o2 x1 h1 p1) dX12_readTest_19 ?_
  refine j_if_ge (off := 5) 25 dX12_readTest_20 (by decide) (fun c1 => ?_) (fun c1 => ?_)
  · exact j_le [some (.ref 159), some (.int l1)] (And.intro rfl (And.intro rfl True.intro)) (v1 x1 h1 p1 c1)
  · exact j_le [some (.ref 159), some (.int l1)] (And.intro rfl (And.intro rfl True.intro)) (v2 x1 h1 p1 c1)
set_option maxRecDepth 100000 in
theorem bX12_readTest_23 {sc : Nat × (Nat → Int32)} {h : jH} {Q : jQ} {l1 : Int32}
    (v1 : Q (.inl (some (.int 0))) (jG0 sc) h) :
    WP mX12_readTest Q 23 [some (.ref 159), some (.int l1)] [] (jG0 sc) h (0, 0) := by
  refine j_iconst (n := 0) 0 (by decide) dX12_readTest_23 ?_
  exact j_iret rfl rfl (Nat.zero_le _) (Nat.zero_le _) dX12_readTest_24 v1
set_option maxRecDepth 100000 in
theorem bX12_readTest_25 {sc : Nat × (Nat → Int32)} {h : jH} {Q : jQ} {l1 : Int32} {P1 : Int32 → jH → Prop}
    (k1 : JM mX12_sign [.ref 159, .int 60] (jG0 sc) h (jint sc P1))
    (v1 : ∀ (x1 : Int32) (h1 : jH), P1 x1 h1 → x1 = 0 → WP mX12_readTest Q 46 [some (.ref 159), some (.int l1)] [.int (l1 + 3), .ref 164] (jG0 sc) h1 (0, 0))
    (v2 : ∀ (x1 : Int32) (h1 : jH), P1 x1 h1 → ¬ x1 = 0 → WP mX12_readTest Q 41 [some (.ref 159), some (.int l1)] [.int (l1 + 3), .ref 164] (jG0 sc) h1 (0, 0)) :
    WP mX12_readTest Q 25 [some (.ref 159), some (.int l1)] [] (jG0 sc) h (0, 0) := by
  refine j_aload_n (i := 0) rfl dX12_readTest_25 ?_
  refine j_getR (idx := 30) (ci := 12) (k := 12) (nest := false) (show (12, 30, 12, 12, false) ∈ jFT by decide) rfl (Nat.le_of_ble_eq_true rfl) rfl (a := 164) rfl dX12_readTest_26 ?_
  refine j_iload_n (i := 1) rfl dX12_readTest_29 ?_
  refine j_iconst (n := 3) 3 (by decide) dX12_readTest_30 ?_
  refine j_iadd dX12_readTest_31 ?_
  refine j_aload_n (i := 0) rfl dX12_readTest_32 ?_
  refine j_bipush (n := 60) 60 (by decide) dX12_readTest_33 ?_
  refine j_callV (idx := 122) (As := [.int 60]) (ci := 12) (n := 1) k1 jint_nt (jlkT (jtb7 4 rfl) rfl) sX12_sign kX12_sign rfl ⟨rfl, by decide +kernel, by decide +kernel, by decide +kernel⟩ rfl ⟨by decide, by decide⟩ (Nat.le_of_ble_eq_true rfl) rfl (Nat.le_of_ble_eq_true rfl) (Nat.le_of_ble_eq_true rfl) ⟨Nat.zero_le _, Nat.zero_le _⟩ dX12_readTest_35 (fun r Γ' h1 q => ?_)
  obtain ⟨x1, q0, rfl, p1⟩ := q; cases q0
  refine j_eqst [.int x1, .int (l1 + 3), .ref 164] (by rfl) ?_
  refine j_if_eq (off := 8) 46 dX12_readTest_38 (by decide) (fun c1 => ?_) (fun c1 => ?_)
  · exact j_le [some (.ref 159), some (.int l1)] (And.intro rfl (And.intro rfl True.intro)) (v1 x1 h1 p1 c1)
  · exact j_le [some (.ref 159), some (.int l1)] (And.intro rfl (And.intro rfl True.intro)) (v2 x1 h1 p1 c1)
set_option maxRecDepth 100000 in
theorem bX12_readTest_41 {sc : Nat × (Nat → Int32)} {h : jH} {Q : jQ} {l1 s0 : Int32}
    (v1 : WP mX12_readTest Q 75 [some (.ref 159), some (.int l1)] [.int 6, .int s0, .ref 164] (jG0 sc) h (0, 0)) :
    WP mX12_readTest Q 41 [some (.ref 159), some (.int l1)] [.int s0, .ref 164] (jG0 sc) h (0, 0) := by
  refine j_bipush (n := 6) 6 (by decide) dX12_readTest_41 ?_
  refine j_goto (off := 32) 75 dX12_readTest_43 (by decide) ?_
  exact j_le [some (.ref 159), some (.int l1)] (And.intro rfl (And.intro rfl True.intro)) v1
set_option maxRecDepth 100000 in
theorem bX12_readTest_46 {sc : Nat × (Nat → Int32)} {h : jH} {Q : jQ} {l1 s0 : Int32} {P1 : Int32 → jH → Prop}
    (k1 : JM mX12_sign [.ref 159, .int 62] (jG0 sc) h (jint sc P1))
    (v1 : ∀ (x1 : Int32) (h1 : jH), P1 x1 h1 → x1 = 0 → WP mX12_readTest Q 60 [some (.ref 159), some (.int l1)] [.int s0, .ref 164] (jG0 sc) h1 (0, 0))
    (v2 : ∀ (x1 : Int32) (h1 : jH), P1 x1 h1 → ¬ x1 = 0 → WP mX12_readTest Q 55 [some (.ref 159), some (.int l1)] [.int s0, .ref 164] (jG0 sc) h1 (0, 0)) :
    WP mX12_readTest Q 46 [some (.ref 159), some (.int l1)] [.int s0, .ref 164] (jG0 sc) h (0, 0) := by
  refine j_aload_n (i := 0) rfl dX12_readTest_46 ?_
  refine j_bipush (n := 62) 62 (by decide) dX12_readTest_47 ?_
  refine j_callV (idx := 122) (As := [.int 62]) (ci := 12) (n := 1) k1 jint_nt (jlkT (jtb7 4 rfl) rfl) sX12_sign kX12_sign rfl ⟨rfl, by decide +kernel, by decide +kernel, by decide +kernel⟩ rfl ⟨by decide, by decide⟩ (Nat.le_of_ble_eq_true rfl) rfl (Nat.le_of_ble_eq_true rfl) (Nat.le_of_ble_eq_true rfl) ⟨Nat.zero_le _, Nat.zero_le _⟩ dX12_readTest_49 (fun r Γ' h1 q => ?_)
  obtain ⟨x1, q0, rfl, p1⟩ := q; cases q0
  refine j_eqst [.int x1, .int s0, .ref 164] (by rfl) ?_
  refine j_if_eq (off := 8) 60 dX12_readTest_52 (by decide) (fun c1 => ?_) (fun c1 => ?_)
  · exact j_le [some (.ref 159), some (.int l1)] (And.intro rfl (And.intro rfl True.intro)) (v1 x1 h1 p1 c1)
  · exact j_le [some (.ref 159), some (.int l1)] (And.intro rfl (And.intro rfl True.intro)) (v2 x1 h1 p1 c1)
set_option maxRecDepth 100000 in
theorem bX12_readTest_55 {sc : Nat × (Nat → Int32)} {h : jH} {Q : jQ} {l1 s0 : Int32}
    (v1 : WP mX12_readTest Q 75 [some (.ref 159), some (.int l1)] [.int 7, .int s0, .ref 164] (jG0 sc) h (0, 0)) :
    WP mX12_readTest Q 55 [some (.ref 159), some (.int l1)] [.int s0, .ref 164] (jG0 sc) h (0, 0) := by
  refine j_bipush (n := 7) 7 (by decide) dX12_readTest_55 ?_
  refine j_goto (off := 18) 75 dX12_readTest_57 (by decide) ?_
  exact j_le [some (.ref 159), some (.int l1)] (And.intro rfl (And.intro rfl True.intro)) v1
set_option maxRecDepth 100000 in
theorem bX12_readTest_60 {sc : Nat × (Nat → Int32)} {h : jH} {Q : jQ} {l1 s0 : Int32} {P1 : Int32 → jH → Prop}
    (k1 : JM mX12_sign [.ref 159, .int 61] (jG0 sc) h (jint sc P1))
    (v1 : ∀ (x1 : Int32) (h1 : jH), P1 x1 h1 → x1 = 0 → WP mX12_readTest Q 74 [some (.ref 159), some (.int l1)] [.int s0, .ref 164] (jG0 sc) h1 (0, 0))
    (v2 : ∀ (x1 : Int32) (h1 : jH), P1 x1 h1 → ¬ x1 = 0 → WP mX12_readTest Q 69 [some (.ref 159), some (.int l1)] [.int s0, .ref 164] (jG0 sc) h1 (0, 0)) :
    WP mX12_readTest Q 60 [some (.ref 159), some (.int l1)] [.int s0, .ref 164] (jG0 sc) h (0, 0) := by
  refine j_aload_n (i := 0) rfl dX12_readTest_60 ?_
  refine j_bipush (n := 61) 61 (by decide) dX12_readTest_61 ?_
  refine j_callV (idx := 122) (As := [.int 61]) (ci := 12) (n := 1) k1 jint_nt (jlkT (jtb7 4 rfl) rfl) sX12_sign kX12_sign rfl ⟨rfl, by decide +kernel, by decide +kernel, by decide +kernel⟩ rfl ⟨by decide, by decide⟩ (Nat.le_of_ble_eq_true rfl) rfl (Nat.le_of_ble_eq_true rfl) (Nat.le_of_ble_eq_true rfl) ⟨Nat.zero_le _, Nat.zero_le _⟩ dX12_readTest_63 (fun r Γ' h1 q => ?_)
  obtain ⟨x1, q0, rfl, p1⟩ := q; cases q0
  refine j_eqst [.int x1, .int s0, .ref 164] (by rfl) ?_
  refine j_if_eq (off := 8) 74 dX12_readTest_66 (by decide) (fun c1 => ?_) (fun c1 => ?_)
  · exact j_le [some (.ref 159), some (.int l1)] (And.intro rfl (And.intro rfl True.intro)) (v1 x1 h1 p1 c1)
  · exact j_le [some (.ref 159), some (.int l1)] (And.intro rfl (And.intro rfl True.intro)) (v2 x1 h1 p1 c1)
set_option maxRecDepth 100000 in
theorem bX12_readTest_69 {sc : Nat × (Nat → Int32)} {h : jH} {Q : jQ} {l1 s0 : Int32}
    (v1 : WP mX12_readTest Q 75 [some (.ref 159), some (.int l1)] [.int 8, .int s0, .ref 164] (jG0 sc) h (0, 0)) :
    WP mX12_readTest Q 69 [some (.ref 159), some (.int l1)] [.int s0, .ref 164] (jG0 sc) h (0, 0) := by
  refine j_bipush (n := 8) 8 (by decide) dX12_readTest_69 ?_
  refine j_goto (off := 4) 75 dX12_readTest_71 (by decide) ?_
  exact j_le [some (.ref 159), some (.int l1)] (And.intro rfl (And.intro rfl True.intro)) v1
set_option maxRecDepth 100000 in
theorem bX12_readTest_74 {sc : Nat × (Nat → Int32)} {h : jH} {Q : jQ} {l1 s0 : Int32}
    (v1 : WP mX12_readTest Q 75 [some (.ref 159), some (.int l1)] [.int 0, .int s0, .ref 164] (jG0 sc) h (0, 0)) :
    WP mX12_readTest Q 74 [some (.ref 159), some (.int l1)] [.int s0, .ref 164] (jG0 sc) h (0, 0) := by
  refine j_iconst (n := 0) 0 (by decide) dX12_readTest_74 ?_
  exact j_le [some (.ref 159), some (.int l1)] (And.intro rfl (And.intro rfl True.intro)) v1
set_option maxRecDepth 100000 in
theorem bX12_readTest_75 {sc : Nat × (Nat → Int32)} {h : jH} {Q : jQ} {l1 s0 s1 : Int32}
    (o1 : vp_in s1 61)
    (o2 : vp_in (l1 + 3) 61)
    (v1 : ¬ ((jput h 164 s1.toNatClampNeg s0) 164 ((l1 + 3).toNatClampNeg)) = 0 → WP mX12_readTest Q 89 [some (.ref 159), some (.int l1)] [] (jG0 sc) (jput h 164 s1.toNatClampNeg s0) (0, 0))
    (v2 : ((jput h 164 s1.toNatClampNeg s0) 164 ((l1 + 3).toNatClampNeg)) = 0 → WP mX12_readTest Q 87 [some (.ref 159), some (.int l1)] [] (jG0 sc) (jput h 164 s1.toNatClampNeg s0) (0, 0)) :
    WP mX12_readTest Q 75 [some (.ref 159), some (.int l1)] [.int s0, .int s1, .ref 164] (jG0 sc) h (0, 0) := by
  refine j_iast (Nat.le_of_ble_eq_true rfl) rfl o1 dX12_readTest_75 ?_
  refine j_aload_n (i := 0) rfl dX12_readTest_76 ?_
  refine j_getR (idx := 30) (ci := 12) (k := 12) (nest := false) (show (12, 30, 12, 12, false) ∈ jFT by decide) rfl (Nat.le_of_ble_eq_true rfl) rfl (a := 164) rfl dX12_readTest_77 ?_
  refine j_iload_n (i := 1) rfl dX12_readTest_80 ?_
  refine j_iconst (n := 3) 3 (by decide) dX12_readTest_81 ?_
  refine j_iadd dX12_readTest_82 ?_
  refine j_iald (Nat.le_of_ble_eq_true rfl) rfl o2 dX12_readTest_83 ?_
  refine j_if_ne (off := 5) 89 dX12_readTest_84 (by decide) (fun c1 => ?_) (fun c1 => ?_)
  · exact j_le [some (.ref 159), some (.int l1)] (And.intro rfl (And.intro rfl True.intro)) (v1 c1)
  · exact j_le [some (.ref 159), some (.int l1)] (And.intro rfl (And.intro rfl True.intro)) (v2 c1)
set_option maxRecDepth 100000 in
theorem bX12_readTest_87 {sc : Nat × (Nat → Int32)} {h : jH} {Q : jQ} {l1 : Int32}
    (v1 : Q (.inl (some (.int 0))) (jG0 sc) h) :
    WP mX12_readTest Q 87 [some (.ref 159), some (.int l1)] [] (jG0 sc) h (0, 0) := by
  refine j_iconst (n := 0) 0 (by decide) dX12_readTest_87 ?_
  exact j_iret rfl rfl (Nat.zero_le _) (Nat.zero_le _) dX12_readTest_88 v1
set_option maxRecDepth 100000 in
theorem bX12_readTest_89 {sc : Nat × (Nat → Int32)} {h : jH} {Q : jQ} {l1 : Int32} {P1 : Int32 → jH → Prop}
    (k1 : JM mX12_readAtom [.ref 159] (jG0 sc) h (jint sc P1))
    (o1 : ∀ (x1 : Int32) (h1 : jH), P1 x1 h1 → vp_in (l1 + 4) 61)
    (o2 : ∀ (x1 : Int32) (h1 : jH), P1 x1 h1 → vp_in (l1 + 4) 61)
    (v1 : ∀ (x1 : Int32) (h1 : jH), P1 x1 h1 → ((jput h1 164 ((l1 + 4).toNatClampNeg) x1) 164 ((l1 + 4).toNatClampNeg)) < 0 → WP mX12_readTest Q 116 [some (.ref 159), some (.int l1)] [] (jG0 sc) (jput h1 164 ((l1 + 4).toNatClampNeg) x1) (0, 0))
    (v2 : ∀ (x1 : Int32) (h1 : jH), P1 x1 h1 → ¬ ((jput h1 164 ((l1 + 4).toNatClampNeg) x1) 164 ((l1 + 4).toNatClampNeg)) < 0 → WP mX12_readTest Q 112 [some (.ref 159), some (.int l1)] [] (jG0 sc) (jput h1 164 ((l1 + 4).toNatClampNeg) x1) (0, 0)) :
    WP mX12_readTest Q 89 [some (.ref 159), some (.int l1)] [] (jG0 sc) h (0, 0) := by
  refine j_aload_n (i := 0) rfl dX12_readTest_89 ?_
  refine j_getR (idx := 30) (ci := 12) (k := 12) (nest := false) (show (12, 30, 12, 12, false) ∈ jFT by decide) rfl (Nat.le_of_ble_eq_true rfl) rfl (a := 164) rfl dX12_readTest_90 ?_
  refine j_iload_n (i := 1) rfl dX12_readTest_93 ?_
  refine j_iconst (n := 4) 4 (by decide) dX12_readTest_94 ?_
  refine j_iadd dX12_readTest_95 ?_
  refine j_aload_n (i := 0) rfl dX12_readTest_96 ?_
  refine j_callV (idx := 119) (As := []) (ci := 12) (n := 0) k1 jint_nt (jlkT (jtb6 236 rfl) rfl) sX12_readAtom kX12_readAtom rfl ⟨rfl, by decide +kernel, by decide +kernel, by decide +kernel⟩ rfl ⟨by decide, by decide⟩ (Nat.le_of_ble_eq_true rfl) rfl (Nat.le_of_ble_eq_true rfl) (Nat.le_of_ble_eq_true rfl) ⟨Nat.zero_le _, Nat.zero_le _⟩ dX12_readTest_97 (fun r Γ' h1 q => ?_)
  obtain ⟨x1, q0, rfl, p1⟩ := q; cases q0
  refine j_eqst [.int x1, .int (l1 + 4), .ref 164] (by rfl) ?_
  refine j_iast (Nat.le_of_ble_eq_true rfl) rfl (o1 x1 h1 p1) dX12_readTest_100 ?_
  refine j_aload_n (i := 0) rfl dX12_readTest_101 ?_
  refine j_getR (idx := 30) (ci := 12) (k := 12) (nest := false) (show (12, 30, 12, 12, false) ∈ jFT by decide) rfl (Nat.le_of_ble_eq_true rfl) rfl (a := 164) rfl dX12_readTest_102 ?_
  refine j_iload_n (i := 1) rfl dX12_readTest_105 ?_
  refine j_iconst (n := 4) 4 (by decide) dX12_readTest_106 ?_
  refine j_iadd dX12_readTest_107 ?_
  refine j_iald (Nat.le_of_ble_eq_true rfl) rfl (o2 x1 h1 p1) dX12_readTest_108 ?_
  refine j_if_lt (off := 7) 116 dX12_readTest_109 (by decide) (fun c1 => ?_) (fun c1 => ?_)
  · exact j_le [some (.ref 159), some (.int l1)] (And.intro rfl (And.intro rfl True.intro)) (v1 x1 h1 p1 c1)
  · exact j_le [some (.ref 159), some (.int l1)] (And.intro rfl (And.intro rfl True.intro)) (v2 x1 h1 p1 c1)
set_option maxRecDepth 100000 in
theorem bX12_readTest_112 {sc : Nat × (Nat → Int32)} {h : jH} {Q : jQ} {l1 : Int32}
    (v1 : WP mX12_readTest Q 117 [some (.ref 159), some (.int l1)] [.int 1] (jG0 sc) h (0, 0)) :
    WP mX12_readTest Q 112 [some (.ref 159), some (.int l1)] [] (jG0 sc) h (0, 0) := by
  refine j_iconst (n := 1) 1 (by decide) dX12_readTest_112 ?_
  refine j_goto (off := 4) 117 dX12_readTest_113 (by decide) ?_
  exact j_le [some (.ref 159), some (.int l1)] (And.intro rfl (And.intro rfl True.intro)) v1
set_option maxRecDepth 100000 in
theorem bX12_readTest_116 {sc : Nat × (Nat → Int32)} {h : jH} {Q : jQ} {l1 : Int32}
    (v1 : WP mX12_readTest Q 117 [some (.ref 159), some (.int l1)] [.int 0] (jG0 sc) h (0, 0)) :
    WP mX12_readTest Q 116 [some (.ref 159), some (.int l1)] [] (jG0 sc) h (0, 0) := by
  refine j_iconst (n := 0) 0 (by decide) dX12_readTest_116 ?_
  exact j_le [some (.ref 159), some (.int l1)] (And.intro rfl (And.intro rfl True.intro)) v1
set_option maxRecDepth 100000 in
theorem bX12_readTest_117 {sc : Nat × (Nat → Int32)} {h : jH} {Q : jQ} {l1 s0 : Int32}
    (o1 : s0 = 0 ∨ s0 = 1)
    (v1 : Q (.inl (some (.int s0))) (jG0 sc) h) :
    WP mX12_readTest Q 117 [some (.ref 159), some (.int l1)] [.int s0] (jG0 sc) h (0, 0) := by
  exact j_iret rfl (jbn o1) (Nat.zero_le _) (Nat.zero_le _) dX12_readTest_117 v1
set_option maxRecDepth 100000 in
theorem rX12_readTest_0 {sc : Nat × (Nat → Int32)} {h : jH} {Q : jQ} {l1 : Int32} {P1 : Int32 → jH → Prop} {P2 : Int32 → jH → Prop} {P3 : Int32 → jH → Prop} {P4 : Int32 → jH → Prop} {P5 : Int32 → jH → Prop} {P6 : Int32 → jH → Prop} {P7 : Int32 → jH → Prop} {P8 : Int32 → jH → Prop}
    (k1 : JM mX12_readAtom [.ref 159] (jG0 sc) h (jint sc P1))
    (o1 : ∀ (x1 : Int32) (h1 : jH), P1 x1 h1 → vp_in (l1 + 2) 61)
    (k2 : ∀ (x1 : Int32) (h1 : jH), P1 x1 h1 → 0 ≤ ((jput h1 164 ((l1 + 2).toNatClampNeg) x1) 164 ((l1 + 2).toNatClampNeg)) → JM mX12_sign [.ref 159, .int 60] (jG0 sc) (jput h1 164 ((l1 + 2).toNatClampNeg) x1) (jint sc P2))
    (k3 : ∀ (x1 : Int32) (h1 : jH), P1 x1 h1 → 0 ≤ ((jput h1 164 ((l1 + 2).toNatClampNeg) x1) 164 ((l1 + 2).toNatClampNeg)) → ∀ (x2 : Int32) (h2 : jH), P2 x2 h2 → x2 = 0 → JM mX12_sign [.ref 159, .int 62] (jG0 sc) h2 (jint sc P3))
    (k4 : ∀ (x1 : Int32) (h1 : jH), P1 x1 h1 → 0 ≤ ((jput h1 164 ((l1 + 2).toNatClampNeg) x1) 164 ((l1 + 2).toNatClampNeg)) → ∀ (x2 : Int32) (h2 : jH), P2 x2 h2 → x2 = 0 → ∀ (x3 : Int32) (h3 : jH), P3 x3 h3 → x3 = 0 → JM mX12_sign [.ref 159, .int 61] (jG0 sc) h3 (jint sc P4))
    (o2 : ∀ (x1 : Int32) (h1 : jH), P1 x1 h1 → 0 ≤ ((jput h1 164 ((l1 + 2).toNatClampNeg) x1) 164 ((l1 + 2).toNatClampNeg)) → ∀ (x2 : Int32) (h2 : jH), P2 x2 h2 → x2 = 0 → ∀ (x3 : Int32) (h3 : jH), P3 x3 h3 → x3 = 0 → ∀ (x4 : Int32) (h4 : jH), P4 x4 h4 → x4 = 0 → vp_in (l1 + 3) 61)
    (k5 : ∀ (x1 : Int32) (h1 : jH), P1 x1 h1 → 0 ≤ ((jput h1 164 ((l1 + 2).toNatClampNeg) x1) 164 ((l1 + 2).toNatClampNeg)) → ∀ (x2 : Int32) (h2 : jH), P2 x2 h2 → x2 = 0 → ∀ (x3 : Int32) (h3 : jH), P3 x3 h3 → x3 = 0 → ∀ (x4 : Int32) (h4 : jH), P4 x4 h4 → x4 = 0 → ¬ ((jput h4 164 ((l1 + 3).toNatClampNeg) 0) 164 ((l1 + 3).toNatClampNeg)) = 0 → JM mX12_readAtom [.ref 159] (jG0 sc) (jput h4 164 ((l1 + 3).toNatClampNeg) 0) (jint sc P5))
    (o3 : ∀ (x1 : Int32) (h1 : jH), P1 x1 h1 → 0 ≤ ((jput h1 164 ((l1 + 2).toNatClampNeg) x1) 164 ((l1 + 2).toNatClampNeg)) → ∀ (x2 : Int32) (h2 : jH), P2 x2 h2 → x2 = 0 → ∀ (x3 : Int32) (h3 : jH), P3 x3 h3 → x3 = 0 → ∀ (x4 : Int32) (h4 : jH), P4 x4 h4 → x4 = 0 → ¬ ((jput h4 164 ((l1 + 3).toNatClampNeg) 0) 164 ((l1 + 3).toNatClampNeg)) = 0 → ∀ (x5 : Int32) (h5 : jH), P5 x5 h5 → vp_in (l1 + 4) 61)
    (v1 : ∀ (x1 : Int32) (h1 : jH), P1 x1 h1 → 0 ≤ ((jput h1 164 ((l1 + 2).toNatClampNeg) x1) 164 ((l1 + 2).toNatClampNeg)) → ∀ (x2 : Int32) (h2 : jH), P2 x2 h2 → x2 = 0 → ∀ (x3 : Int32) (h3 : jH), P3 x3 h3 → x3 = 0 → ∀ (x4 : Int32) (h4 : jH), P4 x4 h4 → x4 = 0 → ¬ ((jput h4 164 ((l1 + 3).toNatClampNeg) 0) 164 ((l1 + 3).toNatClampNeg)) = 0 → ∀ (x5 : Int32) (h5 : jH), P5 x5 h5 → ((jput h5 164 ((l1 + 4).toNatClampNeg) x5) 164 ((l1 + 4).toNatClampNeg)) < 0 → Q (.inl (some (.int 0))) (jG0 sc) (jput h5 164 ((l1 + 4).toNatClampNeg) x5))
    (v2 : ∀ (x1 : Int32) (h1 : jH), P1 x1 h1 → 0 ≤ ((jput h1 164 ((l1 + 2).toNatClampNeg) x1) 164 ((l1 + 2).toNatClampNeg)) → ∀ (x2 : Int32) (h2 : jH), P2 x2 h2 → x2 = 0 → ∀ (x3 : Int32) (h3 : jH), P3 x3 h3 → x3 = 0 → ∀ (x4 : Int32) (h4 : jH), P4 x4 h4 → x4 = 0 → ¬ ((jput h4 164 ((l1 + 3).toNatClampNeg) 0) 164 ((l1 + 3).toNatClampNeg)) = 0 → ∀ (x5 : Int32) (h5 : jH), P5 x5 h5 → ¬ ((jput h5 164 ((l1 + 4).toNatClampNeg) x5) 164 ((l1 + 4).toNatClampNeg)) < 0 → Q (.inl (some (.int 1))) (jG0 sc) (jput h5 164 ((l1 + 4).toNatClampNeg) x5))
    (v3 : ∀ (x1 : Int32) (h1 : jH), P1 x1 h1 → 0 ≤ ((jput h1 164 ((l1 + 2).toNatClampNeg) x1) 164 ((l1 + 2).toNatClampNeg)) → ∀ (x2 : Int32) (h2 : jH), P2 x2 h2 → x2 = 0 → ∀ (x3 : Int32) (h3 : jH), P3 x3 h3 → x3 = 0 → ∀ (x4 : Int32) (h4 : jH), P4 x4 h4 → x4 = 0 → ((jput h4 164 ((l1 + 3).toNatClampNeg) 0) 164 ((l1 + 3).toNatClampNeg)) = 0 → Q (.inl (some (.int 0))) (jG0 sc) (jput h4 164 ((l1 + 3).toNatClampNeg) 0))
    (o4 : ∀ (x1 : Int32) (h1 : jH), P1 x1 h1 → 0 ≤ ((jput h1 164 ((l1 + 2).toNatClampNeg) x1) 164 ((l1 + 2).toNatClampNeg)) → ∀ (x2 : Int32) (h2 : jH), P2 x2 h2 → x2 = 0 → ∀ (x3 : Int32) (h3 : jH), P3 x3 h3 → x3 = 0 → ∀ (x4 : Int32) (h4 : jH), P4 x4 h4 → ¬ x4 = 0 → vp_in (l1 + 3) 61)
    (k6 : ∀ (x1 : Int32) (h1 : jH), P1 x1 h1 → 0 ≤ ((jput h1 164 ((l1 + 2).toNatClampNeg) x1) 164 ((l1 + 2).toNatClampNeg)) → ∀ (x2 : Int32) (h2 : jH), P2 x2 h2 → x2 = 0 → ∀ (x3 : Int32) (h3 : jH), P3 x3 h3 → x3 = 0 → ∀ (x4 : Int32) (h4 : jH), P4 x4 h4 → ¬ x4 = 0 → ¬ ((jput h4 164 ((l1 + 3).toNatClampNeg) 8) 164 ((l1 + 3).toNatClampNeg)) = 0 → JM mX12_readAtom [.ref 159] (jG0 sc) (jput h4 164 ((l1 + 3).toNatClampNeg) 8) (jint sc P6))
    (o5 : ∀ (x1 : Int32) (h1 : jH), P1 x1 h1 → 0 ≤ ((jput h1 164 ((l1 + 2).toNatClampNeg) x1) 164 ((l1 + 2).toNatClampNeg)) → ∀ (x2 : Int32) (h2 : jH), P2 x2 h2 → x2 = 0 → ∀ (x3 : Int32) (h3 : jH), P3 x3 h3 → x3 = 0 → ∀ (x4 : Int32) (h4 : jH), P4 x4 h4 → ¬ x4 = 0 → ¬ ((jput h4 164 ((l1 + 3).toNatClampNeg) 8) 164 ((l1 + 3).toNatClampNeg)) = 0 → ∀ (x6 : Int32) (h6 : jH), P6 x6 h6 → vp_in (l1 + 4) 61)
    (v4 : ∀ (x1 : Int32) (h1 : jH), P1 x1 h1 → 0 ≤ ((jput h1 164 ((l1 + 2).toNatClampNeg) x1) 164 ((l1 + 2).toNatClampNeg)) → ∀ (x2 : Int32) (h2 : jH), P2 x2 h2 → x2 = 0 → ∀ (x3 : Int32) (h3 : jH), P3 x3 h3 → x3 = 0 → ∀ (x4 : Int32) (h4 : jH), P4 x4 h4 → ¬ x4 = 0 → ¬ ((jput h4 164 ((l1 + 3).toNatClampNeg) 8) 164 ((l1 + 3).toNatClampNeg)) = 0 → ∀ (x6 : Int32) (h6 : jH), P6 x6 h6 → ((jput h6 164 ((l1 + 4).toNatClampNeg) x6) 164 ((l1 + 4).toNatClampNeg)) < 0 → Q (.inl (some (.int 0))) (jG0 sc) (jput h6 164 ((l1 + 4).toNatClampNeg) x6))
    (v5 : ∀ (x1 : Int32) (h1 : jH), P1 x1 h1 → 0 ≤ ((jput h1 164 ((l1 + 2).toNatClampNeg) x1) 164 ((l1 + 2).toNatClampNeg)) → ∀ (x2 : Int32) (h2 : jH), P2 x2 h2 → x2 = 0 → ∀ (x3 : Int32) (h3 : jH), P3 x3 h3 → x3 = 0 → ∀ (x4 : Int32) (h4 : jH), P4 x4 h4 → ¬ x4 = 0 → ¬ ((jput h4 164 ((l1 + 3).toNatClampNeg) 8) 164 ((l1 + 3).toNatClampNeg)) = 0 → ∀ (x6 : Int32) (h6 : jH), P6 x6 h6 → ¬ ((jput h6 164 ((l1 + 4).toNatClampNeg) x6) 164 ((l1 + 4).toNatClampNeg)) < 0 → Q (.inl (some (.int 1))) (jG0 sc) (jput h6 164 ((l1 + 4).toNatClampNeg) x6))
    (v6 : ∀ (x1 : Int32) (h1 : jH), P1 x1 h1 → 0 ≤ ((jput h1 164 ((l1 + 2).toNatClampNeg) x1) 164 ((l1 + 2).toNatClampNeg)) → ∀ (x2 : Int32) (h2 : jH), P2 x2 h2 → x2 = 0 → ∀ (x3 : Int32) (h3 : jH), P3 x3 h3 → x3 = 0 → ∀ (x4 : Int32) (h4 : jH), P4 x4 h4 → ¬ x4 = 0 → ((jput h4 164 ((l1 + 3).toNatClampNeg) 8) 164 ((l1 + 3).toNatClampNeg)) = 0 → Q (.inl (some (.int 0))) (jG0 sc) (jput h4 164 ((l1 + 3).toNatClampNeg) 8))
    (o6 : ∀ (x1 : Int32) (h1 : jH), P1 x1 h1 → 0 ≤ ((jput h1 164 ((l1 + 2).toNatClampNeg) x1) 164 ((l1 + 2).toNatClampNeg)) → ∀ (x2 : Int32) (h2 : jH), P2 x2 h2 → x2 = 0 → ∀ (x3 : Int32) (h3 : jH), P3 x3 h3 → ¬ x3 = 0 → vp_in (l1 + 3) 61)
    (k7 : ∀ (x1 : Int32) (h1 : jH), P1 x1 h1 → 0 ≤ ((jput h1 164 ((l1 + 2).toNatClampNeg) x1) 164 ((l1 + 2).toNatClampNeg)) → ∀ (x2 : Int32) (h2 : jH), P2 x2 h2 → x2 = 0 → ∀ (x3 : Int32) (h3 : jH), P3 x3 h3 → ¬ x3 = 0 → ¬ ((jput h3 164 ((l1 + 3).toNatClampNeg) 7) 164 ((l1 + 3).toNatClampNeg)) = 0 → JM mX12_readAtom [.ref 159] (jG0 sc) (jput h3 164 ((l1 + 3).toNatClampNeg) 7) (jint sc P7))
    (o7 : ∀ (x1 : Int32) (h1 : jH), P1 x1 h1 → 0 ≤ ((jput h1 164 ((l1 + 2).toNatClampNeg) x1) 164 ((l1 + 2).toNatClampNeg)) → ∀ (x2 : Int32) (h2 : jH), P2 x2 h2 → x2 = 0 → ∀ (x3 : Int32) (h3 : jH), P3 x3 h3 → ¬ x3 = 0 → ¬ ((jput h3 164 ((l1 + 3).toNatClampNeg) 7) 164 ((l1 + 3).toNatClampNeg)) = 0 → ∀ (x7 : Int32) (h7 : jH), P7 x7 h7 → vp_in (l1 + 4) 61)
    (v7 : ∀ (x1 : Int32) (h1 : jH), P1 x1 h1 → 0 ≤ ((jput h1 164 ((l1 + 2).toNatClampNeg) x1) 164 ((l1 + 2).toNatClampNeg)) → ∀ (x2 : Int32) (h2 : jH), P2 x2 h2 → x2 = 0 → ∀ (x3 : Int32) (h3 : jH), P3 x3 h3 → ¬ x3 = 0 → ¬ ((jput h3 164 ((l1 + 3).toNatClampNeg) 7) 164 ((l1 + 3).toNatClampNeg)) = 0 → ∀ (x7 : Int32) (h7 : jH), P7 x7 h7 → ((jput h7 164 ((l1 + 4).toNatClampNeg) x7) 164 ((l1 + 4).toNatClampNeg)) < 0 → Q (.inl (some (.int 0))) (jG0 sc) (jput h7 164 ((l1 + 4).toNatClampNeg) x7))
    (v8 : ∀ (x1 : Int32) (h1 : jH), P1 x1 h1 → 0 ≤ ((jput h1 164 ((l1 + 2).toNatClampNeg) x1) 164 ((l1 + 2).toNatClampNeg)) → ∀ (x2 : Int32) (h2 : jH), P2 x2 h2 → x2 = 0 → ∀ (x3 : Int32) (h3 : jH), P3 x3 h3 → ¬ x3 = 0 → ¬ ((jput h3 164 ((l1 + 3).toNatClampNeg) 7) 164 ((l1 + 3).toNatClampNeg)) = 0 → ∀ (x7 : Int32) (h7 : jH), P7 x7 h7 → ¬ ((jput h7 164 ((l1 + 4).toNatClampNeg) x7) 164 ((l1 + 4).toNatClampNeg)) < 0 → Q (.inl (some (.int 1))) (jG0 sc) (jput h7 164 ((l1 + 4).toNatClampNeg) x7))
    (v9 : ∀ (x1 : Int32) (h1 : jH), P1 x1 h1 → 0 ≤ ((jput h1 164 ((l1 + 2).toNatClampNeg) x1) 164 ((l1 + 2).toNatClampNeg)) → ∀ (x2 : Int32) (h2 : jH), P2 x2 h2 → x2 = 0 → ∀ (x3 : Int32) (h3 : jH), P3 x3 h3 → ¬ x3 = 0 → ((jput h3 164 ((l1 + 3).toNatClampNeg) 7) 164 ((l1 + 3).toNatClampNeg)) = 0 → Q (.inl (some (.int 0))) (jG0 sc) (jput h3 164 ((l1 + 3).toNatClampNeg) 7))
    (o8 : ∀ (x1 : Int32) (h1 : jH), P1 x1 h1 → 0 ≤ ((jput h1 164 ((l1 + 2).toNatClampNeg) x1) 164 ((l1 + 2).toNatClampNeg)) → ∀ (x2 : Int32) (h2 : jH), P2 x2 h2 → ¬ x2 = 0 → vp_in (l1 + 3) 61)
    (k8 : ∀ (x1 : Int32) (h1 : jH), P1 x1 h1 → 0 ≤ ((jput h1 164 ((l1 + 2).toNatClampNeg) x1) 164 ((l1 + 2).toNatClampNeg)) → ∀ (x2 : Int32) (h2 : jH), P2 x2 h2 → ¬ x2 = 0 → ¬ ((jput h2 164 ((l1 + 3).toNatClampNeg) 6) 164 ((l1 + 3).toNatClampNeg)) = 0 → JM mX12_readAtom [.ref 159] (jG0 sc) (jput h2 164 ((l1 + 3).toNatClampNeg) 6) (jint sc P8))
    (o9 : ∀ (x1 : Int32) (h1 : jH), P1 x1 h1 → 0 ≤ ((jput h1 164 ((l1 + 2).toNatClampNeg) x1) 164 ((l1 + 2).toNatClampNeg)) → ∀ (x2 : Int32) (h2 : jH), P2 x2 h2 → ¬ x2 = 0 → ¬ ((jput h2 164 ((l1 + 3).toNatClampNeg) 6) 164 ((l1 + 3).toNatClampNeg)) = 0 → ∀ (x8 : Int32) (h8 : jH), P8 x8 h8 → vp_in (l1 + 4) 61)
    (v10 : ∀ (x1 : Int32) (h1 : jH), P1 x1 h1 → 0 ≤ ((jput h1 164 ((l1 + 2).toNatClampNeg) x1) 164 ((l1 + 2).toNatClampNeg)) → ∀ (x2 : Int32) (h2 : jH), P2 x2 h2 → ¬ x2 = 0 → ¬ ((jput h2 164 ((l1 + 3).toNatClampNeg) 6) 164 ((l1 + 3).toNatClampNeg)) = 0 → ∀ (x8 : Int32) (h8 : jH), P8 x8 h8 → ((jput h8 164 ((l1 + 4).toNatClampNeg) x8) 164 ((l1 + 4).toNatClampNeg)) < 0 → Q (.inl (some (.int 0))) (jG0 sc) (jput h8 164 ((l1 + 4).toNatClampNeg) x8))
    (v11 : ∀ (x1 : Int32) (h1 : jH), P1 x1 h1 → 0 ≤ ((jput h1 164 ((l1 + 2).toNatClampNeg) x1) 164 ((l1 + 2).toNatClampNeg)) → ∀ (x2 : Int32) (h2 : jH), P2 x2 h2 → ¬ x2 = 0 → ¬ ((jput h2 164 ((l1 + 3).toNatClampNeg) 6) 164 ((l1 + 3).toNatClampNeg)) = 0 → ∀ (x8 : Int32) (h8 : jH), P8 x8 h8 → ¬ ((jput h8 164 ((l1 + 4).toNatClampNeg) x8) 164 ((l1 + 4).toNatClampNeg)) < 0 → Q (.inl (some (.int 1))) (jG0 sc) (jput h8 164 ((l1 + 4).toNatClampNeg) x8))
    (v12 : ∀ (x1 : Int32) (h1 : jH), P1 x1 h1 → 0 ≤ ((jput h1 164 ((l1 + 2).toNatClampNeg) x1) 164 ((l1 + 2).toNatClampNeg)) → ∀ (x2 : Int32) (h2 : jH), P2 x2 h2 → ¬ x2 = 0 → ((jput h2 164 ((l1 + 3).toNatClampNeg) 6) 164 ((l1 + 3).toNatClampNeg)) = 0 → Q (.inl (some (.int 0))) (jG0 sc) (jput h2 164 ((l1 + 3).toNatClampNeg) 6))
    (v13 : ∀ (x1 : Int32) (h1 : jH), P1 x1 h1 → ¬ 0 ≤ ((jput h1 164 ((l1 + 2).toNatClampNeg) x1) 164 ((l1 + 2).toNatClampNeg)) → Q (.inl (some (.int 0))) (jG0 sc) (jput h1 164 ((l1 + 2).toNatClampNeg) x1)) :
    WP mX12_readTest Q 0 [some (.ref 159), some (.int l1)] [] (jG0 sc) h (0, 0) := by
  exact (bX12_readTest_0 k1 (fun x1 h1 p1 => (o1 x1 h1 p1)) (fun x1 h1 p1 => (o1 x1 h1 p1)) (fun x1 h1 p1 c1 => (bX12_readTest_25 (k2 x1 h1 p1 c1) (fun x2 h2 p2 c2 => (bX12_readTest_46 (k3 x1 h1 p1 c1 x2 h2 p2 c2) (fun x3 h3 p3 c3 => (bX12_readTest_60 (k4 x1 h1 p1 c1 x2 h2 p2 c2 x3 h3 p3 c3) (fun x4 h4 p4 c4 => (bX12_readTest_74 (bX12_readTest_75 (o2 x1 h1 p1 c1 x2 h2 p2 c2 x3 h3 p3 c3 x4 h4 p4 c4) (o2 x1 h1 p1 c1 x2 h2 p2 c2 x3 h3 p3 c3 x4 h4 p4 c4) (fun c5 => (bX12_readTest_89 (k5 x1 h1 p1 c1 x2 h2 p2 c2 x3 h3 p3 c3 x4 h4 p4 c4 c5) (fun x5 h5 p5 => (o3 x1 h1 p1 c1 x2 h2 p2 c2 x3 h3 p3 c3 x4 h4 p4 c4 c5 x5 h5 p5)) (fun x5 h5 p5 => (o3 x1 h1 p1 c1 x2 h2 p2 c2 x3 h3 p3 c3 x4 h4 p4 c4 c5 x5 h5 p5)) (fun x5 h5 p5 c6 => (bX12_readTest_116 (bX12_readTest_117 (by decide) (v1 x1 h1 p1 c1 x2 h2 p2 c2 x3 h3 p3 c3 x4 h4 p4 c4 c5 x5 h5 p5 c6)))) (fun x5 h5 p5 c6 => (bX12_readTest_112 (bX12_readTest_117 (by decide) (v2 x1 h1 p1 c1 x2 h2 p2 c2 x3 h3 p3 c3 x4 h4 p4 c4 c5 x5 h5 p5 c6)))))) (fun c5 => (bX12_readTest_87 (v3 x1 h1 p1 c1 x2 h2 p2 c2 x3 h3 p3 c3 x4 h4 p4 c4 c5)))))) (fun x4 h4 p4 c4 => (bX12_readTest_69 (bX12_readTest_75 (o4 x1 h1 p1 c1 x2 h2 p2 c2 x3 h3 p3 c3 x4 h4 p4 c4) (o4 x1 h1 p1 c1 x2 h2 p2 c2 x3 h3 p3 c3 x4 h4 p4 c4) (fun c7 => (bX12_readTest_89 (k6 x1 h1 p1 c1 x2 h2 p2 c2 x3 h3 p3 c3 x4 h4 p4 c4 c7) (fun x6 h6 p6 => (o5 x1 h1 p1 c1 x2 h2 p2 c2 x3 h3 p3 c3 x4 h4 p4 c4 c7 x6 h6 p6)) (fun x6 h6 p6 => (o5 x1 h1 p1 c1 x2 h2 p2 c2 x3 h3 p3 c3 x4 h4 p4 c4 c7 x6 h6 p6)) (fun x6 h6 p6 c8 => (bX12_readTest_116 (bX12_readTest_117 (by decide) (v4 x1 h1 p1 c1 x2 h2 p2 c2 x3 h3 p3 c3 x4 h4 p4 c4 c7 x6 h6 p6 c8)))) (fun x6 h6 p6 c8 => (bX12_readTest_112 (bX12_readTest_117 (by decide) (v5 x1 h1 p1 c1 x2 h2 p2 c2 x3 h3 p3 c3 x4 h4 p4 c4 c7 x6 h6 p6 c8)))))) (fun c7 => (bX12_readTest_87 (v6 x1 h1 p1 c1 x2 h2 p2 c2 x3 h3 p3 c3 x4 h4 p4 c4 c7)))))))) (fun x3 h3 p3 c3 => (bX12_readTest_55 (bX12_readTest_75 (o6 x1 h1 p1 c1 x2 h2 p2 c2 x3 h3 p3 c3) (o6 x1 h1 p1 c1 x2 h2 p2 c2 x3 h3 p3 c3) (fun c9 => (bX12_readTest_89 (k7 x1 h1 p1 c1 x2 h2 p2 c2 x3 h3 p3 c3 c9) (fun x7 h7 p7 => (o7 x1 h1 p1 c1 x2 h2 p2 c2 x3 h3 p3 c3 c9 x7 h7 p7)) (fun x7 h7 p7 => (o7 x1 h1 p1 c1 x2 h2 p2 c2 x3 h3 p3 c3 c9 x7 h7 p7)) (fun x7 h7 p7 c10 => (bX12_readTest_116 (bX12_readTest_117 (by decide) (v7 x1 h1 p1 c1 x2 h2 p2 c2 x3 h3 p3 c3 c9 x7 h7 p7 c10)))) (fun x7 h7 p7 c10 => (bX12_readTest_112 (bX12_readTest_117 (by decide) (v8 x1 h1 p1 c1 x2 h2 p2 c2 x3 h3 p3 c3 c9 x7 h7 p7 c10)))))) (fun c9 => (bX12_readTest_87 (v9 x1 h1 p1 c1 x2 h2 p2 c2 x3 h3 p3 c3 c9)))))))) (fun x2 h2 p2 c2 => (bX12_readTest_41 (bX12_readTest_75 (o8 x1 h1 p1 c1 x2 h2 p2 c2) (o8 x1 h1 p1 c1 x2 h2 p2 c2) (fun c11 => (bX12_readTest_89 (k8 x1 h1 p1 c1 x2 h2 p2 c2 c11) (fun x8 h8 p8 => (o9 x1 h1 p1 c1 x2 h2 p2 c2 c11 x8 h8 p8)) (fun x8 h8 p8 => (o9 x1 h1 p1 c1 x2 h2 p2 c2 c11 x8 h8 p8)) (fun x8 h8 p8 c12 => (bX12_readTest_116 (bX12_readTest_117 (by decide) (v10 x1 h1 p1 c1 x2 h2 p2 c2 c11 x8 h8 p8 c12)))) (fun x8 h8 p8 c12 => (bX12_readTest_112 (bX12_readTest_117 (by decide) (v11 x1 h1 p1 c1 x2 h2 p2 c2 c11 x8 h8 p8 c12)))))) (fun c11 => (bX12_readTest_87 (v12 x1 h1 p1 c1 x2 h2 p2 c2 c11)))))))) (fun x1 h1 p1 c1 => (bX12_readTest_23 (v13 x1 h1 p1 c1))))
theorem dX12_clears_0 : decode (mC mX12_clears) 0 = .ok (.aload_n 0, 1) := by decide +kernel
theorem dX12_clears_1 : decode (mC mX12_clears) 1 = .ok (.iload_n 1, 1) := by decide +kernel
theorem dX12_clears_2 : decode (mC mX12_clears) 2 = .ok (.iconst 0, 1) := by decide +kernel
theorem dX12_clears_3 : decode (mC mX12_clears) 3 = .ok (.iadd, 1) := by decide +kernel
theorem dX12_clears_4 : decode (mC mX12_clears) 4 = .ok (.iconst 4, 1) := by decide +kernel
theorem dX12_clears_5 : decode (mC mX12_clears) 5 = .ok (.iastore, 1) := by decide +kernel
theorem dX12_clears_6 : decode (mC mX12_clears) 6 = .ok (.aload_n 0, 1) := by decide +kernel
theorem dX12_clears_7 : decode (mC mX12_clears) 7 = .ok (.iload_n 1, 1) := by decide +kernel
theorem dX12_clears_8 : decode (mC mX12_clears) 8 = .ok (.iconst 1, 1) := by decide +kernel
theorem dX12_clears_9 : decode (mC mX12_clears) 9 = .ok (.iadd, 1) := by decide +kernel
theorem dX12_clears_10 : decode (mC mX12_clears) 10 = .ok (.iconst (-1), 1) := by decide +kernel
theorem dX12_clears_11 : decode (mC mX12_clears) 11 = .ok (.iastore, 1) := by decide +kernel
theorem dX12_clears_12 : decode (mC mX12_clears) 12 = .ok (.aload_n 0, 1) := by decide +kernel
theorem dX12_clears_13 : decode (mC mX12_clears) 13 = .ok (.iload_n 1, 1) := by decide +kernel
theorem dX12_clears_14 : decode (mC mX12_clears) 14 = .ok (.iconst 2, 1) := by decide +kernel
theorem dX12_clears_15 : decode (mC mX12_clears) 15 = .ok (.iadd, 1) := by decide +kernel
theorem dX12_clears_16 : decode (mC mX12_clears) 16 = .ok (.iconst (-1), 1) := by decide +kernel
theorem dX12_clears_17 : decode (mC mX12_clears) 17 = .ok (.iastore, 1) := by decide +kernel
theorem dX12_clears_18 : decode (mC mX12_clears) 18 = .ok (.aload_n 0, 1) := by decide +kernel
theorem dX12_clears_19 : decode (mC mX12_clears) 19 = .ok (.iload_n 1, 1) := by decide +kernel
theorem dX12_clears_20 : decode (mC mX12_clears) 20 = .ok (.iconst 3, 1) := by decide +kernel
theorem dX12_clears_21 : decode (mC mX12_clears) 21 = .ok (.iadd, 1) := by decide +kernel
theorem dX12_clears_22 : decode (mC mX12_clears) 22 = .ok (.iconst 0, 1) := by decide +kernel
theorem dX12_clears_23 : decode (mC mX12_clears) 23 = .ok (.iastore, 1) := by decide +kernel
theorem dX12_clears_24 : decode (mC mX12_clears) 24 = .ok (.aload_n 0, 1) := by decide +kernel
theorem dX12_clears_25 : decode (mC mX12_clears) 25 = .ok (.iload_n 1, 1) := by decide +kernel
theorem dX12_clears_26 : decode (mC mX12_clears) 26 = .ok (.iconst 4, 1) := by decide +kernel
theorem dX12_clears_27 : decode (mC mX12_clears) 27 = .ok (.iadd, 1) := by decide +kernel
theorem dX12_clears_28 : decode (mC mX12_clears) 28 = .ok (.iconst (-1), 1) := by decide +kernel
theorem dX12_clears_29 : decode (mC mX12_clears) 29 = .ok (.iastore, 1) := by decide +kernel
theorem dX12_clears_30 : decode (mC mX12_clears) 30 = .ok (.aload_n 0, 1) := by decide +kernel
theorem dX12_clears_31 : decode (mC mX12_clears) 31 = .ok (.iload_n 1, 1) := by decide +kernel
theorem dX12_clears_32 : decode (mC mX12_clears) 32 = .ok (.iconst 5, 1) := by decide +kernel
theorem dX12_clears_33 : decode (mC mX12_clears) 33 = .ok (.iadd, 1) := by decide +kernel
theorem dX12_clears_34 : decode (mC mX12_clears) 34 = .ok (.iconst 0, 1) := by decide +kernel
theorem dX12_clears_35 : decode (mC mX12_clears) 35 = .ok (.iastore, 1) := by decide +kernel
theorem dX12_clears_36 : decode (mC mX12_clears) 36 = .ok (.return_, 1) := by decide +kernel
set_option maxRecDepth 100000 in
theorem bX12_clears_0 {sc : Nat × (Nat → Int32)} {h : jH} {Q : jQ} {a : Nat} {an : Nat} {l1 : Int32} (a_h : jIA a an)
    (o1 : vp_in (l1 + 0) an)
    (o2 : vp_in (l1 + 1) an)
    (o3 : vp_in (l1 + 2) an)
    (v1 : WP mX12_clears Q 23 [some (.ref a), some (.int l1)] [.int 0, .int (l1 + 3), .ref a] (jG0 sc) (jput (jput (jput h a ((l1 + 0).toNatClampNeg) 4) a ((l1 + 1).toNatClampNeg) (-1)) a ((l1 + 2).toNatClampNeg) (-1)) (0, 0)) :
    WP mX12_clears Q 0 [some (.ref a), some (.int l1)] [] (jG0 sc) h (0, 0) := by
  obtain ⟨a_lt0, a_K0, a_L0⟩ := a_h
  refine j_aload_n (i := 0) rfl dX12_clears_0 ?_
  refine j_iload_n (i := 1) rfl dX12_clears_1 ?_
  refine j_iconst (n := 0) 0 (by decide) dX12_clears_2 ?_
  refine j_iadd dX12_clears_3 ?_
  refine j_iconst (n := 4) 4 (by decide) dX12_clears_4 ?_
  refine j_iast (a_lt0) a_K0 (by rw [show jL (jG0 sc) a = an from a_L0]; exact o1) dX12_clears_5 ?_
  refine j_aload_n (i := 0) rfl dX12_clears_6 ?_
  refine j_iload_n (i := 1) rfl dX12_clears_7 ?_
  refine j_iconst (n := 1) 1 (by decide) dX12_clears_8 ?_
  refine j_iadd dX12_clears_9 ?_
  refine j_iconst (n := (-1)) (-1) (by decide) dX12_clears_10 ?_
  refine j_iast (a_lt0) a_K0 (by rw [show jL (jG0 sc) a = an from a_L0]; exact o2) dX12_clears_11 ?_
  refine j_aload_n (i := 0) rfl dX12_clears_12 ?_
  refine j_iload_n (i := 1) rfl dX12_clears_13 ?_
  refine j_iconst (n := 2) 2 (by decide) dX12_clears_14 ?_
  refine j_iadd dX12_clears_15 ?_
  refine j_iconst (n := (-1)) (-1) (by decide) dX12_clears_16 ?_
  refine j_iast (a_lt0) a_K0 (by rw [show jL (jG0 sc) a = an from a_L0]; exact o3) dX12_clears_17 ?_
  refine j_aload_n (i := 0) rfl dX12_clears_18 ?_
  refine j_iload_n (i := 1) rfl dX12_clears_19 ?_
  refine j_iconst (n := 3) 3 (by decide) dX12_clears_20 ?_
  refine j_iadd dX12_clears_21 ?_
  refine j_iconst (n := 0) 0 (by decide) dX12_clears_22 ?_
  exact j_le [some (.ref a), some (.int l1)] (And.intro rfl (And.intro rfl True.intro)) v1
set_option maxRecDepth 100000 in
theorem bX12_clears_23 {sc : Nat × (Nat → Int32)} {h : jH} {Q : jQ} {a : Nat} {an : Nat} {l1 s0 s1 : Int32} (a_h : jIA a an)
    (o1 : vp_in s1 an)
    (o2 : vp_in (l1 + 4) an)
    (o3 : vp_in (l1 + 5) an)
    (v1 : Q (.inl none) (jG0 sc) (jput (jput (jput h a s1.toNatClampNeg s0) a ((l1 + 4).toNatClampNeg) (-1)) a ((l1 + 5).toNatClampNeg) 0)) :
    WP mX12_clears Q 23 [some (.ref a), some (.int l1)] [.int s0, .int s1, .ref a] (jG0 sc) h (0, 0) := by
  obtain ⟨a_lt0, a_K0, a_L0⟩ := a_h
  refine j_iast (a_lt0) a_K0 (by rw [show jL (jG0 sc) a = an from a_L0]; exact o1) dX12_clears_23 ?_
  refine j_aload_n (i := 0) rfl dX12_clears_24 ?_
  refine j_iload_n (i := 1) rfl dX12_clears_25 ?_
  refine j_iconst (n := 4) 4 (by decide) dX12_clears_26 ?_
  refine j_iadd dX12_clears_27 ?_
  refine j_iconst (n := (-1)) (-1) (by decide) dX12_clears_28 ?_
  refine j_iast (a_lt0) a_K0 (by rw [show jL (jG0 sc) a = an from a_L0]; exact o2) dX12_clears_29 ?_
  refine j_aload_n (i := 0) rfl dX12_clears_30 ?_
  refine j_iload_n (i := 1) rfl dX12_clears_31 ?_
  refine j_iconst (n := 5) 5 (by decide) dX12_clears_32 ?_
  refine j_iadd dX12_clears_33 ?_
  refine j_iconst (n := 0) 0 (by decide) dX12_clears_34 ?_
  refine j_iast (a_lt0) a_K0 (by rw [show jL (jG0 sc) a = an from a_L0]; exact o3) dX12_clears_35 ?_
  exact j_vret rfl (Nat.zero_le _) (Nat.zero_le _) dX12_clears_36 v1
set_option maxRecDepth 100000 in
theorem rX12_clears_0 {sc : Nat × (Nat → Int32)} {h : jH} {Q : jQ} {a : Nat} {an : Nat} {l1 : Int32} (a_h : jIA a an)
    (o1 : vp_in (l1 + 0) an)
    (o2 : vp_in (l1 + 1) an)
    (o3 : vp_in (l1 + 2) an)
    (o4 : vp_in (l1 + 3) an)
    (o5 : vp_in (l1 + 4) an)
    (o6 : vp_in (l1 + 5) an)
    (v1 : Q (.inl none) (jG0 sc) (jput (jput (jput (jput (jput (jput h a ((l1 + 0).toNatClampNeg) 4) a ((l1 + 1).toNatClampNeg) (-1)) a ((l1 + 2).toNatClampNeg) (-1)) a ((l1 + 3).toNatClampNeg) 0) a ((l1 + 4).toNatClampNeg) (-1)) a ((l1 + 5).toNatClampNeg) 0)) :
    WP mX12_clears Q 0 [some (.ref a), some (.int l1)] [] (jG0 sc) h (0, 0) := by
  exact (bX12_clears_0 a_h o1 o2 o3 (bX12_clears_23 a_h o4 o5 o6 v1))
theorem dX12_readLine_0 : decode (mC mX12_readLine) 0 = .ok (.aload_n 0, 1) := by decide +kernel
theorem dX12_readLine_1 : decode (mC mX12_readLine) 1 = .ok (.invokevirtual 108, 3) := by decide +kernel
theorem dX12_readLine_4 : decode (mC mX12_readLine) 4 = .ok (.iload_n 1, 1) := by decide +kernel
theorem dX12_readLine_5 : decode (mC mX12_readLine) 5 = .ok (.bipush 10, 2) := by decide +kernel
theorem dX12_readLine_7 : decode (mC mX12_readLine) 7 = .ok (.if_icmp .ne 5, 3) := by decide +kernel
theorem dX12_readLine_10 : decode (mC mX12_readLine) 10 = .ok (.iconst 0, 1) := by decide +kernel
theorem dX12_readLine_11 : decode (mC mX12_readLine) 11 = .ok (.ireturn, 1) := by decide +kernel
theorem dX12_readLine_12 : decode (mC mX12_readLine) 12 = .ok (.iconst 1, 1) := by decide +kernel
theorem dX12_readLine_13 : decode (mC mX12_readLine) 13 = .ok (.bipush 6, 2) := by decide +kernel
theorem dX12_readLine_15 : decode (mC mX12_readLine) 15 = .ok (.iload_n 1, 1) := by decide +kernel
theorem dX12_readLine_16 : decode (mC mX12_readLine) 16 = .ok (.imul, 1) := by decide +kernel
theorem dX12_readLine_17 : decode (mC mX12_readLine) 17 = .ok (.iadd, 1) := by decide +kernel
theorem dX12_readLine_18 : decode (mC mX12_readLine) 18 = .ok (.istore_n 2, 1) := by decide +kernel
theorem dX12_readLine_19 : decode (mC mX12_readLine) 19 = .ok (.aload_n 0, 1) := by decide +kernel
theorem dX12_readLine_20 : decode (mC mX12_readLine) 20 = .ok (.getfield 30, 3) := by decide +kernel
theorem dX12_readLine_23 : decode (mC mX12_readLine) 23 = .ok (.iload_n 2, 1) := by decide +kernel
theorem dX12_readLine_24 : decode (mC mX12_readLine) 24 = .ok (.invokestatic 126, 3) := by decide +kernel
theorem dX12_readLine_27 : decode (mC mX12_readLine) 27 = .ok (.aload_n 0, 1) := by decide +kernel
theorem dX12_readLine_28 : decode (mC mX12_readLine) 28 = .ok (.getfield 30, 3) := by decide +kernel
theorem dX12_readLine_31 : decode (mC mX12_readLine) 31 = .ok (.iload_n 2, 1) := by decide +kernel
theorem dX12_readLine_32 : decode (mC mX12_readLine) 32 = .ok (.aload_n 0, 1) := by decide +kernel
theorem dX12_readLine_33 : decode (mC mX12_readLine) 33 = .ok (.ldc 130, 2) := by decide +kernel
theorem dX12_readLine_35 : decode (mC mX12_readLine) 35 = .ok (.invokevirtual 111, 3) := by decide +kernel
theorem dX12_readLine_38 : decode (mC mX12_readLine) 38 = .ok (.ifCond .eq 7, 3) := by decide +kernel
theorem dX12_readLine_41 : decode (mC mX12_readLine) 41 = .ok (.iconst 0, 1) := by decide +kernel
theorem dX12_readLine_42 : decode (mC mX12_readLine) 42 = .ok (.goto 43, 3) := by decide +kernel
theorem dX12_readLine_45 : decode (mC mX12_readLine) 45 = .ok (.aload_n 0, 1) := by decide +kernel
theorem dX12_readLine_46 : decode (mC mX12_readLine) 46 = .ok (.ldc 132, 2) := by decide +kernel
theorem dX12_readLine_48 : decode (mC mX12_readLine) 48 = .ok (.invokevirtual 111, 3) := by decide +kernel
theorem dX12_readLine_51 : decode (mC mX12_readLine) 51 = .ok (.ifCond .eq 7, 3) := by decide +kernel
theorem dX12_readLine_54 : decode (mC mX12_readLine) 54 = .ok (.iconst 1, 1) := by decide +kernel
theorem dX12_readLine_55 : decode (mC mX12_readLine) 55 = .ok (.goto 30, 3) := by decide +kernel
theorem dX12_readLine_58 : decode (mC mX12_readLine) 58 = .ok (.aload_n 0, 1) := by decide +kernel
theorem dX12_readLine_59 : decode (mC mX12_readLine) 59 = .ok (.ldc 134, 2) := by decide +kernel
theorem dX12_readLine_61 : decode (mC mX12_readLine) 61 = .ok (.invokevirtual 111, 3) := by decide +kernel
theorem dX12_readLine_64 : decode (mC mX12_readLine) 64 = .ok (.ifCond .eq 7, 3) := by decide +kernel
theorem dX12_readLine_67 : decode (mC mX12_readLine) 67 = .ok (.iconst 2, 1) := by decide +kernel
theorem dX12_readLine_68 : decode (mC mX12_readLine) 68 = .ok (.goto 17, 3) := by decide +kernel
theorem dX12_readLine_71 : decode (mC mX12_readLine) 71 = .ok (.aload_n 0, 1) := by decide +kernel
theorem dX12_readLine_72 : decode (mC mX12_readLine) 72 = .ok (.ldc 136, 2) := by decide +kernel
theorem dX12_readLine_74 : decode (mC mX12_readLine) 74 = .ok (.invokevirtual 111, 3) := by decide +kernel
theorem dX12_readLine_77 : decode (mC mX12_readLine) 77 = .ok (.ifCond .eq 7, 3) := by decide +kernel
theorem dX12_readLine_80 : decode (mC mX12_readLine) 80 = .ok (.iconst 3, 1) := by decide +kernel
theorem dX12_readLine_81 : decode (mC mX12_readLine) 81 = .ok (.goto 4, 3) := by decide +kernel
theorem dX12_readLine_84 : decode (mC mX12_readLine) 84 = .ok (.iconst 4, 1) := by decide +kernel
theorem dX12_readLine_85 : decode (mC mX12_readLine) 85 = .ok (.iastore, 1) := by decide +kernel
theorem dX12_readLine_86 : decode (mC mX12_readLine) 86 = .ok (.aload_n 0, 1) := by decide +kernel
theorem dX12_readLine_87 : decode (mC mX12_readLine) 87 = .ok (.getfield 30, 3) := by decide +kernel
theorem dX12_readLine_90 : decode (mC mX12_readLine) 90 = .ok (.iload_n 2, 1) := by decide +kernel
theorem dX12_readLine_91 : decode (mC mX12_readLine) 91 = .ok (.iaload, 1) := by decide +kernel
theorem dX12_readLine_92 : decode (mC mX12_readLine) 92 = .ok (.iconst 4, 1) := by decide +kernel
theorem dX12_readLine_93 : decode (mC mX12_readLine) 93 = .ok (.if_icmp .ne 5, 3) := by decide +kernel
theorem dX12_readLine_96 : decode (mC mX12_readLine) 96 = .ok (.iconst 0, 1) := by decide +kernel
theorem dX12_readLine_97 : decode (mC mX12_readLine) 97 = .ok (.ireturn, 1) := by decide +kernel
theorem dX12_readLine_98 : decode (mC mX12_readLine) 98 = .ok (.aload_n 0, 1) := by decide +kernel
theorem dX12_readLine_99 : decode (mC mX12_readLine) 99 = .ok (.getfield 30, 3) := by decide +kernel
theorem dX12_readLine_102 : decode (mC mX12_readLine) 102 = .ok (.iload_n 2, 1) := by decide +kernel
theorem dX12_readLine_103 : decode (mC mX12_readLine) 103 = .ok (.iaload, 1) := by decide +kernel
theorem dX12_readLine_104 : decode (mC mX12_readLine) 104 = .ok (.iconst 3, 1) := by decide +kernel
theorem dX12_readLine_105 : decode (mC mX12_readLine) 105 = .ok (.if_icmp .ne 9, 3) := by decide +kernel
theorem dX12_readLine_108 : decode (mC mX12_readLine) 108 = .ok (.aload_n 0, 1) := by decide +kernel
theorem dX12_readLine_109 : decode (mC mX12_readLine) 109 = .ok (.iload_n 2, 1) := by decide +kernel
theorem dX12_readLine_110 : decode (mC mX12_readLine) 110 = .ok (.invokevirtual 137, 3) := by decide +kernel
theorem dX12_readLine_113 : decode (mC mX12_readLine) 113 = .ok (.ireturn, 1) := by decide +kernel
theorem dX12_readLine_114 : decode (mC mX12_readLine) 114 = .ok (.aload_n 0, 1) := by decide +kernel
theorem dX12_readLine_115 : decode (mC mX12_readLine) 115 = .ok (.getfield 30, 3) := by decide +kernel
theorem dX12_readLine_118 : decode (mC mX12_readLine) 118 = .ok (.iload_n 2, 1) := by decide +kernel
theorem dX12_readLine_119 : decode (mC mX12_readLine) 119 = .ok (.iaload, 1) := by decide +kernel
theorem dX12_readLine_120 : decode (mC mX12_readLine) 120 = .ok (.ifCond .ne 79, 3) := by decide +kernel
theorem dX12_readLine_123 : decode (mC mX12_readLine) 123 = .ok (.aload_n 0, 1) := by decide +kernel
theorem dX12_readLine_124 : decode (mC mX12_readLine) 124 = .ok (.invokevirtual 108, 3) := by decide +kernel
theorem dX12_readLine_127 : decode (mC mX12_readLine) 127 = .ok (.aload_n 0, 1) := by decide +kernel
theorem dX12_readLine_128 : decode (mC mX12_readLine) 128 = .ok (.getfield 85, 3) := by decide +kernel
theorem dX12_readLine_131 : decode (mC mX12_readLine) 131 = .ok (.aload_n 0, 1) := by decide +kernel
theorem dX12_readLine_132 : decode (mC mX12_readLine) 132 = .ok (.getfield 92, 3) := by decide +kernel
theorem dX12_readLine_135 : decode (mC mX12_readLine) 135 = .ok (.isub, 1) := by decide +kernel
theorem dX12_readLine_136 : decode (mC mX12_readLine) 136 = .ok (.iconst 1, 1) := by decide +kernel
theorem dX12_readLine_137 : decode (mC mX12_readLine) 137 = .ok (.if_icmp .ne 17, 3) := by decide +kernel
theorem dX12_readLine_140 : decode (mC mX12_readLine) 140 = .ok (.aload_n 0, 1) := by decide +kernel
theorem dX12_readLine_141 : decode (mC mX12_readLine) 141 = .ok (.getfield 20, 3) := by decide +kernel
theorem dX12_readLine_144 : decode (mC mX12_readLine) 144 = .ok (.aload_n 0, 1) := by decide +kernel
theorem dX12_readLine_145 : decode (mC mX12_readLine) 145 = .ok (.getfield 92, 3) := by decide +kernel
theorem dX12_readLine_148 : decode (mC mX12_readLine) 148 = .ok (.baload, 1) := by decide +kernel
theorem dX12_readLine_149 : decode (mC mX12_readLine) 149 = .ok (.bipush 100, 2) := by decide +kernel
theorem dX12_readLine_151 : decode (mC mX12_readLine) 151 = .ok (.if_icmp .le 5, 3) := by decide +kernel
theorem dX12_readLine_154 : decode (mC mX12_readLine) 154 = .ok (.iconst 0, 1) := by decide +kernel
theorem dX12_readLine_155 : decode (mC mX12_readLine) 155 = .ok (.ireturn, 1) := by decide +kernel
theorem dX12_readLine_156 : decode (mC mX12_readLine) 156 = .ok (.aload_n 0, 1) := by decide +kernel
theorem dX12_readLine_157 : decode (mC mX12_readLine) 157 = .ok (.getfield 30, 3) := by decide +kernel
theorem dX12_readLine_160 : decode (mC mX12_readLine) 160 = .ok (.iload_n 2, 1) := by decide +kernel
theorem dX12_readLine_161 : decode (mC mX12_readLine) 161 = .ok (.iconst 1, 1) := by decide +kernel
theorem dX12_readLine_162 : decode (mC mX12_readLine) 162 = .ok (.iadd, 1) := by decide +kernel
theorem dX12_readLine_163 : decode (mC mX12_readLine) 163 = .ok (.aload_n 0, 1) := by decide +kernel
theorem dX12_readLine_164 : decode (mC mX12_readLine) 164 = .ok (.getfield 20, 3) := by decide +kernel
theorem dX12_readLine_167 : decode (mC mX12_readLine) 167 = .ok (.aload_n 0, 1) := by decide +kernel
theorem dX12_readLine_168 : decode (mC mX12_readLine) 168 = .ok (.getfield 92, 3) := by decide +kernel
theorem dX12_readLine_171 : decode (mC mX12_readLine) 171 = .ok (.baload, 1) := by decide +kernel
theorem dX12_readLine_172 : decode (mC mX12_readLine) 172 = .ok (.bipush 97, 2) := by decide +kernel
theorem dX12_readLine_174 : decode (mC mX12_readLine) 174 = .ok (.isub, 1) := by decide +kernel
theorem dX12_readLine_175 : decode (mC mX12_readLine) 175 = .ok (.iastore, 1) := by decide +kernel
theorem dX12_readLine_176 : decode (mC mX12_readLine) 176 = .ok (.aload_n 0, 1) := by decide +kernel
theorem dX12_readLine_177 : decode (mC mX12_readLine) 177 = .ok (.bipush 61, 2) := by decide +kernel
theorem dX12_readLine_179 : decode (mC mX12_readLine) 179 = .ok (.invokevirtual 122, 3) := by decide +kernel
theorem dX12_readLine_182 : decode (mC mX12_readLine) 182 = .ok (.ifCond .eq 15, 3) := by decide +kernel
theorem dX12_readLine_185 : decode (mC mX12_readLine) 185 = .ok (.aload_n 0, 1) := by decide +kernel
theorem dX12_readLine_186 : decode (mC mX12_readLine) 186 = .ok (.iload_n 2, 1) := by decide +kernel
theorem dX12_readLine_187 : decode (mC mX12_readLine) 187 = .ok (.invokevirtual 137, 3) := by decide +kernel
theorem dX12_readLine_190 : decode (mC mX12_readLine) 190 = .ok (.ifCond .eq 7, 3) := by decide +kernel
theorem dX12_readLine_193 : decode (mC mX12_readLine) 193 = .ok (.iconst 1, 1) := by decide +kernel
theorem dX12_readLine_194 : decode (mC mX12_readLine) 194 = .ok (.goto 4, 3) := by decide +kernel
theorem dX12_readLine_197 : decode (mC mX12_readLine) 197 = .ok (.iconst 0, 1) := by decide +kernel
theorem dX12_readLine_198 : decode (mC mX12_readLine) 198 = .ok (.ireturn, 1) := by decide +kernel
theorem dX12_readLine_199 : decode (mC mX12_readLine) 199 = .ok (.aload_n 0, 1) := by decide +kernel
theorem dX12_readLine_200 : decode (mC mX12_readLine) 200 = .ok (.getfield 30, 3) := by decide +kernel
theorem dX12_readLine_203 : decode (mC mX12_readLine) 203 = .ok (.iload_n 2, 1) := by decide +kernel
theorem dX12_readLine_204 : decode (mC mX12_readLine) 204 = .ok (.iconst 5, 1) := by decide +kernel
theorem dX12_readLine_205 : decode (mC mX12_readLine) 205 = .ok (.iadd, 1) := by decide +kernel
theorem dX12_readLine_206 : decode (mC mX12_readLine) 206 = .ok (.aload_n 0, 1) := by decide +kernel
theorem dX12_readLine_207 : decode (mC mX12_readLine) 207 = .ok (.iconst 1, 1) := by decide +kernel
theorem dX12_readLine_208 : decode (mC mX12_readLine) 208 = .ok (.iconst 1, 1) := by decide +kernel
theorem dX12_readLine_209 : decode (mC mX12_readLine) 209 = .ok (.invokevirtual 115, 3) := by decide +kernel
theorem dX12_readLine_212 : decode (mC mX12_readLine) 212 = .ok (.iastore, 1) := by decide +kernel
theorem dX12_readLine_213 : decode (mC mX12_readLine) 213 = .ok (.aload_n 0, 1) := by decide +kernel
theorem dX12_readLine_214 : decode (mC mX12_readLine) 214 = .ok (.getfield 30, 3) := by decide +kernel
theorem dX12_readLine_217 : decode (mC mX12_readLine) 217 = .ok (.iload_n 2, 1) := by decide +kernel
theorem dX12_readLine_218 : decode (mC mX12_readLine) 218 = .ok (.iconst 5, 1) := by decide +kernel
theorem dX12_readLine_219 : decode (mC mX12_readLine) 219 = .ok (.iadd, 1) := by decide +kernel
theorem dX12_readLine_220 : decode (mC mX12_readLine) 220 = .ok (.iaload, 1) := by decide +kernel
theorem dX12_readLine_221 : decode (mC mX12_readLine) 221 = .ok (.ifCond .le 24, 3) := by decide +kernel
theorem dX12_readLine_224 : decode (mC mX12_readLine) 224 = .ok (.aload_n 0, 1) := by decide +kernel
theorem dX12_readLine_225 : decode (mC mX12_readLine) 225 = .ok (.ldc 140, 2) := by decide +kernel
theorem dX12_readLine_227 : decode (mC mX12_readLine) 227 = .ok (.invokevirtual 142, 3) := by decide +kernel
theorem dX12_readLine_230 : decode (mC mX12_readLine) 230 = .ok (.ifCond .eq 15, 3) := by decide +kernel
theorem dX12_readLine_233 : decode (mC mX12_readLine) 233 = .ok (.aload_n 0, 1) := by decide +kernel
theorem dX12_readLine_234 : decode (mC mX12_readLine) 234 = .ok (.iload_n 2, 1) := by decide +kernel
theorem dX12_readLine_235 : decode (mC mX12_readLine) 235 = .ok (.invokevirtual 145, 3) := by decide +kernel
theorem dX12_readLine_238 : decode (mC mX12_readLine) 238 = .ok (.ifCond .eq 7, 3) := by decide +kernel
theorem dX12_readLine_241 : decode (mC mX12_readLine) 241 = .ok (.iconst 1, 1) := by decide +kernel
theorem dX12_readLine_242 : decode (mC mX12_readLine) 242 = .ok (.goto 4, 3) := by decide +kernel
theorem dX12_readLine_245 : decode (mC mX12_readLine) 245 = .ok (.iconst 0, 1) := by decide +kernel
theorem dX12_readLine_246 : decode (mC mX12_readLine) 246 = .ok (.ireturn, 1) := by decide +kernel
set_option maxRecDepth 100000 in
theorem bX12_readLine_0 {sc : Nat × (Nat → Int32)} {h : jH} {Q : jQ} {l1 : Int32} {P1 : jH → Prop}
    (k1 : JM mX12_letters [.ref 159] (jG0 sc) h (jvoid sc P1))
    (v1 : ∀ h1 : jH, P1 h1 → ¬ l1 = 10 → WP mX12_readLine Q 12 [some (.ref 159), some (.int l1), none] [] (jG0 sc) h1 (0, 0))
    (v2 : ∀ h1 : jH, P1 h1 → l1 = 10 → WP mX12_readLine Q 10 [some (.ref 159), some (.int l1), none] [] (jG0 sc) h1 (0, 0)) :
    WP mX12_readLine Q 0 [some (.ref 159), some (.int l1), none] [] (jG0 sc) h (0, 0) := by
  refine j_aload_n (i := 0) rfl dX12_readLine_0 ?_
  refine j_callV (idx := 108) (As := []) (ci := 12) (n := 0) k1 jvoid_nt (jlkT (jtb6 207 rfl) rfl) sX12_letters kX12_letters rfl ⟨rfl, by decide +kernel, by decide +kernel, by decide +kernel⟩ rfl ⟨by decide, by decide⟩ (Nat.le_of_ble_eq_true rfl) rfl (Nat.le_of_ble_eq_true rfl) (Nat.le_of_ble_eq_true rfl) ⟨Nat.zero_le _, Nat.zero_le _⟩ dX12_readLine_1 (fun r Γ' h1 q => ?_)
  obtain ⟨q0, rfl, p1⟩ := q; cases q0
  refine j_eqst [] (by rfl) ?_
  refine j_iload_n (i := 1) rfl dX12_readLine_4 ?_
  refine j_bipush (n := 10) 10 (by decide) dX12_readLine_5 ?_
  refine j_icmp_ne (off := 5) 12 dX12_readLine_7 (by decide) (fun c1 => ?_) (fun c1 => ?_)
  · exact j_le [some (.ref 159), some (.int l1), none] (And.intro rfl (And.intro rfl True.intro)) (v1 h1 p1 c1)
  · exact j_le [some (.ref 159), some (.int l1), none] (And.intro rfl (And.intro rfl True.intro)) (v2 h1 p1 c1)
set_option maxRecDepth 100000 in
theorem bX12_readLine_10 {sc : Nat × (Nat → Int32)} {h : jH} {Q : jQ} {l1 : Int32}
    (v1 : Q (.inl (some (.int 0))) (jG0 sc) h) :
    WP mX12_readLine Q 10 [some (.ref 159), some (.int l1), none] [] (jG0 sc) h (0, 0) := by
  refine j_iconst (n := 0) 0 (by decide) dX12_readLine_10 ?_
  exact j_iret rfl rfl (Nat.zero_le _) (Nat.zero_le _) dX12_readLine_11 v1
set_option maxRecDepth 100000 in
theorem bX12_readLine_12 {sc : Nat × (Nat → Int32)} {h : jH} {Q : jQ} {l1 : Int32} {P1 : jH → Prop} {P2 : Int32 → jH → Prop}
    (k1 : JM mX12_clears [.ref 164, .int (1 + (6 * l1))] (jG0 sc) h (jvoid sc P1))
    (k2 : ∀ h1 : jH, P1 h1 → JM mX12_isWord [.ref 159, .ref 1012] (jG0 sc) h1 (jint sc P2))
    (v1 : ∀ h1 : jH, P1 h1 → ∀ (x2 : Int32) (h2 : jH), P2 x2 h2 → x2 = 0 → WP mX12_readLine Q 45 [some (.ref 159), some (.int l1), some (.int (1 + (6 * l1)))] [.int (1 + (6 * l1)), .ref 164] (jG0 sc) h2 (0, 0))
    (v2 : ∀ h1 : jH, P1 h1 → ∀ (x2 : Int32) (h2 : jH), P2 x2 h2 → ¬ x2 = 0 → WP mX12_readLine Q 41 [some (.ref 159), some (.int l1), some (.int (1 + (6 * l1)))] [.int (1 + (6 * l1)), .ref 164] (jG0 sc) h2 (0, 0)) :
    WP mX12_readLine Q 12 [some (.ref 159), some (.int l1), none] [] (jG0 sc) h (0, 0) := by
  refine j_iconst (n := 1) 1 (by decide) dX12_readLine_12 ?_
  refine j_bipush (n := 6) 6 (by decide) dX12_readLine_13 ?_
  refine j_iload_n (i := 1) rfl dX12_readLine_15 ?_
  refine j_imul dX12_readLine_16 ?_
  refine j_iadd dX12_readLine_17 ?_
  refine j_istore_n (i := 2) dX12_readLine_18 (Nat.le_of_ble_eq_true rfl) ?_
  refine j_aload_n (i := 0) rfl dX12_readLine_19 ?_
  refine j_getR (idx := 30) (ci := 12) (k := 12) (nest := false) (show (12, 30, 12, 12, false) ∈ jFT by decide) rfl (Nat.le_of_ble_eq_true rfl) rfl (a := 164) rfl dX12_readLine_20 ?_
  refine j_iload_n (i := 2) rfl dX12_readLine_23 ?_
  refine j_callS (idx := 126) (As := [.ref 164, .int (1 + (6 * l1))]) (n := 2) k1 jvoid_nt (jlkT (jtb6 219 rfl) rfl) sX12_clears kX12_clears rfl ⟨by decide +kernel, by decide +kernel, by decide +kernel⟩ rfl ⟨by decide, by decide⟩ (Nat.le_of_ble_eq_true rfl) ⟨Nat.zero_le _, Nat.zero_le _⟩ dX12_readLine_24 (fun r Γ' h1 q => ?_)
  obtain ⟨q0, rfl, p1⟩ := q; cases q0
  refine j_eqst [] (by rfl) ?_
  refine j_aload_n (i := 0) rfl dX12_readLine_27 ?_
  refine j_getR (idx := 30) (ci := 12) (k := 12) (nest := false) (show (12, 30, 12, 12, false) ∈ jFT by decide) rfl (Nat.le_of_ble_eq_true rfl) rfl (a := 164) rfl dX12_readLine_28 ?_
  refine j_iload_n (i := 2) rfl dX12_readLine_31 ?_
  refine j_aload_n (i := 0) rfl dX12_readLine_32 ?_
  refine j_ldcS (idx := 130) "set" 12 (show ("MendBenchModel", 130, "set", 12) ∈ jStr by decide +kernel) dX12_readLine_33 ?_
  refine j_callV (idx := 111) (As := [.ref 1012]) (ci := 12) (n := 1) (k2 h1 p1) jint_nt (jlkT (jtb6 223 rfl) rfl) sX12_isWord kX12_isWord rfl ⟨rfl, by decide +kernel, by decide +kernel, by decide +kernel⟩ rfl ⟨by decide, by decide⟩ (Nat.le_of_ble_eq_true rfl) rfl (Nat.le_of_ble_eq_true rfl) (Nat.le_of_ble_eq_true rfl) ⟨Nat.zero_le _, Nat.zero_le _⟩ dX12_readLine_35 (fun r Γ' h2 q => ?_)
  obtain ⟨x2, q0, rfl, p2⟩ := q; cases q0
  refine j_eqst [.int x2, .int (1 + (6 * l1)), .ref 164] (by rfl) ?_
  refine j_if_eq (off := 7) 45 dX12_readLine_38 (by decide) (fun c1 => ?_) (fun c1 => ?_)
  · exact j_le [some (.ref 159), some (.int l1), some (.int (1 + (6 * l1)))] (And.intro rfl (And.intro rfl (And.intro rfl True.intro))) (v1 h1 p1 x2 h2 p2 c1)
  · exact j_le [some (.ref 159), some (.int l1), some (.int (1 + (6 * l1)))] (And.intro rfl (And.intro rfl (And.intro rfl True.intro))) (v2 h1 p1 x2 h2 p2 c1)
set_option maxRecDepth 100000 in
theorem bX12_readLine_41 {sc : Nat × (Nat → Int32)} {h : jH} {Q : jQ} {l1 l2 s0 : Int32}
    (v1 : WP mX12_readLine Q 85 [some (.ref 159), some (.int l1), some (.int l2)] [.int 0, .int s0, .ref 164] (jG0 sc) h (0, 0)) :
    WP mX12_readLine Q 41 [some (.ref 159), some (.int l1), some (.int l2)] [.int s0, .ref 164] (jG0 sc) h (0, 0) := by
  refine j_iconst (n := 0) 0 (by decide) dX12_readLine_41 ?_
  refine j_goto (off := 43) 85 dX12_readLine_42 (by decide) ?_
  exact j_le [some (.ref 159), some (.int l1), some (.int l2)] (And.intro rfl (And.intro rfl (And.intro rfl True.intro))) v1
set_option maxRecDepth 100000 in
theorem bX12_readLine_45 {sc : Nat × (Nat → Int32)} {h : jH} {Q : jQ} {l1 l2 s0 : Int32} {P1 : Int32 → jH → Prop}
    (k1 : JM mX12_isWord [.ref 159, .ref 1013] (jG0 sc) h (jint sc P1))
    (v1 : ∀ (x1 : Int32) (h1 : jH), P1 x1 h1 → x1 = 0 → WP mX12_readLine Q 58 [some (.ref 159), some (.int l1), some (.int l2)] [.int s0, .ref 164] (jG0 sc) h1 (0, 0))
    (v2 : ∀ (x1 : Int32) (h1 : jH), P1 x1 h1 → ¬ x1 = 0 → WP mX12_readLine Q 54 [some (.ref 159), some (.int l1), some (.int l2)] [.int s0, .ref 164] (jG0 sc) h1 (0, 0)) :
    WP mX12_readLine Q 45 [some (.ref 159), some (.int l1), some (.int l2)] [.int s0, .ref 164] (jG0 sc) h (0, 0) := by
  refine j_aload_n (i := 0) rfl dX12_readLine_45 ?_
  refine j_ldcS (idx := 132) "skip" 13 (show ("MendBenchModel", 132, "skip", 13) ∈ jStr by decide +kernel) dX12_readLine_46 ?_
  refine j_callV (idx := 111) (As := [.ref 1013]) (ci := 12) (n := 1) k1 jint_nt (jlkT (jtb6 223 rfl) rfl) sX12_isWord kX12_isWord rfl ⟨rfl, by decide +kernel, by decide +kernel, by decide +kernel⟩ rfl ⟨by decide, by decide⟩ (Nat.le_of_ble_eq_true rfl) rfl (Nat.le_of_ble_eq_true rfl) (Nat.le_of_ble_eq_true rfl) ⟨Nat.zero_le _, Nat.zero_le _⟩ dX12_readLine_48 (fun r Γ' h1 q => ?_)
  obtain ⟨x1, q0, rfl, p1⟩ := q; cases q0
  refine j_eqst [.int x1, .int s0, .ref 164] (by rfl) ?_
  refine j_if_eq (off := 7) 58 dX12_readLine_51 (by decide) (fun c1 => ?_) (fun c1 => ?_)
  · exact j_le [some (.ref 159), some (.int l1), some (.int l2)] (And.intro rfl (And.intro rfl (And.intro rfl True.intro))) (v1 x1 h1 p1 c1)
  · exact j_le [some (.ref 159), some (.int l1), some (.int l2)] (And.intro rfl (And.intro rfl (And.intro rfl True.intro))) (v2 x1 h1 p1 c1)
set_option maxRecDepth 100000 in
theorem bX12_readLine_54 {sc : Nat × (Nat → Int32)} {h : jH} {Q : jQ} {l1 l2 s0 : Int32}
    (v1 : WP mX12_readLine Q 85 [some (.ref 159), some (.int l1), some (.int l2)] [.int 1, .int s0, .ref 164] (jG0 sc) h (0, 0)) :
    WP mX12_readLine Q 54 [some (.ref 159), some (.int l1), some (.int l2)] [.int s0, .ref 164] (jG0 sc) h (0, 0) := by
  refine j_iconst (n := 1) 1 (by decide) dX12_readLine_54 ?_
  refine j_goto (off := 30) 85 dX12_readLine_55 (by decide) ?_
  exact j_le [some (.ref 159), some (.int l1), some (.int l2)] (And.intro rfl (And.intro rfl (And.intro rfl True.intro))) v1
set_option maxRecDepth 100000 in
theorem bX12_readLine_58 {sc : Nat × (Nat → Int32)} {h : jH} {Q : jQ} {l1 l2 s0 : Int32} {P1 : Int32 → jH → Prop}
    (k1 : JM mX12_isWord [.ref 159, .ref 1014] (jG0 sc) h (jint sc P1))
    (v1 : ∀ (x1 : Int32) (h1 : jH), P1 x1 h1 → x1 = 0 → WP mX12_readLine Q 71 [some (.ref 159), some (.int l1), some (.int l2)] [.int s0, .ref 164] (jG0 sc) h1 (0, 0))
    (v2 : ∀ (x1 : Int32) (h1 : jH), P1 x1 h1 → ¬ x1 = 0 → WP mX12_readLine Q 67 [some (.ref 159), some (.int l1), some (.int l2)] [.int s0, .ref 164] (jG0 sc) h1 (0, 0)) :
    WP mX12_readLine Q 58 [some (.ref 159), some (.int l1), some (.int l2)] [.int s0, .ref 164] (jG0 sc) h (0, 0) := by
  refine j_aload_n (i := 0) rfl dX12_readLine_58 ?_
  refine j_ldcS (idx := 134) "back" 14 (show ("MendBenchModel", 134, "back", 14) ∈ jStr by decide +kernel) dX12_readLine_59 ?_
  refine j_callV (idx := 111) (As := [.ref 1014]) (ci := 12) (n := 1) k1 jint_nt (jlkT (jtb6 223 rfl) rfl) sX12_isWord kX12_isWord rfl ⟨rfl, by decide +kernel, by decide +kernel, by decide +kernel⟩ rfl ⟨by decide, by decide⟩ (Nat.le_of_ble_eq_true rfl) rfl (Nat.le_of_ble_eq_true rfl) (Nat.le_of_ble_eq_true rfl) ⟨Nat.zero_le _, Nat.zero_le _⟩ dX12_readLine_61 (fun r Γ' h1 q => ?_)
  obtain ⟨x1, q0, rfl, p1⟩ := q; cases q0
  refine j_eqst [.int x1, .int s0, .ref 164] (by rfl) ?_
  refine j_if_eq (off := 7) 71 dX12_readLine_64 (by decide) (fun c1 => ?_) (fun c1 => ?_)
  · exact j_le [some (.ref 159), some (.int l1), some (.int l2)] (And.intro rfl (And.intro rfl (And.intro rfl True.intro))) (v1 x1 h1 p1 c1)
  · exact j_le [some (.ref 159), some (.int l1), some (.int l2)] (And.intro rfl (And.intro rfl (And.intro rfl True.intro))) (v2 x1 h1 p1 c1)
set_option maxRecDepth 100000 in
theorem bX12_readLine_67 {sc : Nat × (Nat → Int32)} {h : jH} {Q : jQ} {l1 l2 s0 : Int32}
    (v1 : WP mX12_readLine Q 85 [some (.ref 159), some (.int l1), some (.int l2)] [.int 2, .int s0, .ref 164] (jG0 sc) h (0, 0)) :
    WP mX12_readLine Q 67 [some (.ref 159), some (.int l1), some (.int l2)] [.int s0, .ref 164] (jG0 sc) h (0, 0) := by
  refine j_iconst (n := 2) 2 (by decide) dX12_readLine_67 ?_
  refine j_goto (off := 17) 85 dX12_readLine_68 (by decide) ?_
  exact j_le [some (.ref 159), some (.int l1), some (.int l2)] (And.intro rfl (And.intro rfl (And.intro rfl True.intro))) v1
set_option maxRecDepth 100000 in
theorem bX12_readLine_71 {sc : Nat × (Nat → Int32)} {h : jH} {Q : jQ} {l1 l2 s0 : Int32} {P1 : Int32 → jH → Prop}
    (k1 : JM mX12_isWord [.ref 159, .ref 1015] (jG0 sc) h (jint sc P1))
    (v1 : ∀ (x1 : Int32) (h1 : jH), P1 x1 h1 → x1 = 0 → WP mX12_readLine Q 84 [some (.ref 159), some (.int l1), some (.int l2)] [.int s0, .ref 164] (jG0 sc) h1 (0, 0))
    (v2 : ∀ (x1 : Int32) (h1 : jH), P1 x1 h1 → ¬ x1 = 0 → WP mX12_readLine Q 80 [some (.ref 159), some (.int l1), some (.int l2)] [.int s0, .ref 164] (jG0 sc) h1 (0, 0)) :
    WP mX12_readLine Q 71 [some (.ref 159), some (.int l1), some (.int l2)] [.int s0, .ref 164] (jG0 sc) h (0, 0) := by
  refine j_aload_n (i := 0) rfl dX12_readLine_71 ?_
  refine j_ldcS (idx := 136) "end" 15 (show ("MendBenchModel", 136, "end", 15) ∈ jStr by decide +kernel) dX12_readLine_72 ?_
  refine j_callV (idx := 111) (As := [.ref 1015]) (ci := 12) (n := 1) k1 jint_nt (jlkT (jtb6 223 rfl) rfl) sX12_isWord kX12_isWord rfl ⟨rfl, by decide +kernel, by decide +kernel, by decide +kernel⟩ rfl ⟨by decide, by decide⟩ (Nat.le_of_ble_eq_true rfl) rfl (Nat.le_of_ble_eq_true rfl) (Nat.le_of_ble_eq_true rfl) ⟨Nat.zero_le _, Nat.zero_le _⟩ dX12_readLine_74 (fun r Γ' h1 q => ?_)
  obtain ⟨x1, q0, rfl, p1⟩ := q; cases q0
  refine j_eqst [.int x1, .int s0, .ref 164] (by rfl) ?_
  refine j_if_eq (off := 7) 84 dX12_readLine_77 (by decide) (fun c1 => ?_) (fun c1 => ?_)
  · exact j_le [some (.ref 159), some (.int l1), some (.int l2)] (And.intro rfl (And.intro rfl (And.intro rfl True.intro))) (v1 x1 h1 p1 c1)
  · exact j_le [some (.ref 159), some (.int l1), some (.int l2)] (And.intro rfl (And.intro rfl (And.intro rfl True.intro))) (v2 x1 h1 p1 c1)
set_option maxRecDepth 100000 in
theorem bX12_readLine_80 {sc : Nat × (Nat → Int32)} {h : jH} {Q : jQ} {l1 l2 s0 : Int32}
    (v1 : WP mX12_readLine Q 85 [some (.ref 159), some (.int l1), some (.int l2)] [.int 3, .int s0, .ref 164] (jG0 sc) h (0, 0)) :
    WP mX12_readLine Q 80 [some (.ref 159), some (.int l1), some (.int l2)] [.int s0, .ref 164] (jG0 sc) h (0, 0) := by
  refine j_iconst (n := 3) 3 (by decide) dX12_readLine_80 ?_
  refine j_goto (off := 4) 85 dX12_readLine_81 (by decide) ?_
  exact j_le [some (.ref 159), some (.int l1), some (.int l2)] (And.intro rfl (And.intro rfl (And.intro rfl True.intro))) v1
set_option maxRecDepth 100000 in
theorem bX12_readLine_84 {sc : Nat × (Nat → Int32)} {h : jH} {Q : jQ} {l1 l2 s0 : Int32}
    (v1 : WP mX12_readLine Q 85 [some (.ref 159), some (.int l1), some (.int l2)] [.int 4, .int s0, .ref 164] (jG0 sc) h (0, 0)) :
    WP mX12_readLine Q 84 [some (.ref 159), some (.int l1), some (.int l2)] [.int s0, .ref 164] (jG0 sc) h (0, 0) := by
  refine j_iconst (n := 4) 4 (by decide) dX12_readLine_84 ?_
  exact j_le [some (.ref 159), some (.int l1), some (.int l2)] (And.intro rfl (And.intro rfl (And.intro rfl True.intro))) v1
set_option maxRecDepth 100000 in
theorem bX12_readLine_85 {sc : Nat × (Nat → Int32)} {h : jH} {Q : jQ} {l1 l2 s0 s1 : Int32}
    (o1 : vp_in s1 61)
    (o2 : vp_in l2 61)
    (v1 : ¬ ((jput h 164 s1.toNatClampNeg s0) 164 l2.toNatClampNeg) = 4 → WP mX12_readLine Q 98 [some (.ref 159), some (.int l1), some (.int l2)] [] (jG0 sc) (jput h 164 s1.toNatClampNeg s0) (0, 0))
    (v2 : ((jput h 164 s1.toNatClampNeg s0) 164 l2.toNatClampNeg) = 4 → WP mX12_readLine Q 96 [some (.ref 159), some (.int l1), some (.int l2)] [] (jG0 sc) (jput h 164 s1.toNatClampNeg s0) (0, 0)) :
    WP mX12_readLine Q 85 [some (.ref 159), some (.int l1), some (.int l2)] [.int s0, .int s1, .ref 164] (jG0 sc) h (0, 0) := by
  refine j_iast (Nat.le_of_ble_eq_true rfl) rfl o1 dX12_readLine_85 ?_
  refine j_aload_n (i := 0) rfl dX12_readLine_86 ?_
  refine j_getR (idx := 30) (ci := 12) (k := 12) (nest := false) (show (12, 30, 12, 12, false) ∈ jFT by decide) rfl (Nat.le_of_ble_eq_true rfl) rfl (a := 164) rfl dX12_readLine_87 ?_
  refine j_iload_n (i := 2) rfl dX12_readLine_90 ?_
  refine j_iald (Nat.le_of_ble_eq_true rfl) rfl o2 dX12_readLine_91 ?_
  refine j_iconst (n := 4) 4 (by decide) dX12_readLine_92 ?_
  refine j_icmp_ne (off := 5) 98 dX12_readLine_93 (by decide) (fun c1 => ?_) (fun c1 => ?_)
  · exact j_le [some (.ref 159), some (.int l1), some (.int l2)] (And.intro rfl (And.intro rfl (And.intro rfl True.intro))) (v1 c1)
  · exact j_le [some (.ref 159), some (.int l1), some (.int l2)] (And.intro rfl (And.intro rfl (And.intro rfl True.intro))) (v2 c1)
set_option maxRecDepth 100000 in
theorem bX12_readLine_96 {sc : Nat × (Nat → Int32)} {h : jH} {Q : jQ} {l1 l2 : Int32}
    (v1 : Q (.inl (some (.int 0))) (jG0 sc) h) :
    WP mX12_readLine Q 96 [some (.ref 159), some (.int l1), some (.int l2)] [] (jG0 sc) h (0, 0) := by
  refine j_iconst (n := 0) 0 (by decide) dX12_readLine_96 ?_
  exact j_iret rfl rfl (Nat.zero_le _) (Nat.zero_le _) dX12_readLine_97 v1
set_option maxRecDepth 100000 in
theorem bX12_readLine_98 {sc : Nat × (Nat → Int32)} {h : jH} {Q : jQ} {l1 l2 : Int32}
    (o1 : vp_in l2 61)
    (v1 : ¬ (h 164 l2.toNatClampNeg) = 3 → WP mX12_readLine Q 114 [some (.ref 159), some (.int l1), some (.int l2)] [] (jG0 sc) h (0, 0))
    (v2 : (h 164 l2.toNatClampNeg) = 3 → WP mX12_readLine Q 108 [some (.ref 159), some (.int l1), some (.int l2)] [] (jG0 sc) h (0, 0)) :
    WP mX12_readLine Q 98 [some (.ref 159), some (.int l1), some (.int l2)] [] (jG0 sc) h (0, 0) := by
  refine j_aload_n (i := 0) rfl dX12_readLine_98 ?_
  refine j_getR (idx := 30) (ci := 12) (k := 12) (nest := false) (show (12, 30, 12, 12, false) ∈ jFT by decide) rfl (Nat.le_of_ble_eq_true rfl) rfl (a := 164) rfl dX12_readLine_99 ?_
  refine j_iload_n (i := 2) rfl dX12_readLine_102 ?_
  refine j_iald (Nat.le_of_ble_eq_true rfl) rfl o1 dX12_readLine_103 ?_
  refine j_iconst (n := 3) 3 (by decide) dX12_readLine_104 ?_
  refine j_icmp_ne (off := 9) 114 dX12_readLine_105 (by decide) (fun c1 => ?_) (fun c1 => ?_)
  · exact j_le [some (.ref 159), some (.int l1), some (.int l2)] (And.intro rfl (And.intro rfl (And.intro rfl True.intro))) (v1 c1)
  · exact j_le [some (.ref 159), some (.int l1), some (.int l2)] (And.intro rfl (And.intro rfl (And.intro rfl True.intro))) (v2 c1)
set_option maxRecDepth 100000 in
theorem bX12_readLine_108 {sc : Nat × (Nat → Int32)} {h : jH} {Q : jQ} {l1 l2 : Int32} {P1 : Int32 → jH → Prop}
    (k1 : JM mX12_readSum [.ref 159, .int l2] (jG0 sc) h (jint sc P1))
    (o1 : ∀ (x1 : Int32) (h1 : jH), P1 x1 h1 → x1 = 0 ∨ x1 = 1)
    (v1 : ∀ (x1 : Int32) (h1 : jH), P1 x1 h1 → Q (.inl (some (.int x1))) (jG0 sc) h1) :
    WP mX12_readLine Q 108 [some (.ref 159), some (.int l1), some (.int l2)] [] (jG0 sc) h (0, 0) := by
  refine j_aload_n (i := 0) rfl dX12_readLine_108 ?_
  refine j_iload_n (i := 2) rfl dX12_readLine_109 ?_
  refine j_callV (idx := 137) (As := [.int l2]) (ci := 12) (n := 1) k1 jint_nt (jlkT (jtb6 232 rfl) rfl) sX12_readSum kX12_readSum rfl ⟨rfl, by decide +kernel, by decide +kernel, by decide +kernel⟩ rfl ⟨by decide, by decide⟩ (Nat.le_of_ble_eq_true rfl) rfl (Nat.le_of_ble_eq_true rfl) (Nat.le_of_ble_eq_true rfl) ⟨Nat.zero_le _, Nat.zero_le _⟩ dX12_readLine_110 (fun r Γ' h1 q => ?_)
  obtain ⟨x1, q0, rfl, p1⟩ := q; cases q0
  refine j_eqst [.int x1] (by rfl) ?_
  exact j_iret rfl (jbn (o1 x1 h1 p1)) (Nat.zero_le _) (Nat.zero_le _) dX12_readLine_113 (v1 x1 h1 p1)
set_option maxRecDepth 100000 in
theorem bX12_readLine_114 {sc : Nat × (Nat → Int32)} {h : jH} {Q : jQ} {l1 l2 : Int32}
    (o1 : vp_in l2 61)
    (v1 : ¬ (h 164 l2.toNatClampNeg) = 0 → WP mX12_readLine Q 199 [some (.ref 159), some (.int l1), some (.int l2)] [] (jG0 sc) h (0, 0))
    (v2 : (h 164 l2.toNatClampNeg) = 0 → WP mX12_readLine Q 123 [some (.ref 159), some (.int l1), some (.int l2)] [] (jG0 sc) h (0, 0)) :
    WP mX12_readLine Q 114 [some (.ref 159), some (.int l1), some (.int l2)] [] (jG0 sc) h (0, 0) := by
  refine j_aload_n (i := 0) rfl dX12_readLine_114 ?_
  refine j_getR (idx := 30) (ci := 12) (k := 12) (nest := false) (show (12, 30, 12, 12, false) ∈ jFT by decide) rfl (Nat.le_of_ble_eq_true rfl) rfl (a := 164) rfl dX12_readLine_115 ?_
  refine j_iload_n (i := 2) rfl dX12_readLine_118 ?_
  refine j_iald (Nat.le_of_ble_eq_true rfl) rfl o1 dX12_readLine_119 ?_
  refine j_if_ne (off := 79) 199 dX12_readLine_120 (by decide) (fun c1 => ?_) (fun c1 => ?_)
  · exact j_le [some (.ref 159), some (.int l1), some (.int l2)] (And.intro rfl (And.intro rfl (And.intro rfl True.intro))) (v1 c1)
  · exact j_le [some (.ref 159), some (.int l1), some (.int l2)] (And.intro rfl (And.intro rfl (And.intro rfl True.intro))) (v2 c1)
set_option maxRecDepth 100000 in
theorem bX12_readLine_123 {sc : Nat × (Nat → Int32)} {h : jH} {Q : jQ} {l1 l2 : Int32} {P1 : jH → Prop}
    (k1 : JM mX12_letters [.ref 159] (jG0 sc) h (jvoid sc P1))
    (v1 : ∀ h1 : jH, P1 h1 → ¬ ((h1 159 6) - (h1 159 8)) = 1 → WP mX12_readLine Q 154 [some (.ref 159), some (.int l1), some (.int l2)] [] (jG0 sc) h1 (0, 0))
    (v2 : ∀ h1 : jH, P1 h1 → ((h1 159 6) - (h1 159 8)) = 1 → WP mX12_readLine Q 140 [some (.ref 159), some (.int l1), some (.int l2)] [] (jG0 sc) h1 (0, 0)) :
    WP mX12_readLine Q 123 [some (.ref 159), some (.int l1), some (.int l2)] [] (jG0 sc) h (0, 0) := by
  refine j_aload_n (i := 0) rfl dX12_readLine_123 ?_
  refine j_callV (idx := 108) (As := []) (ci := 12) (n := 0) k1 jvoid_nt (jlkT (jtb6 207 rfl) rfl) sX12_letters kX12_letters rfl ⟨rfl, by decide +kernel, by decide +kernel, by decide +kernel⟩ rfl ⟨by decide, by decide⟩ (Nat.le_of_ble_eq_true rfl) rfl (Nat.le_of_ble_eq_true rfl) (Nat.le_of_ble_eq_true rfl) ⟨Nat.zero_le _, Nat.zero_le _⟩ dX12_readLine_124 (fun r Γ' h1 q => ?_)
  obtain ⟨q0, rfl, p1⟩ := q; cases q0
  refine j_eqst [] (by rfl) ?_
  refine j_aload_n (i := 0) rfl dX12_readLine_127 ?_
  refine j_getI (idx := 85) (ci := 12) (k := 6) (nest := false) (show (12, 85, 12, 6, false) ∈ jFT by decide) rfl (Nat.le_of_ble_eq_true rfl) rfl dX12_readLine_128 ?_
  refine j_aload_n (i := 0) rfl dX12_readLine_131 ?_
  refine j_getI (idx := 92) (ci := 12) (k := 8) (nest := false) (show (12, 92, 12, 8, false) ∈ jFT by decide) rfl (Nat.le_of_ble_eq_true rfl) rfl dX12_readLine_132 ?_
  refine j_isub dX12_readLine_135 ?_
  refine j_iconst (n := 1) 1 (by decide) dX12_readLine_136 ?_
  refine j_icmp_ne (off := 17) 154 dX12_readLine_137 (by decide) (fun c1 => ?_) (fun c1 => ?_)
  · exact j_le [some (.ref 159), some (.int l1), some (.int l2)] (And.intro rfl (And.intro rfl (And.intro rfl True.intro))) (v1 h1 p1 c1)
  · exact j_le [some (.ref 159), some (.int l1), some (.int l2)] (And.intro rfl (And.intro rfl (And.intro rfl True.intro))) (v2 h1 p1 c1)
set_option maxRecDepth 100000 in
theorem bX12_readLine_140 {sc : Nat × (Nat → Int32)} {h : jH} {Q : jQ} {l1 l2 : Int32}
    (o1 : vp_in (h 159 8) 400)
    (v1 : (h 162 ((h 159 8).toNatClampNeg)) ≤ 100 → WP mX12_readLine Q 156 [some (.ref 159), some (.int l1), some (.int l2)] [] (jG0 sc) h (0, 0))
    (v2 : ¬ (h 162 ((h 159 8).toNatClampNeg)) ≤ 100 → WP mX12_readLine Q 154 [some (.ref 159), some (.int l1), some (.int l2)] [] (jG0 sc) h (0, 0)) :
    WP mX12_readLine Q 140 [some (.ref 159), some (.int l1), some (.int l2)] [] (jG0 sc) h (0, 0) := by
  refine j_aload_n (i := 0) rfl dX12_readLine_140 ?_
  refine j_getR (idx := 20) (ci := 12) (k := 4) (nest := false) (show (12, 20, 12, 4, false) ∈ jFT by decide) rfl (Nat.le_of_ble_eq_true rfl) rfl (a := 162) rfl dX12_readLine_141 ?_
  refine j_aload_n (i := 0) rfl dX12_readLine_144 ?_
  refine j_getI (idx := 92) (ci := 12) (k := 8) (nest := false) (show (12, 92, 12, 8, false) ∈ jFT by decide) rfl (Nat.le_of_ble_eq_true rfl) rfl dX12_readLine_145 ?_
  refine j_bald (Nat.le_of_ble_eq_true rfl) rfl o1 dX12_readLine_148 ?_
  refine j_bipush (n := 100) 100 (by decide) dX12_readLine_149 ?_
  refine j_icmp_le (off := 5) 156 dX12_readLine_151 (by decide) (fun c1 => ?_) (fun c1 => ?_)
  · exact j_le [some (.ref 159), some (.int l1), some (.int l2)] (And.intro rfl (And.intro rfl (And.intro rfl True.intro))) (v1 c1)
  · exact j_le [some (.ref 159), some (.int l1), some (.int l2)] (And.intro rfl (And.intro rfl (And.intro rfl True.intro))) (v2 c1)
set_option maxRecDepth 100000 in
theorem bX12_readLine_154 {sc : Nat × (Nat → Int32)} {h : jH} {Q : jQ} {l1 l2 : Int32}
    (v1 : Q (.inl (some (.int 0))) (jG0 sc) h) :
    WP mX12_readLine Q 154 [some (.ref 159), some (.int l1), some (.int l2)] [] (jG0 sc) h (0, 0) := by
  refine j_iconst (n := 0) 0 (by decide) dX12_readLine_154 ?_
  exact j_iret rfl rfl (Nat.zero_le _) (Nat.zero_le _) dX12_readLine_155 v1
set_option maxRecDepth 100000 in
theorem bX12_readLine_156 {sc : Nat × (Nat → Int32)} {h : jH} {Q : jQ} {l1 l2 : Int32} {P1 : Int32 → jH → Prop}
    (o1 : vp_in (h 159 8) 400)
    (o2 : vp_in (l2 + 1) 61)
    (k1 : JM mX12_sign [.ref 159, .int 61] (jG0 sc) (jput h 164 ((l2 + 1).toNatClampNeg) ((h 162 ((h 159 8).toNatClampNeg)) - 97)) (jint sc P1))
    (v1 : ∀ (x1 : Int32) (h1 : jH), P1 x1 h1 → x1 = 0 → WP mX12_readLine Q 197 [some (.ref 159), some (.int l1), some (.int l2)] [] (jG0 sc) h1 (0, 0))
    (v2 : ∀ (x1 : Int32) (h1 : jH), P1 x1 h1 → ¬ x1 = 0 → WP mX12_readLine Q 185 [some (.ref 159), some (.int l1), some (.int l2)] [] (jG0 sc) h1 (0, 0)) :
    WP mX12_readLine Q 156 [some (.ref 159), some (.int l1), some (.int l2)] [] (jG0 sc) h (0, 0) := by
  refine j_aload_n (i := 0) rfl dX12_readLine_156 ?_
  refine j_getR (idx := 30) (ci := 12) (k := 12) (nest := false) (show (12, 30, 12, 12, false) ∈ jFT by decide) rfl (Nat.le_of_ble_eq_true rfl) rfl (a := 164) rfl dX12_readLine_157 ?_
  refine j_iload_n (i := 2) rfl dX12_readLine_160 ?_
  refine j_iconst (n := 1) 1 (by decide) dX12_readLine_161 ?_
  refine j_iadd dX12_readLine_162 ?_
  refine j_aload_n (i := 0) rfl dX12_readLine_163 ?_
  refine j_getR (idx := 20) (ci := 12) (k := 4) (nest := false) (show (12, 20, 12, 4, false) ∈ jFT by decide) rfl (Nat.le_of_ble_eq_true rfl) rfl (a := 162) rfl dX12_readLine_164 ?_
  refine j_aload_n (i := 0) rfl dX12_readLine_167 ?_
  refine j_getI (idx := 92) (ci := 12) (k := 8) (nest := false) (show (12, 92, 12, 8, false) ∈ jFT by decide) rfl (Nat.le_of_ble_eq_true rfl) rfl dX12_readLine_168 ?_
  refine j_bald (Nat.le_of_ble_eq_true rfl) rfl o1 dX12_readLine_171 ?_
  refine j_bipush (n := 97) 97 (by decide) dX12_readLine_172 ?_
  refine j_isub dX12_readLine_174 ?_
  refine j_iast (Nat.le_of_ble_eq_true rfl) rfl o2 dX12_readLine_175 ?_
  refine j_aload_n (i := 0) rfl dX12_readLine_176 ?_
  refine j_bipush (n := 61) 61 (by decide) dX12_readLine_177 ?_
  refine j_callV (idx := 122) (As := [.int 61]) (ci := 12) (n := 1) k1 jint_nt (jlkT (jtb7 4 rfl) rfl) sX12_sign kX12_sign rfl ⟨rfl, by decide +kernel, by decide +kernel, by decide +kernel⟩ rfl ⟨by decide, by decide⟩ (Nat.le_of_ble_eq_true rfl) rfl (Nat.le_of_ble_eq_true rfl) (Nat.le_of_ble_eq_true rfl) ⟨Nat.zero_le _, Nat.zero_le _⟩ dX12_readLine_179 (fun r Γ' h1 q => ?_)
  obtain ⟨x1, q0, rfl, p1⟩ := q; cases q0
  refine j_eqst [.int x1] (by rfl) ?_
  refine j_if_eq (off := 15) 197 dX12_readLine_182 (by decide) (fun c1 => ?_) (fun c1 => ?_)
  · exact j_le [some (.ref 159), some (.int l1), some (.int l2)] (And.intro rfl (And.intro rfl (And.intro rfl True.intro))) (v1 x1 h1 p1 c1)
  · exact j_le [some (.ref 159), some (.int l1), some (.int l2)] (And.intro rfl (And.intro rfl (And.intro rfl True.intro))) (v2 x1 h1 p1 c1)
set_option maxRecDepth 100000 in
theorem bX12_readLine_185 {sc : Nat × (Nat → Int32)} {h : jH} {Q : jQ} {l1 l2 : Int32} {P1 : Int32 → jH → Prop}
    (k1 : JM mX12_readSum [.ref 159, .int l2] (jG0 sc) h (jint sc P1))
    (v1 : ∀ (x1 : Int32) (h1 : jH), P1 x1 h1 → x1 = 0 → WP mX12_readLine Q 197 [some (.ref 159), some (.int l1), some (.int l2)] [] (jG0 sc) h1 (0, 0))
    (v2 : ∀ (x1 : Int32) (h1 : jH), P1 x1 h1 → ¬ x1 = 0 → WP mX12_readLine Q 193 [some (.ref 159), some (.int l1), some (.int l2)] [] (jG0 sc) h1 (0, 0)) :
    WP mX12_readLine Q 185 [some (.ref 159), some (.int l1), some (.int l2)] [] (jG0 sc) h (0, 0) := by
  refine j_aload_n (i := 0) rfl dX12_readLine_185 ?_
  refine j_iload_n (i := 2) rfl dX12_readLine_186 ?_
  refine j_callV (idx := 137) (As := [.int l2]) (ci := 12) (n := 1) k1 jint_nt (jlkT (jtb6 232 rfl) rfl) sX12_readSum kX12_readSum rfl ⟨rfl, by decide +kernel, by decide +kernel, by decide +kernel⟩ rfl ⟨by decide, by decide⟩ (Nat.le_of_ble_eq_true rfl) rfl (Nat.le_of_ble_eq_true rfl) (Nat.le_of_ble_eq_true rfl) ⟨Nat.zero_le _, Nat.zero_le _⟩ dX12_readLine_187 (fun r Γ' h1 q => ?_)
  obtain ⟨x1, q0, rfl, p1⟩ := q; cases q0
  refine j_eqst [.int x1] (by rfl) ?_
  refine j_if_eq (off := 7) 197 dX12_readLine_190 (by decide) (fun c1 => ?_) (fun c1 => ?_)
  · exact j_le [some (.ref 159), some (.int l1), some (.int l2)] (And.intro rfl (And.intro rfl (And.intro rfl True.intro))) (v1 x1 h1 p1 c1)
  · exact j_le [some (.ref 159), some (.int l1), some (.int l2)] (And.intro rfl (And.intro rfl (And.intro rfl True.intro))) (v2 x1 h1 p1 c1)
set_option maxRecDepth 100000 in
theorem bX12_readLine_193 {sc : Nat × (Nat → Int32)} {h : jH} {Q : jQ} {l1 l2 : Int32}
    (v1 : WP mX12_readLine Q 198 [some (.ref 159), some (.int l1), some (.int l2)] [.int 1] (jG0 sc) h (0, 0)) :
    WP mX12_readLine Q 193 [some (.ref 159), some (.int l1), some (.int l2)] [] (jG0 sc) h (0, 0) := by
  refine j_iconst (n := 1) 1 (by decide) dX12_readLine_193 ?_
  refine j_goto (off := 4) 198 dX12_readLine_194 (by decide) ?_
  exact j_le [some (.ref 159), some (.int l1), some (.int l2)] (And.intro rfl (And.intro rfl (And.intro rfl True.intro))) v1
set_option maxRecDepth 100000 in
theorem bX12_readLine_197 {sc : Nat × (Nat → Int32)} {h : jH} {Q : jQ} {l1 l2 : Int32}
    (v1 : WP mX12_readLine Q 198 [some (.ref 159), some (.int l1), some (.int l2)] [.int 0] (jG0 sc) h (0, 0)) :
    WP mX12_readLine Q 197 [some (.ref 159), some (.int l1), some (.int l2)] [] (jG0 sc) h (0, 0) := by
  refine j_iconst (n := 0) 0 (by decide) dX12_readLine_197 ?_
  exact j_le [some (.ref 159), some (.int l1), some (.int l2)] (And.intro rfl (And.intro rfl (And.intro rfl True.intro))) v1
set_option maxRecDepth 100000 in
theorem bX12_readLine_198 {sc : Nat × (Nat → Int32)} {h : jH} {Q : jQ} {l1 l2 s0 : Int32}
    (o1 : s0 = 0 ∨ s0 = 1)
    (v1 : Q (.inl (some (.int s0))) (jG0 sc) h) :
    WP mX12_readLine Q 198 [some (.ref 159), some (.int l1), some (.int l2)] [.int s0] (jG0 sc) h (0, 0) := by
  exact j_iret rfl (jbn o1) (Nat.zero_le _) (Nat.zero_le _) dX12_readLine_198 v1
set_option maxRecDepth 100000 in
theorem bX12_readLine_199 {sc : Nat × (Nat → Int32)} {h : jH} {Q : jQ} {l1 l2 : Int32} {P1 : Int32 → jH → Prop}
    (k1 : JM mX12_number [.ref 159, .int 1, .int 1] (jG0 sc) h (jint sc P1))
    (o1 : ∀ (x1 : Int32) (h1 : jH), P1 x1 h1 → vp_in (l2 + 5) 61)
    (o2 : ∀ (x1 : Int32) (h1 : jH), P1 x1 h1 → vp_in (l2 + 5) 61)
    (v1 : ∀ (x1 : Int32) (h1 : jH), P1 x1 h1 → ((jput h1 164 ((l2 + 5).toNatClampNeg) x1) 164 ((l2 + 5).toNatClampNeg)) ≤ 0 → WP mX12_readLine Q 245 [some (.ref 159), some (.int l1), some (.int l2)] [] (jG0 sc) (jput h1 164 ((l2 + 5).toNatClampNeg) x1) (0, 0))
    (v2 : ∀ (x1 : Int32) (h1 : jH), P1 x1 h1 → ¬ ((jput h1 164 ((l2 + 5).toNatClampNeg) x1) 164 ((l2 + 5).toNatClampNeg)) ≤ 0 → WP mX12_readLine Q 224 [some (.ref 159), some (.int l1), some (.int l2)] [] (jG0 sc) (jput h1 164 ((l2 + 5).toNatClampNeg) x1) (0, 0)) :
    WP mX12_readLine Q 199 [some (.ref 159), some (.int l1), some (.int l2)] [] (jG0 sc) h (0, 0) := by
  refine j_aload_n (i := 0) rfl dX12_readLine_199 ?_
  refine j_getR (idx := 30) (ci := 12) (k := 12) (nest := false) (show (12, 30, 12, 12, false) ∈ jFT by decide) rfl (Nat.le_of_ble_eq_true rfl) rfl (a := 164) rfl dX12_readLine_200 ?_
  refine j_iload_n (i := 2) rfl dX12_readLine_203 ?_
  refine j_iconst (n := 5) 5 (by decide) dX12_readLine_204 ?_
  refine j_iadd dX12_readLine_205 ?_
  refine j_aload_n (i := 0) rfl dX12_readLine_206 ?_
  refine j_iconst (n := 1) 1 (by decide) dX12_readLine_207 ?_
  refine j_iconst (n := 1) 1 (by decide) dX12_readLine_208 ?_
  refine j_callV (idx := 115) (As := [.int 1, .int 1]) (ci := 12) (n := 2) k1 jint_nt (jlkT (jtb7 0 rfl) rfl) sX12_number kX12_number rfl ⟨rfl, by decide +kernel, by decide +kernel, by decide +kernel⟩ rfl ⟨by decide, by decide⟩ (Nat.le_of_ble_eq_true rfl) rfl (Nat.le_of_ble_eq_true rfl) (Nat.le_of_ble_eq_true rfl) ⟨Nat.zero_le _, Nat.zero_le _⟩ dX12_readLine_209 (fun r Γ' h1 q => ?_)
  obtain ⟨x1, q0, rfl, p1⟩ := q; cases q0
  refine j_eqst [.int x1, .int (l2 + 5), .ref 164] (by rfl) ?_
  refine j_iast (Nat.le_of_ble_eq_true rfl) rfl (o1 x1 h1 p1) dX12_readLine_212 ?_
  refine j_aload_n (i := 0) rfl dX12_readLine_213 ?_
  refine j_getR (idx := 30) (ci := 12) (k := 12) (nest := false) (show (12, 30, 12, 12, false) ∈ jFT by decide) rfl (Nat.le_of_ble_eq_true rfl) rfl (a := 164) rfl dX12_readLine_214 ?_
  refine j_iload_n (i := 2) rfl dX12_readLine_217 ?_
  refine j_iconst (n := 5) 5 (by decide) dX12_readLine_218 ?_
  refine j_iadd dX12_readLine_219 ?_
  refine j_iald (Nat.le_of_ble_eq_true rfl) rfl (o2 x1 h1 p1) dX12_readLine_220 ?_
  refine j_if_le (off := 24) 245 dX12_readLine_221 (by decide) (fun c1 => ?_) (fun c1 => ?_)
  · exact j_le [some (.ref 159), some (.int l1), some (.int l2)] (And.intro rfl (And.intro rfl (And.intro rfl True.intro))) (v1 x1 h1 p1 c1)
  · exact j_le [some (.ref 159), some (.int l1), some (.int l2)] (And.intro rfl (And.intro rfl (And.intro rfl True.intro))) (v2 x1 h1 p1 c1)
set_option maxRecDepth 100000 in
theorem bX12_readLine_224 {sc : Nat × (Nat → Int32)} {h : jH} {Q : jQ} {l1 l2 : Int32} {P1 : Int32 → jH → Prop}
    (k1 : JM mX12_needs [.ref 159, .ref 1016] (jG0 sc) h (jint sc P1))
    (v1 : ∀ (x1 : Int32) (h1 : jH), P1 x1 h1 → x1 = 0 → WP mX12_readLine Q 245 [some (.ref 159), some (.int l1), some (.int l2)] [] (jG0 sc) h1 (0, 0))
    (v2 : ∀ (x1 : Int32) (h1 : jH), P1 x1 h1 → ¬ x1 = 0 → WP mX12_readLine Q 233 [some (.ref 159), some (.int l1), some (.int l2)] [] (jG0 sc) h1 (0, 0)) :
    WP mX12_readLine Q 224 [some (.ref 159), some (.int l1), some (.int l2)] [] (jG0 sc) h (0, 0) := by
  refine j_aload_n (i := 0) rfl dX12_readLine_224 ?_
  refine j_ldcS (idx := 140) "if" 16 (show ("MendBenchModel", 140, "if", 16) ∈ jStr by decide +kernel) dX12_readLine_225 ?_
  refine j_callV (idx := 142) (As := [.ref 1016]) (ci := 12) (n := 1) k1 jint_nt (jlkT (jtb7 9 rfl) rfl) sX12_needs kX12_needs rfl ⟨rfl, by decide +kernel, by decide +kernel, by decide +kernel⟩ rfl ⟨by decide, by decide⟩ (Nat.le_of_ble_eq_true rfl) rfl (Nat.le_of_ble_eq_true rfl) (Nat.le_of_ble_eq_true rfl) ⟨Nat.zero_le _, Nat.zero_le _⟩ dX12_readLine_227 (fun r Γ' h1 q => ?_)
  obtain ⟨x1, q0, rfl, p1⟩ := q; cases q0
  refine j_eqst [.int x1] (by rfl) ?_
  refine j_if_eq (off := 15) 245 dX12_readLine_230 (by decide) (fun c1 => ?_) (fun c1 => ?_)
  · exact j_le [some (.ref 159), some (.int l1), some (.int l2)] (And.intro rfl (And.intro rfl (And.intro rfl True.intro))) (v1 x1 h1 p1 c1)
  · exact j_le [some (.ref 159), some (.int l1), some (.int l2)] (And.intro rfl (And.intro rfl (And.intro rfl True.intro))) (v2 x1 h1 p1 c1)
set_option maxRecDepth 100000 in
theorem bX12_readLine_233 {sc : Nat × (Nat → Int32)} {h : jH} {Q : jQ} {l1 l2 : Int32} {P1 : Int32 → jH → Prop}
    (k1 : JM mX12_readTest [.ref 159, .int l2] (jG0 sc) h (jint sc P1))
    (v1 : ∀ (x1 : Int32) (h1 : jH), P1 x1 h1 → x1 = 0 → WP mX12_readLine Q 245 [some (.ref 159), some (.int l1), some (.int l2)] [] (jG0 sc) h1 (0, 0))
    (v2 : ∀ (x1 : Int32) (h1 : jH), P1 x1 h1 → ¬ x1 = 0 → WP mX12_readLine Q 241 [some (.ref 159), some (.int l1), some (.int l2)] [] (jG0 sc) h1 (0, 0)) :
    WP mX12_readLine Q 233 [some (.ref 159), some (.int l1), some (.int l2)] [] (jG0 sc) h (0, 0) := by
  refine j_aload_n (i := 0) rfl dX12_readLine_233 ?_
  refine j_iload_n (i := 2) rfl dX12_readLine_234 ?_
  refine j_callV (idx := 145) (As := [.int l2]) (ci := 12) (n := 1) k1 jint_nt (jlkT (jtb7 13 rfl) rfl) sX12_readTest kX12_readTest rfl ⟨rfl, by decide +kernel, by decide +kernel, by decide +kernel⟩ rfl ⟨by decide, by decide⟩ (Nat.le_of_ble_eq_true rfl) rfl (Nat.le_of_ble_eq_true rfl) (Nat.le_of_ble_eq_true rfl) ⟨Nat.zero_le _, Nat.zero_le _⟩ dX12_readLine_235 (fun r Γ' h1 q => ?_)
  obtain ⟨x1, q0, rfl, p1⟩ := q; cases q0
  refine j_eqst [.int x1] (by rfl) ?_
  refine j_if_eq (off := 7) 245 dX12_readLine_238 (by decide) (fun c1 => ?_) (fun c1 => ?_)
  · exact j_le [some (.ref 159), some (.int l1), some (.int l2)] (And.intro rfl (And.intro rfl (And.intro rfl True.intro))) (v1 x1 h1 p1 c1)
  · exact j_le [some (.ref 159), some (.int l1), some (.int l2)] (And.intro rfl (And.intro rfl (And.intro rfl True.intro))) (v2 x1 h1 p1 c1)
set_option maxRecDepth 100000 in
theorem bX12_readLine_241 {sc : Nat × (Nat → Int32)} {h : jH} {Q : jQ} {l1 l2 : Int32}
    (v1 : WP mX12_readLine Q 246 [some (.ref 159), some (.int l1), some (.int l2)] [.int 1] (jG0 sc) h (0, 0)) :
    WP mX12_readLine Q 241 [some (.ref 159), some (.int l1), some (.int l2)] [] (jG0 sc) h (0, 0) := by
  refine j_iconst (n := 1) 1 (by decide) dX12_readLine_241 ?_
  refine j_goto (off := 4) 246 dX12_readLine_242 (by decide) ?_
  exact j_le [some (.ref 159), some (.int l1), some (.int l2)] (And.intro rfl (And.intro rfl (And.intro rfl True.intro))) v1
set_option maxRecDepth 100000 in
theorem bX12_readLine_245 {sc : Nat × (Nat → Int32)} {h : jH} {Q : jQ} {l1 l2 : Int32}
    (v1 : WP mX12_readLine Q 246 [some (.ref 159), some (.int l1), some (.int l2)] [.int 0] (jG0 sc) h (0, 0)) :
    WP mX12_readLine Q 245 [some (.ref 159), some (.int l1), some (.int l2)] [] (jG0 sc) h (0, 0) := by
  refine j_iconst (n := 0) 0 (by decide) dX12_readLine_245 ?_
  exact j_le [some (.ref 159), some (.int l1), some (.int l2)] (And.intro rfl (And.intro rfl (And.intro rfl True.intro))) v1
set_option maxRecDepth 100000 in
theorem bX12_readLine_246 {sc : Nat × (Nat → Int32)} {h : jH} {Q : jQ} {l1 l2 s0 : Int32}
    (o1 : s0 = 0 ∨ s0 = 1)
    (v1 : Q (.inl (some (.int s0))) (jG0 sc) h) :
    WP mX12_readLine Q 246 [some (.ref 159), some (.int l1), some (.int l2)] [.int s0] (jG0 sc) h (0, 0) := by
  exact j_iret rfl (jbn o1) (Nat.zero_le _) (Nat.zero_le _) dX12_readLine_246 v1
set_option maxRecDepth 100000 in
theorem rX12_readLine_0 {sc : Nat × (Nat → Int32)} {h : jH} {Q : jQ} {l1 : Int32} {P1 : jH → Prop} {P2 : jH → Prop} {P3 : Int32 → jH → Prop} {P4 : Int32 → jH → Prop} {P5 : Int32 → jH → Prop} {P6 : Int32 → jH → Prop} {P7 : Int32 → jH → Prop} {P8 : Int32 → jH → Prop} {P9 : Int32 → jH → Prop} {P10 : jH → Prop} {P11 : Int32 → jH → Prop} {P12 : Int32 → jH → Prop} {P13 : Int32 → jH → Prop} {P14 : Int32 → jH → Prop} {P15 : Int32 → jH → Prop} {P16 : Int32 → jH → Prop} {P17 : jH → Prop} {P18 : Int32 → jH → Prop} {P19 : Int32 → jH → Prop} {P20 : Int32 → jH → Prop} {P21 : Int32 → jH → Prop} {P22 : Int32 → jH → Prop} {P23 : Int32 → jH → Prop} {P24 : jH → Prop} {P25 : Int32 → jH → Prop} {P26 : Int32 → jH → Prop} {P27 : Int32 → jH → Prop} {P28 : Int32 → jH → Prop} {P29 : Int32 → jH → Prop} {P30 : Int32 → jH → Prop} {P31 : jH → Prop} {P32 : Int32 → jH → Prop} {P33 : Int32 → jH → Prop} {P34 : Int32 → jH → Prop} {P35 : Int32 → jH → Prop} {P36 : Int32 → jH → Prop} {P37 : Int32 → jH → Prop} {P38 : jH → Prop} {P39 : Int32 → jH → Prop} {P40 : Int32 → jH → Prop} {P41 : Int32 → jH → Prop}
    (k1 : JM mX12_letters [.ref 159] (jG0 sc) h (jvoid sc P1))
    (k2 : ∀ h1 : jH, P1 h1 → ¬ l1 = 10 → JM mX12_clears [.ref 164, .int (1 + (6 * l1))] (jG0 sc) h1 (jvoid sc P2))
    (k3 : ∀ h1 : jH, P1 h1 → ¬ l1 = 10 → ∀ h2 : jH, P2 h2 → JM mX12_isWord [.ref 159, .ref 1012] (jG0 sc) h2 (jint sc P3))
    (k4 : ∀ h1 : jH, P1 h1 → ¬ l1 = 10 → ∀ h2 : jH, P2 h2 → ∀ (x3 : Int32) (h3 : jH), P3 x3 h3 → x3 = 0 → JM mX12_isWord [.ref 159, .ref 1013] (jG0 sc) h3 (jint sc P4))
    (k5 : ∀ h1 : jH, P1 h1 → ¬ l1 = 10 → ∀ h2 : jH, P2 h2 → ∀ (x3 : Int32) (h3 : jH), P3 x3 h3 → x3 = 0 → ∀ (x4 : Int32) (h4 : jH), P4 x4 h4 → x4 = 0 → JM mX12_isWord [.ref 159, .ref 1014] (jG0 sc) h4 (jint sc P5))
    (k6 : ∀ h1 : jH, P1 h1 → ¬ l1 = 10 → ∀ h2 : jH, P2 h2 → ∀ (x3 : Int32) (h3 : jH), P3 x3 h3 → x3 = 0 → ∀ (x4 : Int32) (h4 : jH), P4 x4 h4 → x4 = 0 → ∀ (x5 : Int32) (h5 : jH), P5 x5 h5 → x5 = 0 → JM mX12_isWord [.ref 159, .ref 1015] (jG0 sc) h5 (jint sc P6))
    (o1 : ∀ h1 : jH, P1 h1 → ¬ l1 = 10 → ∀ h2 : jH, P2 h2 → ∀ (x3 : Int32) (h3 : jH), P3 x3 h3 → x3 = 0 → ∀ (x4 : Int32) (h4 : jH), P4 x4 h4 → x4 = 0 → ∀ (x5 : Int32) (h5 : jH), P5 x5 h5 → x5 = 0 → ∀ (x6 : Int32) (h6 : jH), P6 x6 h6 → x6 = 0 → vp_in (1 + (6 * l1)) 61)
    (o2 : ∀ h1 : jH, P1 h1 → ¬ l1 = 10 → ∀ h2 : jH, P2 h2 → ∀ (x3 : Int32) (h3 : jH), P3 x3 h3 → x3 = 0 → ∀ (x4 : Int32) (h4 : jH), P4 x4 h4 → x4 = 0 → ∀ (x5 : Int32) (h5 : jH), P5 x5 h5 → x5 = 0 → ∀ (x6 : Int32) (h6 : jH), P6 x6 h6 → x6 = 0 → ¬ ((jput h6 164 ((1 + (6 * l1)).toNatClampNeg) 4) 164 ((1 + (6 * l1)).toNatClampNeg)) = 4 → vp_in (1 + (6 * l1)) 61)
    (o3 : ∀ h1 : jH, P1 h1 → ¬ l1 = 10 → ∀ h2 : jH, P2 h2 → ∀ (x3 : Int32) (h3 : jH), P3 x3 h3 → x3 = 0 → ∀ (x4 : Int32) (h4 : jH), P4 x4 h4 → x4 = 0 → ∀ (x5 : Int32) (h5 : jH), P5 x5 h5 → x5 = 0 → ∀ (x6 : Int32) (h6 : jH), P6 x6 h6 → x6 = 0 → ¬ ((jput h6 164 ((1 + (6 * l1)).toNatClampNeg) 4) 164 ((1 + (6 * l1)).toNatClampNeg)) = 4 → ¬ ((jput h6 164 ((1 + (6 * l1)).toNatClampNeg) 4) 164 ((1 + (6 * l1)).toNatClampNeg)) = 3 → vp_in (1 + (6 * l1)) 61)
    (k7 : ∀ h1 : jH, P1 h1 → ¬ l1 = 10 → ∀ h2 : jH, P2 h2 → ∀ (x3 : Int32) (h3 : jH), P3 x3 h3 → x3 = 0 → ∀ (x4 : Int32) (h4 : jH), P4 x4 h4 → x4 = 0 → ∀ (x5 : Int32) (h5 : jH), P5 x5 h5 → x5 = 0 → ∀ (x6 : Int32) (h6 : jH), P6 x6 h6 → x6 = 0 → ¬ ((jput h6 164 ((1 + (6 * l1)).toNatClampNeg) 4) 164 ((1 + (6 * l1)).toNatClampNeg)) = 4 → ¬ ((jput h6 164 ((1 + (6 * l1)).toNatClampNeg) 4) 164 ((1 + (6 * l1)).toNatClampNeg)) = 3 → ¬ ((jput h6 164 ((1 + (6 * l1)).toNatClampNeg) 4) 164 ((1 + (6 * l1)).toNatClampNeg)) = 0 → JM mX12_number [.ref 159, .int 1, .int 1] (jG0 sc) (jput h6 164 ((1 + (6 * l1)).toNatClampNeg) 4) (jint sc P7))
    (o4 : ∀ h1 : jH, P1 h1 → ¬ l1 = 10 → ∀ h2 : jH, P2 h2 → ∀ (x3 : Int32) (h3 : jH), P3 x3 h3 → x3 = 0 → ∀ (x4 : Int32) (h4 : jH), P4 x4 h4 → x4 = 0 → ∀ (x5 : Int32) (h5 : jH), P5 x5 h5 → x5 = 0 → ∀ (x6 : Int32) (h6 : jH), P6 x6 h6 → x6 = 0 → ¬ ((jput h6 164 ((1 + (6 * l1)).toNatClampNeg) 4) 164 ((1 + (6 * l1)).toNatClampNeg)) = 4 → ¬ ((jput h6 164 ((1 + (6 * l1)).toNatClampNeg) 4) 164 ((1 + (6 * l1)).toNatClampNeg)) = 3 → ¬ ((jput h6 164 ((1 + (6 * l1)).toNatClampNeg) 4) 164 ((1 + (6 * l1)).toNatClampNeg)) = 0 → ∀ (x7 : Int32) (h7 : jH), P7 x7 h7 → vp_in ((1 + (6 * l1)) + 5) 61)
    (v1 : ∀ h1 : jH, P1 h1 → ¬ l1 = 10 → ∀ h2 : jH, P2 h2 → ∀ (x3 : Int32) (h3 : jH), P3 x3 h3 → x3 = 0 → ∀ (x4 : Int32) (h4 : jH), P4 x4 h4 → x4 = 0 → ∀ (x5 : Int32) (h5 : jH), P5 x5 h5 → x5 = 0 → ∀ (x6 : Int32) (h6 : jH), P6 x6 h6 → x6 = 0 → ¬ ((jput h6 164 ((1 + (6 * l1)).toNatClampNeg) 4) 164 ((1 + (6 * l1)).toNatClampNeg)) = 4 → ¬ ((jput h6 164 ((1 + (6 * l1)).toNatClampNeg) 4) 164 ((1 + (6 * l1)).toNatClampNeg)) = 3 → ¬ ((jput h6 164 ((1 + (6 * l1)).toNatClampNeg) 4) 164 ((1 + (6 * l1)).toNatClampNeg)) = 0 → ∀ (x7 : Int32) (h7 : jH), P7 x7 h7 → ((jput h7 164 (((1 + (6 * l1)) + 5).toNatClampNeg) x7) 164 (((1 + (6 * l1)) + 5).toNatClampNeg)) ≤ 0 → Q (.inl (some (.int 0))) (jG0 sc) (jput h7 164 (((1 + (6 * l1)) + 5).toNatClampNeg) x7))
    (k8 : ∀ h1 : jH, P1 h1 → ¬ l1 = 10 → ∀ h2 : jH, P2 h2 → ∀ (x3 : Int32) (h3 : jH), P3 x3 h3 → x3 = 0 → ∀ (x4 : Int32) (h4 : jH), P4 x4 h4 → x4 = 0 → ∀ (x5 : Int32) (h5 : jH), P5 x5 h5 → x5 = 0 → ∀ (x6 : Int32) (h6 : jH), P6 x6 h6 → x6 = 0 → ¬ ((jput h6 164 ((1 + (6 * l1)).toNatClampNeg) 4) 164 ((1 + (6 * l1)).toNatClampNeg)) = 4 → ¬ ((jput h6 164 ((1 + (6 * l1)).toNatClampNeg) 4) 164 ((1 + (6 * l1)).toNatClampNeg)) = 3 → ¬ ((jput h6 164 ((1 + (6 * l1)).toNatClampNeg) 4) 164 ((1 + (6 * l1)).toNatClampNeg)) = 0 → ∀ (x7 : Int32) (h7 : jH), P7 x7 h7 → ¬ ((jput h7 164 (((1 + (6 * l1)) + 5).toNatClampNeg) x7) 164 (((1 + (6 * l1)) + 5).toNatClampNeg)) ≤ 0 → JM mX12_needs [.ref 159, .ref 1016] (jG0 sc) (jput h7 164 (((1 + (6 * l1)) + 5).toNatClampNeg) x7) (jint sc P8))
    (v2 : ∀ h1 : jH, P1 h1 → ¬ l1 = 10 → ∀ h2 : jH, P2 h2 → ∀ (x3 : Int32) (h3 : jH), P3 x3 h3 → x3 = 0 → ∀ (x4 : Int32) (h4 : jH), P4 x4 h4 → x4 = 0 → ∀ (x5 : Int32) (h5 : jH), P5 x5 h5 → x5 = 0 → ∀ (x6 : Int32) (h6 : jH), P6 x6 h6 → x6 = 0 → ¬ ((jput h6 164 ((1 + (6 * l1)).toNatClampNeg) 4) 164 ((1 + (6 * l1)).toNatClampNeg)) = 4 → ¬ ((jput h6 164 ((1 + (6 * l1)).toNatClampNeg) 4) 164 ((1 + (6 * l1)).toNatClampNeg)) = 3 → ¬ ((jput h6 164 ((1 + (6 * l1)).toNatClampNeg) 4) 164 ((1 + (6 * l1)).toNatClampNeg)) = 0 → ∀ (x7 : Int32) (h7 : jH), P7 x7 h7 → ¬ ((jput h7 164 (((1 + (6 * l1)) + 5).toNatClampNeg) x7) 164 (((1 + (6 * l1)) + 5).toNatClampNeg)) ≤ 0 → ∀ (x8 : Int32) (h8 : jH), P8 x8 h8 → x8 = 0 → Q (.inl (some (.int 0))) (jG0 sc) h8)
    (k9 : ∀ h1 : jH, P1 h1 → ¬ l1 = 10 → ∀ h2 : jH, P2 h2 → ∀ (x3 : Int32) (h3 : jH), P3 x3 h3 → x3 = 0 → ∀ (x4 : Int32) (h4 : jH), P4 x4 h4 → x4 = 0 → ∀ (x5 : Int32) (h5 : jH), P5 x5 h5 → x5 = 0 → ∀ (x6 : Int32) (h6 : jH), P6 x6 h6 → x6 = 0 → ¬ ((jput h6 164 ((1 + (6 * l1)).toNatClampNeg) 4) 164 ((1 + (6 * l1)).toNatClampNeg)) = 4 → ¬ ((jput h6 164 ((1 + (6 * l1)).toNatClampNeg) 4) 164 ((1 + (6 * l1)).toNatClampNeg)) = 3 → ¬ ((jput h6 164 ((1 + (6 * l1)).toNatClampNeg) 4) 164 ((1 + (6 * l1)).toNatClampNeg)) = 0 → ∀ (x7 : Int32) (h7 : jH), P7 x7 h7 → ¬ ((jput h7 164 (((1 + (6 * l1)) + 5).toNatClampNeg) x7) 164 (((1 + (6 * l1)) + 5).toNatClampNeg)) ≤ 0 → ∀ (x8 : Int32) (h8 : jH), P8 x8 h8 → ¬ x8 = 0 → JM mX12_readTest [.ref 159, .int (1 + (6 * l1))] (jG0 sc) h8 (jint sc P9))
    (v3 : ∀ h1 : jH, P1 h1 → ¬ l1 = 10 → ∀ h2 : jH, P2 h2 → ∀ (x3 : Int32) (h3 : jH), P3 x3 h3 → x3 = 0 → ∀ (x4 : Int32) (h4 : jH), P4 x4 h4 → x4 = 0 → ∀ (x5 : Int32) (h5 : jH), P5 x5 h5 → x5 = 0 → ∀ (x6 : Int32) (h6 : jH), P6 x6 h6 → x6 = 0 → ¬ ((jput h6 164 ((1 + (6 * l1)).toNatClampNeg) 4) 164 ((1 + (6 * l1)).toNatClampNeg)) = 4 → ¬ ((jput h6 164 ((1 + (6 * l1)).toNatClampNeg) 4) 164 ((1 + (6 * l1)).toNatClampNeg)) = 3 → ¬ ((jput h6 164 ((1 + (6 * l1)).toNatClampNeg) 4) 164 ((1 + (6 * l1)).toNatClampNeg)) = 0 → ∀ (x7 : Int32) (h7 : jH), P7 x7 h7 → ¬ ((jput h7 164 (((1 + (6 * l1)) + 5).toNatClampNeg) x7) 164 (((1 + (6 * l1)) + 5).toNatClampNeg)) ≤ 0 → ∀ (x8 : Int32) (h8 : jH), P8 x8 h8 → ¬ x8 = 0 → ∀ (x9 : Int32) (h9 : jH), P9 x9 h9 → x9 = 0 → Q (.inl (some (.int 0))) (jG0 sc) h9)
    (v4 : ∀ h1 : jH, P1 h1 → ¬ l1 = 10 → ∀ h2 : jH, P2 h2 → ∀ (x3 : Int32) (h3 : jH), P3 x3 h3 → x3 = 0 → ∀ (x4 : Int32) (h4 : jH), P4 x4 h4 → x4 = 0 → ∀ (x5 : Int32) (h5 : jH), P5 x5 h5 → x5 = 0 → ∀ (x6 : Int32) (h6 : jH), P6 x6 h6 → x6 = 0 → ¬ ((jput h6 164 ((1 + (6 * l1)).toNatClampNeg) 4) 164 ((1 + (6 * l1)).toNatClampNeg)) = 4 → ¬ ((jput h6 164 ((1 + (6 * l1)).toNatClampNeg) 4) 164 ((1 + (6 * l1)).toNatClampNeg)) = 3 → ¬ ((jput h6 164 ((1 + (6 * l1)).toNatClampNeg) 4) 164 ((1 + (6 * l1)).toNatClampNeg)) = 0 → ∀ (x7 : Int32) (h7 : jH), P7 x7 h7 → ¬ ((jput h7 164 (((1 + (6 * l1)) + 5).toNatClampNeg) x7) 164 (((1 + (6 * l1)) + 5).toNatClampNeg)) ≤ 0 → ∀ (x8 : Int32) (h8 : jH), P8 x8 h8 → ¬ x8 = 0 → ∀ (x9 : Int32) (h9 : jH), P9 x9 h9 → ¬ x9 = 0 → Q (.inl (some (.int 1))) (jG0 sc) h9)
    (k10 : ∀ h1 : jH, P1 h1 → ¬ l1 = 10 → ∀ h2 : jH, P2 h2 → ∀ (x3 : Int32) (h3 : jH), P3 x3 h3 → x3 = 0 → ∀ (x4 : Int32) (h4 : jH), P4 x4 h4 → x4 = 0 → ∀ (x5 : Int32) (h5 : jH), P5 x5 h5 → x5 = 0 → ∀ (x6 : Int32) (h6 : jH), P6 x6 h6 → x6 = 0 → ¬ ((jput h6 164 ((1 + (6 * l1)).toNatClampNeg) 4) 164 ((1 + (6 * l1)).toNatClampNeg)) = 4 → ¬ ((jput h6 164 ((1 + (6 * l1)).toNatClampNeg) 4) 164 ((1 + (6 * l1)).toNatClampNeg)) = 3 → ((jput h6 164 ((1 + (6 * l1)).toNatClampNeg) 4) 164 ((1 + (6 * l1)).toNatClampNeg)) = 0 → JM mX12_letters [.ref 159] (jG0 sc) (jput h6 164 ((1 + (6 * l1)).toNatClampNeg) 4) (jvoid sc P10))
    (v5 : ∀ h1 : jH, P1 h1 → ¬ l1 = 10 → ∀ h2 : jH, P2 h2 → ∀ (x3 : Int32) (h3 : jH), P3 x3 h3 → x3 = 0 → ∀ (x4 : Int32) (h4 : jH), P4 x4 h4 → x4 = 0 → ∀ (x5 : Int32) (h5 : jH), P5 x5 h5 → x5 = 0 → ∀ (x6 : Int32) (h6 : jH), P6 x6 h6 → x6 = 0 → ¬ ((jput h6 164 ((1 + (6 * l1)).toNatClampNeg) 4) 164 ((1 + (6 * l1)).toNatClampNeg)) = 4 → ¬ ((jput h6 164 ((1 + (6 * l1)).toNatClampNeg) 4) 164 ((1 + (6 * l1)).toNatClampNeg)) = 3 → ((jput h6 164 ((1 + (6 * l1)).toNatClampNeg) 4) 164 ((1 + (6 * l1)).toNatClampNeg)) = 0 → ∀ h10 : jH, P10 h10 → ¬ ((h10 159 6) - (h10 159 8)) = 1 → Q (.inl (some (.int 0))) (jG0 sc) h10)
    (o5 : ∀ h1 : jH, P1 h1 → ¬ l1 = 10 → ∀ h2 : jH, P2 h2 → ∀ (x3 : Int32) (h3 : jH), P3 x3 h3 → x3 = 0 → ∀ (x4 : Int32) (h4 : jH), P4 x4 h4 → x4 = 0 → ∀ (x5 : Int32) (h5 : jH), P5 x5 h5 → x5 = 0 → ∀ (x6 : Int32) (h6 : jH), P6 x6 h6 → x6 = 0 → ¬ ((jput h6 164 ((1 + (6 * l1)).toNatClampNeg) 4) 164 ((1 + (6 * l1)).toNatClampNeg)) = 4 → ¬ ((jput h6 164 ((1 + (6 * l1)).toNatClampNeg) 4) 164 ((1 + (6 * l1)).toNatClampNeg)) = 3 → ((jput h6 164 ((1 + (6 * l1)).toNatClampNeg) 4) 164 ((1 + (6 * l1)).toNatClampNeg)) = 0 → ∀ h10 : jH, P10 h10 → ((h10 159 6) - (h10 159 8)) = 1 → vp_in (h10 159 8) 400)
    (o6 : ∀ h1 : jH, P1 h1 → ¬ l1 = 10 → ∀ h2 : jH, P2 h2 → ∀ (x3 : Int32) (h3 : jH), P3 x3 h3 → x3 = 0 → ∀ (x4 : Int32) (h4 : jH), P4 x4 h4 → x4 = 0 → ∀ (x5 : Int32) (h5 : jH), P5 x5 h5 → x5 = 0 → ∀ (x6 : Int32) (h6 : jH), P6 x6 h6 → x6 = 0 → ¬ ((jput h6 164 ((1 + (6 * l1)).toNatClampNeg) 4) 164 ((1 + (6 * l1)).toNatClampNeg)) = 4 → ¬ ((jput h6 164 ((1 + (6 * l1)).toNatClampNeg) 4) 164 ((1 + (6 * l1)).toNatClampNeg)) = 3 → ((jput h6 164 ((1 + (6 * l1)).toNatClampNeg) 4) 164 ((1 + (6 * l1)).toNatClampNeg)) = 0 → ∀ h10 : jH, P10 h10 → ((h10 159 6) - (h10 159 8)) = 1 → (h10 162 ((h10 159 8).toNatClampNeg)) ≤ 100 → vp_in (h10 159 8) 400)
    (o7 : ∀ h1 : jH, P1 h1 → ¬ l1 = 10 → ∀ h2 : jH, P2 h2 → ∀ (x3 : Int32) (h3 : jH), P3 x3 h3 → x3 = 0 → ∀ (x4 : Int32) (h4 : jH), P4 x4 h4 → x4 = 0 → ∀ (x5 : Int32) (h5 : jH), P5 x5 h5 → x5 = 0 → ∀ (x6 : Int32) (h6 : jH), P6 x6 h6 → x6 = 0 → ¬ ((jput h6 164 ((1 + (6 * l1)).toNatClampNeg) 4) 164 ((1 + (6 * l1)).toNatClampNeg)) = 4 → ¬ ((jput h6 164 ((1 + (6 * l1)).toNatClampNeg) 4) 164 ((1 + (6 * l1)).toNatClampNeg)) = 3 → ((jput h6 164 ((1 + (6 * l1)).toNatClampNeg) 4) 164 ((1 + (6 * l1)).toNatClampNeg)) = 0 → ∀ h10 : jH, P10 h10 → ((h10 159 6) - (h10 159 8)) = 1 → (h10 162 ((h10 159 8).toNatClampNeg)) ≤ 100 → vp_in ((1 + (6 * l1)) + 1) 61)
    (k11 : ∀ h1 : jH, P1 h1 → ¬ l1 = 10 → ∀ h2 : jH, P2 h2 → ∀ (x3 : Int32) (h3 : jH), P3 x3 h3 → x3 = 0 → ∀ (x4 : Int32) (h4 : jH), P4 x4 h4 → x4 = 0 → ∀ (x5 : Int32) (h5 : jH), P5 x5 h5 → x5 = 0 → ∀ (x6 : Int32) (h6 : jH), P6 x6 h6 → x6 = 0 → ¬ ((jput h6 164 ((1 + (6 * l1)).toNatClampNeg) 4) 164 ((1 + (6 * l1)).toNatClampNeg)) = 4 → ¬ ((jput h6 164 ((1 + (6 * l1)).toNatClampNeg) 4) 164 ((1 + (6 * l1)).toNatClampNeg)) = 3 → ((jput h6 164 ((1 + (6 * l1)).toNatClampNeg) 4) 164 ((1 + (6 * l1)).toNatClampNeg)) = 0 → ∀ h10 : jH, P10 h10 → ((h10 159 6) - (h10 159 8)) = 1 → (h10 162 ((h10 159 8).toNatClampNeg)) ≤ 100 → JM mX12_sign [.ref 159, .int 61] (jG0 sc) (jput h10 164 (((1 + (6 * l1)) + 1).toNatClampNeg) ((h10 162 ((h10 159 8).toNatClampNeg)) - 97)) (jint sc P11))
    (v6 : ∀ h1 : jH, P1 h1 → ¬ l1 = 10 → ∀ h2 : jH, P2 h2 → ∀ (x3 : Int32) (h3 : jH), P3 x3 h3 → x3 = 0 → ∀ (x4 : Int32) (h4 : jH), P4 x4 h4 → x4 = 0 → ∀ (x5 : Int32) (h5 : jH), P5 x5 h5 → x5 = 0 → ∀ (x6 : Int32) (h6 : jH), P6 x6 h6 → x6 = 0 → ¬ ((jput h6 164 ((1 + (6 * l1)).toNatClampNeg) 4) 164 ((1 + (6 * l1)).toNatClampNeg)) = 4 → ¬ ((jput h6 164 ((1 + (6 * l1)).toNatClampNeg) 4) 164 ((1 + (6 * l1)).toNatClampNeg)) = 3 → ((jput h6 164 ((1 + (6 * l1)).toNatClampNeg) 4) 164 ((1 + (6 * l1)).toNatClampNeg)) = 0 → ∀ h10 : jH, P10 h10 → ((h10 159 6) - (h10 159 8)) = 1 → (h10 162 ((h10 159 8).toNatClampNeg)) ≤ 100 → ∀ (x11 : Int32) (h11 : jH), P11 x11 h11 → x11 = 0 → Q (.inl (some (.int 0))) (jG0 sc) h11)
    (k12 : ∀ h1 : jH, P1 h1 → ¬ l1 = 10 → ∀ h2 : jH, P2 h2 → ∀ (x3 : Int32) (h3 : jH), P3 x3 h3 → x3 = 0 → ∀ (x4 : Int32) (h4 : jH), P4 x4 h4 → x4 = 0 → ∀ (x5 : Int32) (h5 : jH), P5 x5 h5 → x5 = 0 → ∀ (x6 : Int32) (h6 : jH), P6 x6 h6 → x6 = 0 → ¬ ((jput h6 164 ((1 + (6 * l1)).toNatClampNeg) 4) 164 ((1 + (6 * l1)).toNatClampNeg)) = 4 → ¬ ((jput h6 164 ((1 + (6 * l1)).toNatClampNeg) 4) 164 ((1 + (6 * l1)).toNatClampNeg)) = 3 → ((jput h6 164 ((1 + (6 * l1)).toNatClampNeg) 4) 164 ((1 + (6 * l1)).toNatClampNeg)) = 0 → ∀ h10 : jH, P10 h10 → ((h10 159 6) - (h10 159 8)) = 1 → (h10 162 ((h10 159 8).toNatClampNeg)) ≤ 100 → ∀ (x11 : Int32) (h11 : jH), P11 x11 h11 → ¬ x11 = 0 → JM mX12_readSum [.ref 159, .int (1 + (6 * l1))] (jG0 sc) h11 (jint sc P12))
    (v7 : ∀ h1 : jH, P1 h1 → ¬ l1 = 10 → ∀ h2 : jH, P2 h2 → ∀ (x3 : Int32) (h3 : jH), P3 x3 h3 → x3 = 0 → ∀ (x4 : Int32) (h4 : jH), P4 x4 h4 → x4 = 0 → ∀ (x5 : Int32) (h5 : jH), P5 x5 h5 → x5 = 0 → ∀ (x6 : Int32) (h6 : jH), P6 x6 h6 → x6 = 0 → ¬ ((jput h6 164 ((1 + (6 * l1)).toNatClampNeg) 4) 164 ((1 + (6 * l1)).toNatClampNeg)) = 4 → ¬ ((jput h6 164 ((1 + (6 * l1)).toNatClampNeg) 4) 164 ((1 + (6 * l1)).toNatClampNeg)) = 3 → ((jput h6 164 ((1 + (6 * l1)).toNatClampNeg) 4) 164 ((1 + (6 * l1)).toNatClampNeg)) = 0 → ∀ h10 : jH, P10 h10 → ((h10 159 6) - (h10 159 8)) = 1 → (h10 162 ((h10 159 8).toNatClampNeg)) ≤ 100 → ∀ (x11 : Int32) (h11 : jH), P11 x11 h11 → ¬ x11 = 0 → ∀ (x12 : Int32) (h12 : jH), P12 x12 h12 → x12 = 0 → Q (.inl (some (.int 0))) (jG0 sc) h12)
    (v8 : ∀ h1 : jH, P1 h1 → ¬ l1 = 10 → ∀ h2 : jH, P2 h2 → ∀ (x3 : Int32) (h3 : jH), P3 x3 h3 → x3 = 0 → ∀ (x4 : Int32) (h4 : jH), P4 x4 h4 → x4 = 0 → ∀ (x5 : Int32) (h5 : jH), P5 x5 h5 → x5 = 0 → ∀ (x6 : Int32) (h6 : jH), P6 x6 h6 → x6 = 0 → ¬ ((jput h6 164 ((1 + (6 * l1)).toNatClampNeg) 4) 164 ((1 + (6 * l1)).toNatClampNeg)) = 4 → ¬ ((jput h6 164 ((1 + (6 * l1)).toNatClampNeg) 4) 164 ((1 + (6 * l1)).toNatClampNeg)) = 3 → ((jput h6 164 ((1 + (6 * l1)).toNatClampNeg) 4) 164 ((1 + (6 * l1)).toNatClampNeg)) = 0 → ∀ h10 : jH, P10 h10 → ((h10 159 6) - (h10 159 8)) = 1 → (h10 162 ((h10 159 8).toNatClampNeg)) ≤ 100 → ∀ (x11 : Int32) (h11 : jH), P11 x11 h11 → ¬ x11 = 0 → ∀ (x12 : Int32) (h12 : jH), P12 x12 h12 → ¬ x12 = 0 → Q (.inl (some (.int 1))) (jG0 sc) h12)
    (v9 : ∀ h1 : jH, P1 h1 → ¬ l1 = 10 → ∀ h2 : jH, P2 h2 → ∀ (x3 : Int32) (h3 : jH), P3 x3 h3 → x3 = 0 → ∀ (x4 : Int32) (h4 : jH), P4 x4 h4 → x4 = 0 → ∀ (x5 : Int32) (h5 : jH), P5 x5 h5 → x5 = 0 → ∀ (x6 : Int32) (h6 : jH), P6 x6 h6 → x6 = 0 → ¬ ((jput h6 164 ((1 + (6 * l1)).toNatClampNeg) 4) 164 ((1 + (6 * l1)).toNatClampNeg)) = 4 → ¬ ((jput h6 164 ((1 + (6 * l1)).toNatClampNeg) 4) 164 ((1 + (6 * l1)).toNatClampNeg)) = 3 → ((jput h6 164 ((1 + (6 * l1)).toNatClampNeg) 4) 164 ((1 + (6 * l1)).toNatClampNeg)) = 0 → ∀ h10 : jH, P10 h10 → ((h10 159 6) - (h10 159 8)) = 1 → ¬ (h10 162 ((h10 159 8).toNatClampNeg)) ≤ 100 → Q (.inl (some (.int 0))) (jG0 sc) h10)
    (k13 : ∀ h1 : jH, P1 h1 → ¬ l1 = 10 → ∀ h2 : jH, P2 h2 → ∀ (x3 : Int32) (h3 : jH), P3 x3 h3 → x3 = 0 → ∀ (x4 : Int32) (h4 : jH), P4 x4 h4 → x4 = 0 → ∀ (x5 : Int32) (h5 : jH), P5 x5 h5 → x5 = 0 → ∀ (x6 : Int32) (h6 : jH), P6 x6 h6 → x6 = 0 → ¬ ((jput h6 164 ((1 + (6 * l1)).toNatClampNeg) 4) 164 ((1 + (6 * l1)).toNatClampNeg)) = 4 → ((jput h6 164 ((1 + (6 * l1)).toNatClampNeg) 4) 164 ((1 + (6 * l1)).toNatClampNeg)) = 3 → JM mX12_readSum [.ref 159, .int (1 + (6 * l1))] (jG0 sc) (jput h6 164 ((1 + (6 * l1)).toNatClampNeg) 4) (jint sc P13))
    (o8 : ∀ h1 : jH, P1 h1 → ¬ l1 = 10 → ∀ h2 : jH, P2 h2 → ∀ (x3 : Int32) (h3 : jH), P3 x3 h3 → x3 = 0 → ∀ (x4 : Int32) (h4 : jH), P4 x4 h4 → x4 = 0 → ∀ (x5 : Int32) (h5 : jH), P5 x5 h5 → x5 = 0 → ∀ (x6 : Int32) (h6 : jH), P6 x6 h6 → x6 = 0 → ¬ ((jput h6 164 ((1 + (6 * l1)).toNatClampNeg) 4) 164 ((1 + (6 * l1)).toNatClampNeg)) = 4 → ((jput h6 164 ((1 + (6 * l1)).toNatClampNeg) 4) 164 ((1 + (6 * l1)).toNatClampNeg)) = 3 → ∀ (x13 : Int32) (h13 : jH), P13 x13 h13 → x13 = 0 ∨ x13 = 1)
    (v10 : ∀ h1 : jH, P1 h1 → ¬ l1 = 10 → ∀ h2 : jH, P2 h2 → ∀ (x3 : Int32) (h3 : jH), P3 x3 h3 → x3 = 0 → ∀ (x4 : Int32) (h4 : jH), P4 x4 h4 → x4 = 0 → ∀ (x5 : Int32) (h5 : jH), P5 x5 h5 → x5 = 0 → ∀ (x6 : Int32) (h6 : jH), P6 x6 h6 → x6 = 0 → ¬ ((jput h6 164 ((1 + (6 * l1)).toNatClampNeg) 4) 164 ((1 + (6 * l1)).toNatClampNeg)) = 4 → ((jput h6 164 ((1 + (6 * l1)).toNatClampNeg) 4) 164 ((1 + (6 * l1)).toNatClampNeg)) = 3 → ∀ (x13 : Int32) (h13 : jH), P13 x13 h13 → Q (.inl (some (.int x13))) (jG0 sc) h13)
    (v11 : ∀ h1 : jH, P1 h1 → ¬ l1 = 10 → ∀ h2 : jH, P2 h2 → ∀ (x3 : Int32) (h3 : jH), P3 x3 h3 → x3 = 0 → ∀ (x4 : Int32) (h4 : jH), P4 x4 h4 → x4 = 0 → ∀ (x5 : Int32) (h5 : jH), P5 x5 h5 → x5 = 0 → ∀ (x6 : Int32) (h6 : jH), P6 x6 h6 → x6 = 0 → ((jput h6 164 ((1 + (6 * l1)).toNatClampNeg) 4) 164 ((1 + (6 * l1)).toNatClampNeg)) = 4 → Q (.inl (some (.int 0))) (jG0 sc) (jput h6 164 ((1 + (6 * l1)).toNatClampNeg) 4))
    (o9 : ∀ h1 : jH, P1 h1 → ¬ l1 = 10 → ∀ h2 : jH, P2 h2 → ∀ (x3 : Int32) (h3 : jH), P3 x3 h3 → x3 = 0 → ∀ (x4 : Int32) (h4 : jH), P4 x4 h4 → x4 = 0 → ∀ (x5 : Int32) (h5 : jH), P5 x5 h5 → x5 = 0 → ∀ (x6 : Int32) (h6 : jH), P6 x6 h6 → ¬ x6 = 0 → vp_in (1 + (6 * l1)) 61)
    (o10 : ∀ h1 : jH, P1 h1 → ¬ l1 = 10 → ∀ h2 : jH, P2 h2 → ∀ (x3 : Int32) (h3 : jH), P3 x3 h3 → x3 = 0 → ∀ (x4 : Int32) (h4 : jH), P4 x4 h4 → x4 = 0 → ∀ (x5 : Int32) (h5 : jH), P5 x5 h5 → x5 = 0 → ∀ (x6 : Int32) (h6 : jH), P6 x6 h6 → ¬ x6 = 0 → ¬ ((jput h6 164 ((1 + (6 * l1)).toNatClampNeg) 3) 164 ((1 + (6 * l1)).toNatClampNeg)) = 4 → vp_in (1 + (6 * l1)) 61)
    (o11 : ∀ h1 : jH, P1 h1 → ¬ l1 = 10 → ∀ h2 : jH, P2 h2 → ∀ (x3 : Int32) (h3 : jH), P3 x3 h3 → x3 = 0 → ∀ (x4 : Int32) (h4 : jH), P4 x4 h4 → x4 = 0 → ∀ (x5 : Int32) (h5 : jH), P5 x5 h5 → x5 = 0 → ∀ (x6 : Int32) (h6 : jH), P6 x6 h6 → ¬ x6 = 0 → ¬ ((jput h6 164 ((1 + (6 * l1)).toNatClampNeg) 3) 164 ((1 + (6 * l1)).toNatClampNeg)) = 4 → ¬ ((jput h6 164 ((1 + (6 * l1)).toNatClampNeg) 3) 164 ((1 + (6 * l1)).toNatClampNeg)) = 3 → vp_in (1 + (6 * l1)) 61)
    (k14 : ∀ h1 : jH, P1 h1 → ¬ l1 = 10 → ∀ h2 : jH, P2 h2 → ∀ (x3 : Int32) (h3 : jH), P3 x3 h3 → x3 = 0 → ∀ (x4 : Int32) (h4 : jH), P4 x4 h4 → x4 = 0 → ∀ (x5 : Int32) (h5 : jH), P5 x5 h5 → x5 = 0 → ∀ (x6 : Int32) (h6 : jH), P6 x6 h6 → ¬ x6 = 0 → ¬ ((jput h6 164 ((1 + (6 * l1)).toNatClampNeg) 3) 164 ((1 + (6 * l1)).toNatClampNeg)) = 4 → ¬ ((jput h6 164 ((1 + (6 * l1)).toNatClampNeg) 3) 164 ((1 + (6 * l1)).toNatClampNeg)) = 3 → ¬ ((jput h6 164 ((1 + (6 * l1)).toNatClampNeg) 3) 164 ((1 + (6 * l1)).toNatClampNeg)) = 0 → JM mX12_number [.ref 159, .int 1, .int 1] (jG0 sc) (jput h6 164 ((1 + (6 * l1)).toNatClampNeg) 3) (jint sc P14))
    (o12 : ∀ h1 : jH, P1 h1 → ¬ l1 = 10 → ∀ h2 : jH, P2 h2 → ∀ (x3 : Int32) (h3 : jH), P3 x3 h3 → x3 = 0 → ∀ (x4 : Int32) (h4 : jH), P4 x4 h4 → x4 = 0 → ∀ (x5 : Int32) (h5 : jH), P5 x5 h5 → x5 = 0 → ∀ (x6 : Int32) (h6 : jH), P6 x6 h6 → ¬ x6 = 0 → ¬ ((jput h6 164 ((1 + (6 * l1)).toNatClampNeg) 3) 164 ((1 + (6 * l1)).toNatClampNeg)) = 4 → ¬ ((jput h6 164 ((1 + (6 * l1)).toNatClampNeg) 3) 164 ((1 + (6 * l1)).toNatClampNeg)) = 3 → ¬ ((jput h6 164 ((1 + (6 * l1)).toNatClampNeg) 3) 164 ((1 + (6 * l1)).toNatClampNeg)) = 0 → ∀ (x14 : Int32) (h14 : jH), P14 x14 h14 → vp_in ((1 + (6 * l1)) + 5) 61)
    (v12 : ∀ h1 : jH, P1 h1 → ¬ l1 = 10 → ∀ h2 : jH, P2 h2 → ∀ (x3 : Int32) (h3 : jH), P3 x3 h3 → x3 = 0 → ∀ (x4 : Int32) (h4 : jH), P4 x4 h4 → x4 = 0 → ∀ (x5 : Int32) (h5 : jH), P5 x5 h5 → x5 = 0 → ∀ (x6 : Int32) (h6 : jH), P6 x6 h6 → ¬ x6 = 0 → ¬ ((jput h6 164 ((1 + (6 * l1)).toNatClampNeg) 3) 164 ((1 + (6 * l1)).toNatClampNeg)) = 4 → ¬ ((jput h6 164 ((1 + (6 * l1)).toNatClampNeg) 3) 164 ((1 + (6 * l1)).toNatClampNeg)) = 3 → ¬ ((jput h6 164 ((1 + (6 * l1)).toNatClampNeg) 3) 164 ((1 + (6 * l1)).toNatClampNeg)) = 0 → ∀ (x14 : Int32) (h14 : jH), P14 x14 h14 → ((jput h14 164 (((1 + (6 * l1)) + 5).toNatClampNeg) x14) 164 (((1 + (6 * l1)) + 5).toNatClampNeg)) ≤ 0 → Q (.inl (some (.int 0))) (jG0 sc) (jput h14 164 (((1 + (6 * l1)) + 5).toNatClampNeg) x14))
    (k15 : ∀ h1 : jH, P1 h1 → ¬ l1 = 10 → ∀ h2 : jH, P2 h2 → ∀ (x3 : Int32) (h3 : jH), P3 x3 h3 → x3 = 0 → ∀ (x4 : Int32) (h4 : jH), P4 x4 h4 → x4 = 0 → ∀ (x5 : Int32) (h5 : jH), P5 x5 h5 → x5 = 0 → ∀ (x6 : Int32) (h6 : jH), P6 x6 h6 → ¬ x6 = 0 → ¬ ((jput h6 164 ((1 + (6 * l1)).toNatClampNeg) 3) 164 ((1 + (6 * l1)).toNatClampNeg)) = 4 → ¬ ((jput h6 164 ((1 + (6 * l1)).toNatClampNeg) 3) 164 ((1 + (6 * l1)).toNatClampNeg)) = 3 → ¬ ((jput h6 164 ((1 + (6 * l1)).toNatClampNeg) 3) 164 ((1 + (6 * l1)).toNatClampNeg)) = 0 → ∀ (x14 : Int32) (h14 : jH), P14 x14 h14 → ¬ ((jput h14 164 (((1 + (6 * l1)) + 5).toNatClampNeg) x14) 164 (((1 + (6 * l1)) + 5).toNatClampNeg)) ≤ 0 → JM mX12_needs [.ref 159, .ref 1016] (jG0 sc) (jput h14 164 (((1 + (6 * l1)) + 5).toNatClampNeg) x14) (jint sc P15))
    (v13 : ∀ h1 : jH, P1 h1 → ¬ l1 = 10 → ∀ h2 : jH, P2 h2 → ∀ (x3 : Int32) (h3 : jH), P3 x3 h3 → x3 = 0 → ∀ (x4 : Int32) (h4 : jH), P4 x4 h4 → x4 = 0 → ∀ (x5 : Int32) (h5 : jH), P5 x5 h5 → x5 = 0 → ∀ (x6 : Int32) (h6 : jH), P6 x6 h6 → ¬ x6 = 0 → ¬ ((jput h6 164 ((1 + (6 * l1)).toNatClampNeg) 3) 164 ((1 + (6 * l1)).toNatClampNeg)) = 4 → ¬ ((jput h6 164 ((1 + (6 * l1)).toNatClampNeg) 3) 164 ((1 + (6 * l1)).toNatClampNeg)) = 3 → ¬ ((jput h6 164 ((1 + (6 * l1)).toNatClampNeg) 3) 164 ((1 + (6 * l1)).toNatClampNeg)) = 0 → ∀ (x14 : Int32) (h14 : jH), P14 x14 h14 → ¬ ((jput h14 164 (((1 + (6 * l1)) + 5).toNatClampNeg) x14) 164 (((1 + (6 * l1)) + 5).toNatClampNeg)) ≤ 0 → ∀ (x15 : Int32) (h15 : jH), P15 x15 h15 → x15 = 0 → Q (.inl (some (.int 0))) (jG0 sc) h15)
    (k16 : ∀ h1 : jH, P1 h1 → ¬ l1 = 10 → ∀ h2 : jH, P2 h2 → ∀ (x3 : Int32) (h3 : jH), P3 x3 h3 → x3 = 0 → ∀ (x4 : Int32) (h4 : jH), P4 x4 h4 → x4 = 0 → ∀ (x5 : Int32) (h5 : jH), P5 x5 h5 → x5 = 0 → ∀ (x6 : Int32) (h6 : jH), P6 x6 h6 → ¬ x6 = 0 → ¬ ((jput h6 164 ((1 + (6 * l1)).toNatClampNeg) 3) 164 ((1 + (6 * l1)).toNatClampNeg)) = 4 → ¬ ((jput h6 164 ((1 + (6 * l1)).toNatClampNeg) 3) 164 ((1 + (6 * l1)).toNatClampNeg)) = 3 → ¬ ((jput h6 164 ((1 + (6 * l1)).toNatClampNeg) 3) 164 ((1 + (6 * l1)).toNatClampNeg)) = 0 → ∀ (x14 : Int32) (h14 : jH), P14 x14 h14 → ¬ ((jput h14 164 (((1 + (6 * l1)) + 5).toNatClampNeg) x14) 164 (((1 + (6 * l1)) + 5).toNatClampNeg)) ≤ 0 → ∀ (x15 : Int32) (h15 : jH), P15 x15 h15 → ¬ x15 = 0 → JM mX12_readTest [.ref 159, .int (1 + (6 * l1))] (jG0 sc) h15 (jint sc P16))
    (v14 : ∀ h1 : jH, P1 h1 → ¬ l1 = 10 → ∀ h2 : jH, P2 h2 → ∀ (x3 : Int32) (h3 : jH), P3 x3 h3 → x3 = 0 → ∀ (x4 : Int32) (h4 : jH), P4 x4 h4 → x4 = 0 → ∀ (x5 : Int32) (h5 : jH), P5 x5 h5 → x5 = 0 → ∀ (x6 : Int32) (h6 : jH), P6 x6 h6 → ¬ x6 = 0 → ¬ ((jput h6 164 ((1 + (6 * l1)).toNatClampNeg) 3) 164 ((1 + (6 * l1)).toNatClampNeg)) = 4 → ¬ ((jput h6 164 ((1 + (6 * l1)).toNatClampNeg) 3) 164 ((1 + (6 * l1)).toNatClampNeg)) = 3 → ¬ ((jput h6 164 ((1 + (6 * l1)).toNatClampNeg) 3) 164 ((1 + (6 * l1)).toNatClampNeg)) = 0 → ∀ (x14 : Int32) (h14 : jH), P14 x14 h14 → ¬ ((jput h14 164 (((1 + (6 * l1)) + 5).toNatClampNeg) x14) 164 (((1 + (6 * l1)) + 5).toNatClampNeg)) ≤ 0 → ∀ (x15 : Int32) (h15 : jH), P15 x15 h15 → ¬ x15 = 0 → ∀ (x16 : Int32) (h16 : jH), P16 x16 h16 → x16 = 0 → Q (.inl (some (.int 0))) (jG0 sc) h16)
    (v15 : ∀ h1 : jH, P1 h1 → ¬ l1 = 10 → ∀ h2 : jH, P2 h2 → ∀ (x3 : Int32) (h3 : jH), P3 x3 h3 → x3 = 0 → ∀ (x4 : Int32) (h4 : jH), P4 x4 h4 → x4 = 0 → ∀ (x5 : Int32) (h5 : jH), P5 x5 h5 → x5 = 0 → ∀ (x6 : Int32) (h6 : jH), P6 x6 h6 → ¬ x6 = 0 → ¬ ((jput h6 164 ((1 + (6 * l1)).toNatClampNeg) 3) 164 ((1 + (6 * l1)).toNatClampNeg)) = 4 → ¬ ((jput h6 164 ((1 + (6 * l1)).toNatClampNeg) 3) 164 ((1 + (6 * l1)).toNatClampNeg)) = 3 → ¬ ((jput h6 164 ((1 + (6 * l1)).toNatClampNeg) 3) 164 ((1 + (6 * l1)).toNatClampNeg)) = 0 → ∀ (x14 : Int32) (h14 : jH), P14 x14 h14 → ¬ ((jput h14 164 (((1 + (6 * l1)) + 5).toNatClampNeg) x14) 164 (((1 + (6 * l1)) + 5).toNatClampNeg)) ≤ 0 → ∀ (x15 : Int32) (h15 : jH), P15 x15 h15 → ¬ x15 = 0 → ∀ (x16 : Int32) (h16 : jH), P16 x16 h16 → ¬ x16 = 0 → Q (.inl (some (.int 1))) (jG0 sc) h16)
    (k17 : ∀ h1 : jH, P1 h1 → ¬ l1 = 10 → ∀ h2 : jH, P2 h2 → ∀ (x3 : Int32) (h3 : jH), P3 x3 h3 → x3 = 0 → ∀ (x4 : Int32) (h4 : jH), P4 x4 h4 → x4 = 0 → ∀ (x5 : Int32) (h5 : jH), P5 x5 h5 → x5 = 0 → ∀ (x6 : Int32) (h6 : jH), P6 x6 h6 → ¬ x6 = 0 → ¬ ((jput h6 164 ((1 + (6 * l1)).toNatClampNeg) 3) 164 ((1 + (6 * l1)).toNatClampNeg)) = 4 → ¬ ((jput h6 164 ((1 + (6 * l1)).toNatClampNeg) 3) 164 ((1 + (6 * l1)).toNatClampNeg)) = 3 → ((jput h6 164 ((1 + (6 * l1)).toNatClampNeg) 3) 164 ((1 + (6 * l1)).toNatClampNeg)) = 0 → JM mX12_letters [.ref 159] (jG0 sc) (jput h6 164 ((1 + (6 * l1)).toNatClampNeg) 3) (jvoid sc P17))
    (v16 : ∀ h1 : jH, P1 h1 → ¬ l1 = 10 → ∀ h2 : jH, P2 h2 → ∀ (x3 : Int32) (h3 : jH), P3 x3 h3 → x3 = 0 → ∀ (x4 : Int32) (h4 : jH), P4 x4 h4 → x4 = 0 → ∀ (x5 : Int32) (h5 : jH), P5 x5 h5 → x5 = 0 → ∀ (x6 : Int32) (h6 : jH), P6 x6 h6 → ¬ x6 = 0 → ¬ ((jput h6 164 ((1 + (6 * l1)).toNatClampNeg) 3) 164 ((1 + (6 * l1)).toNatClampNeg)) = 4 → ¬ ((jput h6 164 ((1 + (6 * l1)).toNatClampNeg) 3) 164 ((1 + (6 * l1)).toNatClampNeg)) = 3 → ((jput h6 164 ((1 + (6 * l1)).toNatClampNeg) 3) 164 ((1 + (6 * l1)).toNatClampNeg)) = 0 → ∀ h17 : jH, P17 h17 → ¬ ((h17 159 6) - (h17 159 8)) = 1 → Q (.inl (some (.int 0))) (jG0 sc) h17)
    (o13 : ∀ h1 : jH, P1 h1 → ¬ l1 = 10 → ∀ h2 : jH, P2 h2 → ∀ (x3 : Int32) (h3 : jH), P3 x3 h3 → x3 = 0 → ∀ (x4 : Int32) (h4 : jH), P4 x4 h4 → x4 = 0 → ∀ (x5 : Int32) (h5 : jH), P5 x5 h5 → x5 = 0 → ∀ (x6 : Int32) (h6 : jH), P6 x6 h6 → ¬ x6 = 0 → ¬ ((jput h6 164 ((1 + (6 * l1)).toNatClampNeg) 3) 164 ((1 + (6 * l1)).toNatClampNeg)) = 4 → ¬ ((jput h6 164 ((1 + (6 * l1)).toNatClampNeg) 3) 164 ((1 + (6 * l1)).toNatClampNeg)) = 3 → ((jput h6 164 ((1 + (6 * l1)).toNatClampNeg) 3) 164 ((1 + (6 * l1)).toNatClampNeg)) = 0 → ∀ h17 : jH, P17 h17 → ((h17 159 6) - (h17 159 8)) = 1 → vp_in (h17 159 8) 400)
    (o14 : ∀ h1 : jH, P1 h1 → ¬ l1 = 10 → ∀ h2 : jH, P2 h2 → ∀ (x3 : Int32) (h3 : jH), P3 x3 h3 → x3 = 0 → ∀ (x4 : Int32) (h4 : jH), P4 x4 h4 → x4 = 0 → ∀ (x5 : Int32) (h5 : jH), P5 x5 h5 → x5 = 0 → ∀ (x6 : Int32) (h6 : jH), P6 x6 h6 → ¬ x6 = 0 → ¬ ((jput h6 164 ((1 + (6 * l1)).toNatClampNeg) 3) 164 ((1 + (6 * l1)).toNatClampNeg)) = 4 → ¬ ((jput h6 164 ((1 + (6 * l1)).toNatClampNeg) 3) 164 ((1 + (6 * l1)).toNatClampNeg)) = 3 → ((jput h6 164 ((1 + (6 * l1)).toNatClampNeg) 3) 164 ((1 + (6 * l1)).toNatClampNeg)) = 0 → ∀ h17 : jH, P17 h17 → ((h17 159 6) - (h17 159 8)) = 1 → (h17 162 ((h17 159 8).toNatClampNeg)) ≤ 100 → vp_in (h17 159 8) 400)
    (o15 : ∀ h1 : jH, P1 h1 → ¬ l1 = 10 → ∀ h2 : jH, P2 h2 → ∀ (x3 : Int32) (h3 : jH), P3 x3 h3 → x3 = 0 → ∀ (x4 : Int32) (h4 : jH), P4 x4 h4 → x4 = 0 → ∀ (x5 : Int32) (h5 : jH), P5 x5 h5 → x5 = 0 → ∀ (x6 : Int32) (h6 : jH), P6 x6 h6 → ¬ x6 = 0 → ¬ ((jput h6 164 ((1 + (6 * l1)).toNatClampNeg) 3) 164 ((1 + (6 * l1)).toNatClampNeg)) = 4 → ¬ ((jput h6 164 ((1 + (6 * l1)).toNatClampNeg) 3) 164 ((1 + (6 * l1)).toNatClampNeg)) = 3 → ((jput h6 164 ((1 + (6 * l1)).toNatClampNeg) 3) 164 ((1 + (6 * l1)).toNatClampNeg)) = 0 → ∀ h17 : jH, P17 h17 → ((h17 159 6) - (h17 159 8)) = 1 → (h17 162 ((h17 159 8).toNatClampNeg)) ≤ 100 → vp_in ((1 + (6 * l1)) + 1) 61)
    (k18 : ∀ h1 : jH, P1 h1 → ¬ l1 = 10 → ∀ h2 : jH, P2 h2 → ∀ (x3 : Int32) (h3 : jH), P3 x3 h3 → x3 = 0 → ∀ (x4 : Int32) (h4 : jH), P4 x4 h4 → x4 = 0 → ∀ (x5 : Int32) (h5 : jH), P5 x5 h5 → x5 = 0 → ∀ (x6 : Int32) (h6 : jH), P6 x6 h6 → ¬ x6 = 0 → ¬ ((jput h6 164 ((1 + (6 * l1)).toNatClampNeg) 3) 164 ((1 + (6 * l1)).toNatClampNeg)) = 4 → ¬ ((jput h6 164 ((1 + (6 * l1)).toNatClampNeg) 3) 164 ((1 + (6 * l1)).toNatClampNeg)) = 3 → ((jput h6 164 ((1 + (6 * l1)).toNatClampNeg) 3) 164 ((1 + (6 * l1)).toNatClampNeg)) = 0 → ∀ h17 : jH, P17 h17 → ((h17 159 6) - (h17 159 8)) = 1 → (h17 162 ((h17 159 8).toNatClampNeg)) ≤ 100 → JM mX12_sign [.ref 159, .int 61] (jG0 sc) (jput h17 164 (((1 + (6 * l1)) + 1).toNatClampNeg) ((h17 162 ((h17 159 8).toNatClampNeg)) - 97)) (jint sc P18))
    (v17 : ∀ h1 : jH, P1 h1 → ¬ l1 = 10 → ∀ h2 : jH, P2 h2 → ∀ (x3 : Int32) (h3 : jH), P3 x3 h3 → x3 = 0 → ∀ (x4 : Int32) (h4 : jH), P4 x4 h4 → x4 = 0 → ∀ (x5 : Int32) (h5 : jH), P5 x5 h5 → x5 = 0 → ∀ (x6 : Int32) (h6 : jH), P6 x6 h6 → ¬ x6 = 0 → ¬ ((jput h6 164 ((1 + (6 * l1)).toNatClampNeg) 3) 164 ((1 + (6 * l1)).toNatClampNeg)) = 4 → ¬ ((jput h6 164 ((1 + (6 * l1)).toNatClampNeg) 3) 164 ((1 + (6 * l1)).toNatClampNeg)) = 3 → ((jput h6 164 ((1 + (6 * l1)).toNatClampNeg) 3) 164 ((1 + (6 * l1)).toNatClampNeg)) = 0 → ∀ h17 : jH, P17 h17 → ((h17 159 6) - (h17 159 8)) = 1 → (h17 162 ((h17 159 8).toNatClampNeg)) ≤ 100 → ∀ (x18 : Int32) (h18 : jH), P18 x18 h18 → x18 = 0 → Q (.inl (some (.int 0))) (jG0 sc) h18)
    (k19 : ∀ h1 : jH, P1 h1 → ¬ l1 = 10 → ∀ h2 : jH, P2 h2 → ∀ (x3 : Int32) (h3 : jH), P3 x3 h3 → x3 = 0 → ∀ (x4 : Int32) (h4 : jH), P4 x4 h4 → x4 = 0 → ∀ (x5 : Int32) (h5 : jH), P5 x5 h5 → x5 = 0 → ∀ (x6 : Int32) (h6 : jH), P6 x6 h6 → ¬ x6 = 0 → ¬ ((jput h6 164 ((1 + (6 * l1)).toNatClampNeg) 3) 164 ((1 + (6 * l1)).toNatClampNeg)) = 4 → ¬ ((jput h6 164 ((1 + (6 * l1)).toNatClampNeg) 3) 164 ((1 + (6 * l1)).toNatClampNeg)) = 3 → ((jput h6 164 ((1 + (6 * l1)).toNatClampNeg) 3) 164 ((1 + (6 * l1)).toNatClampNeg)) = 0 → ∀ h17 : jH, P17 h17 → ((h17 159 6) - (h17 159 8)) = 1 → (h17 162 ((h17 159 8).toNatClampNeg)) ≤ 100 → ∀ (x18 : Int32) (h18 : jH), P18 x18 h18 → ¬ x18 = 0 → JM mX12_readSum [.ref 159, .int (1 + (6 * l1))] (jG0 sc) h18 (jint sc P19))
    (v18 : ∀ h1 : jH, P1 h1 → ¬ l1 = 10 → ∀ h2 : jH, P2 h2 → ∀ (x3 : Int32) (h3 : jH), P3 x3 h3 → x3 = 0 → ∀ (x4 : Int32) (h4 : jH), P4 x4 h4 → x4 = 0 → ∀ (x5 : Int32) (h5 : jH), P5 x5 h5 → x5 = 0 → ∀ (x6 : Int32) (h6 : jH), P6 x6 h6 → ¬ x6 = 0 → ¬ ((jput h6 164 ((1 + (6 * l1)).toNatClampNeg) 3) 164 ((1 + (6 * l1)).toNatClampNeg)) = 4 → ¬ ((jput h6 164 ((1 + (6 * l1)).toNatClampNeg) 3) 164 ((1 + (6 * l1)).toNatClampNeg)) = 3 → ((jput h6 164 ((1 + (6 * l1)).toNatClampNeg) 3) 164 ((1 + (6 * l1)).toNatClampNeg)) = 0 → ∀ h17 : jH, P17 h17 → ((h17 159 6) - (h17 159 8)) = 1 → (h17 162 ((h17 159 8).toNatClampNeg)) ≤ 100 → ∀ (x18 : Int32) (h18 : jH), P18 x18 h18 → ¬ x18 = 0 → ∀ (x19 : Int32) (h19 : jH), P19 x19 h19 → x19 = 0 → Q (.inl (some (.int 0))) (jG0 sc) h19)
    (v19 : ∀ h1 : jH, P1 h1 → ¬ l1 = 10 → ∀ h2 : jH, P2 h2 → ∀ (x3 : Int32) (h3 : jH), P3 x3 h3 → x3 = 0 → ∀ (x4 : Int32) (h4 : jH), P4 x4 h4 → x4 = 0 → ∀ (x5 : Int32) (h5 : jH), P5 x5 h5 → x5 = 0 → ∀ (x6 : Int32) (h6 : jH), P6 x6 h6 → ¬ x6 = 0 → ¬ ((jput h6 164 ((1 + (6 * l1)).toNatClampNeg) 3) 164 ((1 + (6 * l1)).toNatClampNeg)) = 4 → ¬ ((jput h6 164 ((1 + (6 * l1)).toNatClampNeg) 3) 164 ((1 + (6 * l1)).toNatClampNeg)) = 3 → ((jput h6 164 ((1 + (6 * l1)).toNatClampNeg) 3) 164 ((1 + (6 * l1)).toNatClampNeg)) = 0 → ∀ h17 : jH, P17 h17 → ((h17 159 6) - (h17 159 8)) = 1 → (h17 162 ((h17 159 8).toNatClampNeg)) ≤ 100 → ∀ (x18 : Int32) (h18 : jH), P18 x18 h18 → ¬ x18 = 0 → ∀ (x19 : Int32) (h19 : jH), P19 x19 h19 → ¬ x19 = 0 → Q (.inl (some (.int 1))) (jG0 sc) h19)
    (v20 : ∀ h1 : jH, P1 h1 → ¬ l1 = 10 → ∀ h2 : jH, P2 h2 → ∀ (x3 : Int32) (h3 : jH), P3 x3 h3 → x3 = 0 → ∀ (x4 : Int32) (h4 : jH), P4 x4 h4 → x4 = 0 → ∀ (x5 : Int32) (h5 : jH), P5 x5 h5 → x5 = 0 → ∀ (x6 : Int32) (h6 : jH), P6 x6 h6 → ¬ x6 = 0 → ¬ ((jput h6 164 ((1 + (6 * l1)).toNatClampNeg) 3) 164 ((1 + (6 * l1)).toNatClampNeg)) = 4 → ¬ ((jput h6 164 ((1 + (6 * l1)).toNatClampNeg) 3) 164 ((1 + (6 * l1)).toNatClampNeg)) = 3 → ((jput h6 164 ((1 + (6 * l1)).toNatClampNeg) 3) 164 ((1 + (6 * l1)).toNatClampNeg)) = 0 → ∀ h17 : jH, P17 h17 → ((h17 159 6) - (h17 159 8)) = 1 → ¬ (h17 162 ((h17 159 8).toNatClampNeg)) ≤ 100 → Q (.inl (some (.int 0))) (jG0 sc) h17)
    (k20 : ∀ h1 : jH, P1 h1 → ¬ l1 = 10 → ∀ h2 : jH, P2 h2 → ∀ (x3 : Int32) (h3 : jH), P3 x3 h3 → x3 = 0 → ∀ (x4 : Int32) (h4 : jH), P4 x4 h4 → x4 = 0 → ∀ (x5 : Int32) (h5 : jH), P5 x5 h5 → x5 = 0 → ∀ (x6 : Int32) (h6 : jH), P6 x6 h6 → ¬ x6 = 0 → ¬ ((jput h6 164 ((1 + (6 * l1)).toNatClampNeg) 3) 164 ((1 + (6 * l1)).toNatClampNeg)) = 4 → ((jput h6 164 ((1 + (6 * l1)).toNatClampNeg) 3) 164 ((1 + (6 * l1)).toNatClampNeg)) = 3 → JM mX12_readSum [.ref 159, .int (1 + (6 * l1))] (jG0 sc) (jput h6 164 ((1 + (6 * l1)).toNatClampNeg) 3) (jint sc P20))
    (o16 : ∀ h1 : jH, P1 h1 → ¬ l1 = 10 → ∀ h2 : jH, P2 h2 → ∀ (x3 : Int32) (h3 : jH), P3 x3 h3 → x3 = 0 → ∀ (x4 : Int32) (h4 : jH), P4 x4 h4 → x4 = 0 → ∀ (x5 : Int32) (h5 : jH), P5 x5 h5 → x5 = 0 → ∀ (x6 : Int32) (h6 : jH), P6 x6 h6 → ¬ x6 = 0 → ¬ ((jput h6 164 ((1 + (6 * l1)).toNatClampNeg) 3) 164 ((1 + (6 * l1)).toNatClampNeg)) = 4 → ((jput h6 164 ((1 + (6 * l1)).toNatClampNeg) 3) 164 ((1 + (6 * l1)).toNatClampNeg)) = 3 → ∀ (x20 : Int32) (h20 : jH), P20 x20 h20 → x20 = 0 ∨ x20 = 1)
    (v21 : ∀ h1 : jH, P1 h1 → ¬ l1 = 10 → ∀ h2 : jH, P2 h2 → ∀ (x3 : Int32) (h3 : jH), P3 x3 h3 → x3 = 0 → ∀ (x4 : Int32) (h4 : jH), P4 x4 h4 → x4 = 0 → ∀ (x5 : Int32) (h5 : jH), P5 x5 h5 → x5 = 0 → ∀ (x6 : Int32) (h6 : jH), P6 x6 h6 → ¬ x6 = 0 → ¬ ((jput h6 164 ((1 + (6 * l1)).toNatClampNeg) 3) 164 ((1 + (6 * l1)).toNatClampNeg)) = 4 → ((jput h6 164 ((1 + (6 * l1)).toNatClampNeg) 3) 164 ((1 + (6 * l1)).toNatClampNeg)) = 3 → ∀ (x20 : Int32) (h20 : jH), P20 x20 h20 → Q (.inl (some (.int x20))) (jG0 sc) h20)
    (v22 : ∀ h1 : jH, P1 h1 → ¬ l1 = 10 → ∀ h2 : jH, P2 h2 → ∀ (x3 : Int32) (h3 : jH), P3 x3 h3 → x3 = 0 → ∀ (x4 : Int32) (h4 : jH), P4 x4 h4 → x4 = 0 → ∀ (x5 : Int32) (h5 : jH), P5 x5 h5 → x5 = 0 → ∀ (x6 : Int32) (h6 : jH), P6 x6 h6 → ¬ x6 = 0 → ((jput h6 164 ((1 + (6 * l1)).toNatClampNeg) 3) 164 ((1 + (6 * l1)).toNatClampNeg)) = 4 → Q (.inl (some (.int 0))) (jG0 sc) (jput h6 164 ((1 + (6 * l1)).toNatClampNeg) 3))
    (o17 : ∀ h1 : jH, P1 h1 → ¬ l1 = 10 → ∀ h2 : jH, P2 h2 → ∀ (x3 : Int32) (h3 : jH), P3 x3 h3 → x3 = 0 → ∀ (x4 : Int32) (h4 : jH), P4 x4 h4 → x4 = 0 → ∀ (x5 : Int32) (h5 : jH), P5 x5 h5 → ¬ x5 = 0 → vp_in (1 + (6 * l1)) 61)
    (o18 : ∀ h1 : jH, P1 h1 → ¬ l1 = 10 → ∀ h2 : jH, P2 h2 → ∀ (x3 : Int32) (h3 : jH), P3 x3 h3 → x3 = 0 → ∀ (x4 : Int32) (h4 : jH), P4 x4 h4 → x4 = 0 → ∀ (x5 : Int32) (h5 : jH), P5 x5 h5 → ¬ x5 = 0 → ¬ ((jput h5 164 ((1 + (6 * l1)).toNatClampNeg) 2) 164 ((1 + (6 * l1)).toNatClampNeg)) = 4 → vp_in (1 + (6 * l1)) 61)
    (o19 : ∀ h1 : jH, P1 h1 → ¬ l1 = 10 → ∀ h2 : jH, P2 h2 → ∀ (x3 : Int32) (h3 : jH), P3 x3 h3 → x3 = 0 → ∀ (x4 : Int32) (h4 : jH), P4 x4 h4 → x4 = 0 → ∀ (x5 : Int32) (h5 : jH), P5 x5 h5 → ¬ x5 = 0 → ¬ ((jput h5 164 ((1 + (6 * l1)).toNatClampNeg) 2) 164 ((1 + (6 * l1)).toNatClampNeg)) = 4 → ¬ ((jput h5 164 ((1 + (6 * l1)).toNatClampNeg) 2) 164 ((1 + (6 * l1)).toNatClampNeg)) = 3 → vp_in (1 + (6 * l1)) 61)
    (k21 : ∀ h1 : jH, P1 h1 → ¬ l1 = 10 → ∀ h2 : jH, P2 h2 → ∀ (x3 : Int32) (h3 : jH), P3 x3 h3 → x3 = 0 → ∀ (x4 : Int32) (h4 : jH), P4 x4 h4 → x4 = 0 → ∀ (x5 : Int32) (h5 : jH), P5 x5 h5 → ¬ x5 = 0 → ¬ ((jput h5 164 ((1 + (6 * l1)).toNatClampNeg) 2) 164 ((1 + (6 * l1)).toNatClampNeg)) = 4 → ¬ ((jput h5 164 ((1 + (6 * l1)).toNatClampNeg) 2) 164 ((1 + (6 * l1)).toNatClampNeg)) = 3 → ¬ ((jput h5 164 ((1 + (6 * l1)).toNatClampNeg) 2) 164 ((1 + (6 * l1)).toNatClampNeg)) = 0 → JM mX12_number [.ref 159, .int 1, .int 1] (jG0 sc) (jput h5 164 ((1 + (6 * l1)).toNatClampNeg) 2) (jint sc P21))
    (o20 : ∀ h1 : jH, P1 h1 → ¬ l1 = 10 → ∀ h2 : jH, P2 h2 → ∀ (x3 : Int32) (h3 : jH), P3 x3 h3 → x3 = 0 → ∀ (x4 : Int32) (h4 : jH), P4 x4 h4 → x4 = 0 → ∀ (x5 : Int32) (h5 : jH), P5 x5 h5 → ¬ x5 = 0 → ¬ ((jput h5 164 ((1 + (6 * l1)).toNatClampNeg) 2) 164 ((1 + (6 * l1)).toNatClampNeg)) = 4 → ¬ ((jput h5 164 ((1 + (6 * l1)).toNatClampNeg) 2) 164 ((1 + (6 * l1)).toNatClampNeg)) = 3 → ¬ ((jput h5 164 ((1 + (6 * l1)).toNatClampNeg) 2) 164 ((1 + (6 * l1)).toNatClampNeg)) = 0 → ∀ (x21 : Int32) (h21 : jH), P21 x21 h21 → vp_in ((1 + (6 * l1)) + 5) 61)
    (v23 : ∀ h1 : jH, P1 h1 → ¬ l1 = 10 → ∀ h2 : jH, P2 h2 → ∀ (x3 : Int32) (h3 : jH), P3 x3 h3 → x3 = 0 → ∀ (x4 : Int32) (h4 : jH), P4 x4 h4 → x4 = 0 → ∀ (x5 : Int32) (h5 : jH), P5 x5 h5 → ¬ x5 = 0 → ¬ ((jput h5 164 ((1 + (6 * l1)).toNatClampNeg) 2) 164 ((1 + (6 * l1)).toNatClampNeg)) = 4 → ¬ ((jput h5 164 ((1 + (6 * l1)).toNatClampNeg) 2) 164 ((1 + (6 * l1)).toNatClampNeg)) = 3 → ¬ ((jput h5 164 ((1 + (6 * l1)).toNatClampNeg) 2) 164 ((1 + (6 * l1)).toNatClampNeg)) = 0 → ∀ (x21 : Int32) (h21 : jH), P21 x21 h21 → ((jput h21 164 (((1 + (6 * l1)) + 5).toNatClampNeg) x21) 164 (((1 + (6 * l1)) + 5).toNatClampNeg)) ≤ 0 → Q (.inl (some (.int 0))) (jG0 sc) (jput h21 164 (((1 + (6 * l1)) + 5).toNatClampNeg) x21))
    (k22 : ∀ h1 : jH, P1 h1 → ¬ l1 = 10 → ∀ h2 : jH, P2 h2 → ∀ (x3 : Int32) (h3 : jH), P3 x3 h3 → x3 = 0 → ∀ (x4 : Int32) (h4 : jH), P4 x4 h4 → x4 = 0 → ∀ (x5 : Int32) (h5 : jH), P5 x5 h5 → ¬ x5 = 0 → ¬ ((jput h5 164 ((1 + (6 * l1)).toNatClampNeg) 2) 164 ((1 + (6 * l1)).toNatClampNeg)) = 4 → ¬ ((jput h5 164 ((1 + (6 * l1)).toNatClampNeg) 2) 164 ((1 + (6 * l1)).toNatClampNeg)) = 3 → ¬ ((jput h5 164 ((1 + (6 * l1)).toNatClampNeg) 2) 164 ((1 + (6 * l1)).toNatClampNeg)) = 0 → ∀ (x21 : Int32) (h21 : jH), P21 x21 h21 → ¬ ((jput h21 164 (((1 + (6 * l1)) + 5).toNatClampNeg) x21) 164 (((1 + (6 * l1)) + 5).toNatClampNeg)) ≤ 0 → JM mX12_needs [.ref 159, .ref 1016] (jG0 sc) (jput h21 164 (((1 + (6 * l1)) + 5).toNatClampNeg) x21) (jint sc P22))
    (v24 : ∀ h1 : jH, P1 h1 → ¬ l1 = 10 → ∀ h2 : jH, P2 h2 → ∀ (x3 : Int32) (h3 : jH), P3 x3 h3 → x3 = 0 → ∀ (x4 : Int32) (h4 : jH), P4 x4 h4 → x4 = 0 → ∀ (x5 : Int32) (h5 : jH), P5 x5 h5 → ¬ x5 = 0 → ¬ ((jput h5 164 ((1 + (6 * l1)).toNatClampNeg) 2) 164 ((1 + (6 * l1)).toNatClampNeg)) = 4 → ¬ ((jput h5 164 ((1 + (6 * l1)).toNatClampNeg) 2) 164 ((1 + (6 * l1)).toNatClampNeg)) = 3 → ¬ ((jput h5 164 ((1 + (6 * l1)).toNatClampNeg) 2) 164 ((1 + (6 * l1)).toNatClampNeg)) = 0 → ∀ (x21 : Int32) (h21 : jH), P21 x21 h21 → ¬ ((jput h21 164 (((1 + (6 * l1)) + 5).toNatClampNeg) x21) 164 (((1 + (6 * l1)) + 5).toNatClampNeg)) ≤ 0 → ∀ (x22 : Int32) (h22 : jH), P22 x22 h22 → x22 = 0 → Q (.inl (some (.int 0))) (jG0 sc) h22)
    (k23 : ∀ h1 : jH, P1 h1 → ¬ l1 = 10 → ∀ h2 : jH, P2 h2 → ∀ (x3 : Int32) (h3 : jH), P3 x3 h3 → x3 = 0 → ∀ (x4 : Int32) (h4 : jH), P4 x4 h4 → x4 = 0 → ∀ (x5 : Int32) (h5 : jH), P5 x5 h5 → ¬ x5 = 0 → ¬ ((jput h5 164 ((1 + (6 * l1)).toNatClampNeg) 2) 164 ((1 + (6 * l1)).toNatClampNeg)) = 4 → ¬ ((jput h5 164 ((1 + (6 * l1)).toNatClampNeg) 2) 164 ((1 + (6 * l1)).toNatClampNeg)) = 3 → ¬ ((jput h5 164 ((1 + (6 * l1)).toNatClampNeg) 2) 164 ((1 + (6 * l1)).toNatClampNeg)) = 0 → ∀ (x21 : Int32) (h21 : jH), P21 x21 h21 → ¬ ((jput h21 164 (((1 + (6 * l1)) + 5).toNatClampNeg) x21) 164 (((1 + (6 * l1)) + 5).toNatClampNeg)) ≤ 0 → ∀ (x22 : Int32) (h22 : jH), P22 x22 h22 → ¬ x22 = 0 → JM mX12_readTest [.ref 159, .int (1 + (6 * l1))] (jG0 sc) h22 (jint sc P23))
    (v25 : ∀ h1 : jH, P1 h1 → ¬ l1 = 10 → ∀ h2 : jH, P2 h2 → ∀ (x3 : Int32) (h3 : jH), P3 x3 h3 → x3 = 0 → ∀ (x4 : Int32) (h4 : jH), P4 x4 h4 → x4 = 0 → ∀ (x5 : Int32) (h5 : jH), P5 x5 h5 → ¬ x5 = 0 → ¬ ((jput h5 164 ((1 + (6 * l1)).toNatClampNeg) 2) 164 ((1 + (6 * l1)).toNatClampNeg)) = 4 → ¬ ((jput h5 164 ((1 + (6 * l1)).toNatClampNeg) 2) 164 ((1 + (6 * l1)).toNatClampNeg)) = 3 → ¬ ((jput h5 164 ((1 + (6 * l1)).toNatClampNeg) 2) 164 ((1 + (6 * l1)).toNatClampNeg)) = 0 → ∀ (x21 : Int32) (h21 : jH), P21 x21 h21 → ¬ ((jput h21 164 (((1 + (6 * l1)) + 5).toNatClampNeg) x21) 164 (((1 + (6 * l1)) + 5).toNatClampNeg)) ≤ 0 → ∀ (x22 : Int32) (h22 : jH), P22 x22 h22 → ¬ x22 = 0 → ∀ (x23 : Int32) (h23 : jH), P23 x23 h23 → x23 = 0 → Q (.inl (some (.int 0))) (jG0 sc) h23)
    (v26 : ∀ h1 : jH, P1 h1 → ¬ l1 = 10 → ∀ h2 : jH, P2 h2 → ∀ (x3 : Int32) (h3 : jH), P3 x3 h3 → x3 = 0 → ∀ (x4 : Int32) (h4 : jH), P4 x4 h4 → x4 = 0 → ∀ (x5 : Int32) (h5 : jH), P5 x5 h5 → ¬ x5 = 0 → ¬ ((jput h5 164 ((1 + (6 * l1)).toNatClampNeg) 2) 164 ((1 + (6 * l1)).toNatClampNeg)) = 4 → ¬ ((jput h5 164 ((1 + (6 * l1)).toNatClampNeg) 2) 164 ((1 + (6 * l1)).toNatClampNeg)) = 3 → ¬ ((jput h5 164 ((1 + (6 * l1)).toNatClampNeg) 2) 164 ((1 + (6 * l1)).toNatClampNeg)) = 0 → ∀ (x21 : Int32) (h21 : jH), P21 x21 h21 → ¬ ((jput h21 164 (((1 + (6 * l1)) + 5).toNatClampNeg) x21) 164 (((1 + (6 * l1)) + 5).toNatClampNeg)) ≤ 0 → ∀ (x22 : Int32) (h22 : jH), P22 x22 h22 → ¬ x22 = 0 → ∀ (x23 : Int32) (h23 : jH), P23 x23 h23 → ¬ x23 = 0 → Q (.inl (some (.int 1))) (jG0 sc) h23)
    (k24 : ∀ h1 : jH, P1 h1 → ¬ l1 = 10 → ∀ h2 : jH, P2 h2 → ∀ (x3 : Int32) (h3 : jH), P3 x3 h3 → x3 = 0 → ∀ (x4 : Int32) (h4 : jH), P4 x4 h4 → x4 = 0 → ∀ (x5 : Int32) (h5 : jH), P5 x5 h5 → ¬ x5 = 0 → ¬ ((jput h5 164 ((1 + (6 * l1)).toNatClampNeg) 2) 164 ((1 + (6 * l1)).toNatClampNeg)) = 4 → ¬ ((jput h5 164 ((1 + (6 * l1)).toNatClampNeg) 2) 164 ((1 + (6 * l1)).toNatClampNeg)) = 3 → ((jput h5 164 ((1 + (6 * l1)).toNatClampNeg) 2) 164 ((1 + (6 * l1)).toNatClampNeg)) = 0 → JM mX12_letters [.ref 159] (jG0 sc) (jput h5 164 ((1 + (6 * l1)).toNatClampNeg) 2) (jvoid sc P24))
    (v27 : ∀ h1 : jH, P1 h1 → ¬ l1 = 10 → ∀ h2 : jH, P2 h2 → ∀ (x3 : Int32) (h3 : jH), P3 x3 h3 → x3 = 0 → ∀ (x4 : Int32) (h4 : jH), P4 x4 h4 → x4 = 0 → ∀ (x5 : Int32) (h5 : jH), P5 x5 h5 → ¬ x5 = 0 → ¬ ((jput h5 164 ((1 + (6 * l1)).toNatClampNeg) 2) 164 ((1 + (6 * l1)).toNatClampNeg)) = 4 → ¬ ((jput h5 164 ((1 + (6 * l1)).toNatClampNeg) 2) 164 ((1 + (6 * l1)).toNatClampNeg)) = 3 → ((jput h5 164 ((1 + (6 * l1)).toNatClampNeg) 2) 164 ((1 + (6 * l1)).toNatClampNeg)) = 0 → ∀ h24 : jH, P24 h24 → ¬ ((h24 159 6) - (h24 159 8)) = 1 → Q (.inl (some (.int 0))) (jG0 sc) h24)
    (o21 : ∀ h1 : jH, P1 h1 → ¬ l1 = 10 → ∀ h2 : jH, P2 h2 → ∀ (x3 : Int32) (h3 : jH), P3 x3 h3 → x3 = 0 → ∀ (x4 : Int32) (h4 : jH), P4 x4 h4 → x4 = 0 → ∀ (x5 : Int32) (h5 : jH), P5 x5 h5 → ¬ x5 = 0 → ¬ ((jput h5 164 ((1 + (6 * l1)).toNatClampNeg) 2) 164 ((1 + (6 * l1)).toNatClampNeg)) = 4 → ¬ ((jput h5 164 ((1 + (6 * l1)).toNatClampNeg) 2) 164 ((1 + (6 * l1)).toNatClampNeg)) = 3 → ((jput h5 164 ((1 + (6 * l1)).toNatClampNeg) 2) 164 ((1 + (6 * l1)).toNatClampNeg)) = 0 → ∀ h24 : jH, P24 h24 → ((h24 159 6) - (h24 159 8)) = 1 → vp_in (h24 159 8) 400)
    (o22 : ∀ h1 : jH, P1 h1 → ¬ l1 = 10 → ∀ h2 : jH, P2 h2 → ∀ (x3 : Int32) (h3 : jH), P3 x3 h3 → x3 = 0 → ∀ (x4 : Int32) (h4 : jH), P4 x4 h4 → x4 = 0 → ∀ (x5 : Int32) (h5 : jH), P5 x5 h5 → ¬ x5 = 0 → ¬ ((jput h5 164 ((1 + (6 * l1)).toNatClampNeg) 2) 164 ((1 + (6 * l1)).toNatClampNeg)) = 4 → ¬ ((jput h5 164 ((1 + (6 * l1)).toNatClampNeg) 2) 164 ((1 + (6 * l1)).toNatClampNeg)) = 3 → ((jput h5 164 ((1 + (6 * l1)).toNatClampNeg) 2) 164 ((1 + (6 * l1)).toNatClampNeg)) = 0 → ∀ h24 : jH, P24 h24 → ((h24 159 6) - (h24 159 8)) = 1 → (h24 162 ((h24 159 8).toNatClampNeg)) ≤ 100 → vp_in (h24 159 8) 400)
    (o23 : ∀ h1 : jH, P1 h1 → ¬ l1 = 10 → ∀ h2 : jH, P2 h2 → ∀ (x3 : Int32) (h3 : jH), P3 x3 h3 → x3 = 0 → ∀ (x4 : Int32) (h4 : jH), P4 x4 h4 → x4 = 0 → ∀ (x5 : Int32) (h5 : jH), P5 x5 h5 → ¬ x5 = 0 → ¬ ((jput h5 164 ((1 + (6 * l1)).toNatClampNeg) 2) 164 ((1 + (6 * l1)).toNatClampNeg)) = 4 → ¬ ((jput h5 164 ((1 + (6 * l1)).toNatClampNeg) 2) 164 ((1 + (6 * l1)).toNatClampNeg)) = 3 → ((jput h5 164 ((1 + (6 * l1)).toNatClampNeg) 2) 164 ((1 + (6 * l1)).toNatClampNeg)) = 0 → ∀ h24 : jH, P24 h24 → ((h24 159 6) - (h24 159 8)) = 1 → (h24 162 ((h24 159 8).toNatClampNeg)) ≤ 100 → vp_in ((1 + (6 * l1)) + 1) 61)
    (k25 : ∀ h1 : jH, P1 h1 → ¬ l1 = 10 → ∀ h2 : jH, P2 h2 → ∀ (x3 : Int32) (h3 : jH), P3 x3 h3 → x3 = 0 → ∀ (x4 : Int32) (h4 : jH), P4 x4 h4 → x4 = 0 → ∀ (x5 : Int32) (h5 : jH), P5 x5 h5 → ¬ x5 = 0 → ¬ ((jput h5 164 ((1 + (6 * l1)).toNatClampNeg) 2) 164 ((1 + (6 * l1)).toNatClampNeg)) = 4 → ¬ ((jput h5 164 ((1 + (6 * l1)).toNatClampNeg) 2) 164 ((1 + (6 * l1)).toNatClampNeg)) = 3 → ((jput h5 164 ((1 + (6 * l1)).toNatClampNeg) 2) 164 ((1 + (6 * l1)).toNatClampNeg)) = 0 → ∀ h24 : jH, P24 h24 → ((h24 159 6) - (h24 159 8)) = 1 → (h24 162 ((h24 159 8).toNatClampNeg)) ≤ 100 → JM mX12_sign [.ref 159, .int 61] (jG0 sc) (jput h24 164 (((1 + (6 * l1)) + 1).toNatClampNeg) ((h24 162 ((h24 159 8).toNatClampNeg)) - 97)) (jint sc P25))
    (v28 : ∀ h1 : jH, P1 h1 → ¬ l1 = 10 → ∀ h2 : jH, P2 h2 → ∀ (x3 : Int32) (h3 : jH), P3 x3 h3 → x3 = 0 → ∀ (x4 : Int32) (h4 : jH), P4 x4 h4 → x4 = 0 → ∀ (x5 : Int32) (h5 : jH), P5 x5 h5 → ¬ x5 = 0 → ¬ ((jput h5 164 ((1 + (6 * l1)).toNatClampNeg) 2) 164 ((1 + (6 * l1)).toNatClampNeg)) = 4 → ¬ ((jput h5 164 ((1 + (6 * l1)).toNatClampNeg) 2) 164 ((1 + (6 * l1)).toNatClampNeg)) = 3 → ((jput h5 164 ((1 + (6 * l1)).toNatClampNeg) 2) 164 ((1 + (6 * l1)).toNatClampNeg)) = 0 → ∀ h24 : jH, P24 h24 → ((h24 159 6) - (h24 159 8)) = 1 → (h24 162 ((h24 159 8).toNatClampNeg)) ≤ 100 → ∀ (x25 : Int32) (h25 : jH), P25 x25 h25 → x25 = 0 → Q (.inl (some (.int 0))) (jG0 sc) h25)
    (k26 : ∀ h1 : jH, P1 h1 → ¬ l1 = 10 → ∀ h2 : jH, P2 h2 → ∀ (x3 : Int32) (h3 : jH), P3 x3 h3 → x3 = 0 → ∀ (x4 : Int32) (h4 : jH), P4 x4 h4 → x4 = 0 → ∀ (x5 : Int32) (h5 : jH), P5 x5 h5 → ¬ x5 = 0 → ¬ ((jput h5 164 ((1 + (6 * l1)).toNatClampNeg) 2) 164 ((1 + (6 * l1)).toNatClampNeg)) = 4 → ¬ ((jput h5 164 ((1 + (6 * l1)).toNatClampNeg) 2) 164 ((1 + (6 * l1)).toNatClampNeg)) = 3 → ((jput h5 164 ((1 + (6 * l1)).toNatClampNeg) 2) 164 ((1 + (6 * l1)).toNatClampNeg)) = 0 → ∀ h24 : jH, P24 h24 → ((h24 159 6) - (h24 159 8)) = 1 → (h24 162 ((h24 159 8).toNatClampNeg)) ≤ 100 → ∀ (x25 : Int32) (h25 : jH), P25 x25 h25 → ¬ x25 = 0 → JM mX12_readSum [.ref 159, .int (1 + (6 * l1))] (jG0 sc) h25 (jint sc P26))
    (v29 : ∀ h1 : jH, P1 h1 → ¬ l1 = 10 → ∀ h2 : jH, P2 h2 → ∀ (x3 : Int32) (h3 : jH), P3 x3 h3 → x3 = 0 → ∀ (x4 : Int32) (h4 : jH), P4 x4 h4 → x4 = 0 → ∀ (x5 : Int32) (h5 : jH), P5 x5 h5 → ¬ x5 = 0 → ¬ ((jput h5 164 ((1 + (6 * l1)).toNatClampNeg) 2) 164 ((1 + (6 * l1)).toNatClampNeg)) = 4 → ¬ ((jput h5 164 ((1 + (6 * l1)).toNatClampNeg) 2) 164 ((1 + (6 * l1)).toNatClampNeg)) = 3 → ((jput h5 164 ((1 + (6 * l1)).toNatClampNeg) 2) 164 ((1 + (6 * l1)).toNatClampNeg)) = 0 → ∀ h24 : jH, P24 h24 → ((h24 159 6) - (h24 159 8)) = 1 → (h24 162 ((h24 159 8).toNatClampNeg)) ≤ 100 → ∀ (x25 : Int32) (h25 : jH), P25 x25 h25 → ¬ x25 = 0 → ∀ (x26 : Int32) (h26 : jH), P26 x26 h26 → x26 = 0 → Q (.inl (some (.int 0))) (jG0 sc) h26)
    (v30 : ∀ h1 : jH, P1 h1 → ¬ l1 = 10 → ∀ h2 : jH, P2 h2 → ∀ (x3 : Int32) (h3 : jH), P3 x3 h3 → x3 = 0 → ∀ (x4 : Int32) (h4 : jH), P4 x4 h4 → x4 = 0 → ∀ (x5 : Int32) (h5 : jH), P5 x5 h5 → ¬ x5 = 0 → ¬ ((jput h5 164 ((1 + (6 * l1)).toNatClampNeg) 2) 164 ((1 + (6 * l1)).toNatClampNeg)) = 4 → ¬ ((jput h5 164 ((1 + (6 * l1)).toNatClampNeg) 2) 164 ((1 + (6 * l1)).toNatClampNeg)) = 3 → ((jput h5 164 ((1 + (6 * l1)).toNatClampNeg) 2) 164 ((1 + (6 * l1)).toNatClampNeg)) = 0 → ∀ h24 : jH, P24 h24 → ((h24 159 6) - (h24 159 8)) = 1 → (h24 162 ((h24 159 8).toNatClampNeg)) ≤ 100 → ∀ (x25 : Int32) (h25 : jH), P25 x25 h25 → ¬ x25 = 0 → ∀ (x26 : Int32) (h26 : jH), P26 x26 h26 → ¬ x26 = 0 → Q (.inl (some (.int 1))) (jG0 sc) h26)
    (v31 : ∀ h1 : jH, P1 h1 → ¬ l1 = 10 → ∀ h2 : jH, P2 h2 → ∀ (x3 : Int32) (h3 : jH), P3 x3 h3 → x3 = 0 → ∀ (x4 : Int32) (h4 : jH), P4 x4 h4 → x4 = 0 → ∀ (x5 : Int32) (h5 : jH), P5 x5 h5 → ¬ x5 = 0 → ¬ ((jput h5 164 ((1 + (6 * l1)).toNatClampNeg) 2) 164 ((1 + (6 * l1)).toNatClampNeg)) = 4 → ¬ ((jput h5 164 ((1 + (6 * l1)).toNatClampNeg) 2) 164 ((1 + (6 * l1)).toNatClampNeg)) = 3 → ((jput h5 164 ((1 + (6 * l1)).toNatClampNeg) 2) 164 ((1 + (6 * l1)).toNatClampNeg)) = 0 → ∀ h24 : jH, P24 h24 → ((h24 159 6) - (h24 159 8)) = 1 → ¬ (h24 162 ((h24 159 8).toNatClampNeg)) ≤ 100 → Q (.inl (some (.int 0))) (jG0 sc) h24)
    (k27 : ∀ h1 : jH, P1 h1 → ¬ l1 = 10 → ∀ h2 : jH, P2 h2 → ∀ (x3 : Int32) (h3 : jH), P3 x3 h3 → x3 = 0 → ∀ (x4 : Int32) (h4 : jH), P4 x4 h4 → x4 = 0 → ∀ (x5 : Int32) (h5 : jH), P5 x5 h5 → ¬ x5 = 0 → ¬ ((jput h5 164 ((1 + (6 * l1)).toNatClampNeg) 2) 164 ((1 + (6 * l1)).toNatClampNeg)) = 4 → ((jput h5 164 ((1 + (6 * l1)).toNatClampNeg) 2) 164 ((1 + (6 * l1)).toNatClampNeg)) = 3 → JM mX12_readSum [.ref 159, .int (1 + (6 * l1))] (jG0 sc) (jput h5 164 ((1 + (6 * l1)).toNatClampNeg) 2) (jint sc P27))
    (o24 : ∀ h1 : jH, P1 h1 → ¬ l1 = 10 → ∀ h2 : jH, P2 h2 → ∀ (x3 : Int32) (h3 : jH), P3 x3 h3 → x3 = 0 → ∀ (x4 : Int32) (h4 : jH), P4 x4 h4 → x4 = 0 → ∀ (x5 : Int32) (h5 : jH), P5 x5 h5 → ¬ x5 = 0 → ¬ ((jput h5 164 ((1 + (6 * l1)).toNatClampNeg) 2) 164 ((1 + (6 * l1)).toNatClampNeg)) = 4 → ((jput h5 164 ((1 + (6 * l1)).toNatClampNeg) 2) 164 ((1 + (6 * l1)).toNatClampNeg)) = 3 → ∀ (x27 : Int32) (h27 : jH), P27 x27 h27 → x27 = 0 ∨ x27 = 1)
    (v32 : ∀ h1 : jH, P1 h1 → ¬ l1 = 10 → ∀ h2 : jH, P2 h2 → ∀ (x3 : Int32) (h3 : jH), P3 x3 h3 → x3 = 0 → ∀ (x4 : Int32) (h4 : jH), P4 x4 h4 → x4 = 0 → ∀ (x5 : Int32) (h5 : jH), P5 x5 h5 → ¬ x5 = 0 → ¬ ((jput h5 164 ((1 + (6 * l1)).toNatClampNeg) 2) 164 ((1 + (6 * l1)).toNatClampNeg)) = 4 → ((jput h5 164 ((1 + (6 * l1)).toNatClampNeg) 2) 164 ((1 + (6 * l1)).toNatClampNeg)) = 3 → ∀ (x27 : Int32) (h27 : jH), P27 x27 h27 → Q (.inl (some (.int x27))) (jG0 sc) h27)
    (v33 : ∀ h1 : jH, P1 h1 → ¬ l1 = 10 → ∀ h2 : jH, P2 h2 → ∀ (x3 : Int32) (h3 : jH), P3 x3 h3 → x3 = 0 → ∀ (x4 : Int32) (h4 : jH), P4 x4 h4 → x4 = 0 → ∀ (x5 : Int32) (h5 : jH), P5 x5 h5 → ¬ x5 = 0 → ((jput h5 164 ((1 + (6 * l1)).toNatClampNeg) 2) 164 ((1 + (6 * l1)).toNatClampNeg)) = 4 → Q (.inl (some (.int 0))) (jG0 sc) (jput h5 164 ((1 + (6 * l1)).toNatClampNeg) 2))
    (o25 : ∀ h1 : jH, P1 h1 → ¬ l1 = 10 → ∀ h2 : jH, P2 h2 → ∀ (x3 : Int32) (h3 : jH), P3 x3 h3 → x3 = 0 → ∀ (x4 : Int32) (h4 : jH), P4 x4 h4 → ¬ x4 = 0 → vp_in (1 + (6 * l1)) 61)
    (o26 : ∀ h1 : jH, P1 h1 → ¬ l1 = 10 → ∀ h2 : jH, P2 h2 → ∀ (x3 : Int32) (h3 : jH), P3 x3 h3 → x3 = 0 → ∀ (x4 : Int32) (h4 : jH), P4 x4 h4 → ¬ x4 = 0 → ¬ ((jput h4 164 ((1 + (6 * l1)).toNatClampNeg) 1) 164 ((1 + (6 * l1)).toNatClampNeg)) = 4 → vp_in (1 + (6 * l1)) 61)
    (o27 : ∀ h1 : jH, P1 h1 → ¬ l1 = 10 → ∀ h2 : jH, P2 h2 → ∀ (x3 : Int32) (h3 : jH), P3 x3 h3 → x3 = 0 → ∀ (x4 : Int32) (h4 : jH), P4 x4 h4 → ¬ x4 = 0 → ¬ ((jput h4 164 ((1 + (6 * l1)).toNatClampNeg) 1) 164 ((1 + (6 * l1)).toNatClampNeg)) = 4 → ¬ ((jput h4 164 ((1 + (6 * l1)).toNatClampNeg) 1) 164 ((1 + (6 * l1)).toNatClampNeg)) = 3 → vp_in (1 + (6 * l1)) 61)
    (k28 : ∀ h1 : jH, P1 h1 → ¬ l1 = 10 → ∀ h2 : jH, P2 h2 → ∀ (x3 : Int32) (h3 : jH), P3 x3 h3 → x3 = 0 → ∀ (x4 : Int32) (h4 : jH), P4 x4 h4 → ¬ x4 = 0 → ¬ ((jput h4 164 ((1 + (6 * l1)).toNatClampNeg) 1) 164 ((1 + (6 * l1)).toNatClampNeg)) = 4 → ¬ ((jput h4 164 ((1 + (6 * l1)).toNatClampNeg) 1) 164 ((1 + (6 * l1)).toNatClampNeg)) = 3 → ¬ ((jput h4 164 ((1 + (6 * l1)).toNatClampNeg) 1) 164 ((1 + (6 * l1)).toNatClampNeg)) = 0 → JM mX12_number [.ref 159, .int 1, .int 1] (jG0 sc) (jput h4 164 ((1 + (6 * l1)).toNatClampNeg) 1) (jint sc P28))
    (o28 : ∀ h1 : jH, P1 h1 → ¬ l1 = 10 → ∀ h2 : jH, P2 h2 → ∀ (x3 : Int32) (h3 : jH), P3 x3 h3 → x3 = 0 → ∀ (x4 : Int32) (h4 : jH), P4 x4 h4 → ¬ x4 = 0 → ¬ ((jput h4 164 ((1 + (6 * l1)).toNatClampNeg) 1) 164 ((1 + (6 * l1)).toNatClampNeg)) = 4 → ¬ ((jput h4 164 ((1 + (6 * l1)).toNatClampNeg) 1) 164 ((1 + (6 * l1)).toNatClampNeg)) = 3 → ¬ ((jput h4 164 ((1 + (6 * l1)).toNatClampNeg) 1) 164 ((1 + (6 * l1)).toNatClampNeg)) = 0 → ∀ (x28 : Int32) (h28 : jH), P28 x28 h28 → vp_in ((1 + (6 * l1)) + 5) 61)
    (v34 : ∀ h1 : jH, P1 h1 → ¬ l1 = 10 → ∀ h2 : jH, P2 h2 → ∀ (x3 : Int32) (h3 : jH), P3 x3 h3 → x3 = 0 → ∀ (x4 : Int32) (h4 : jH), P4 x4 h4 → ¬ x4 = 0 → ¬ ((jput h4 164 ((1 + (6 * l1)).toNatClampNeg) 1) 164 ((1 + (6 * l1)).toNatClampNeg)) = 4 → ¬ ((jput h4 164 ((1 + (6 * l1)).toNatClampNeg) 1) 164 ((1 + (6 * l1)).toNatClampNeg)) = 3 → ¬ ((jput h4 164 ((1 + (6 * l1)).toNatClampNeg) 1) 164 ((1 + (6 * l1)).toNatClampNeg)) = 0 → ∀ (x28 : Int32) (h28 : jH), P28 x28 h28 → ((jput h28 164 (((1 + (6 * l1)) + 5).toNatClampNeg) x28) 164 (((1 + (6 * l1)) + 5).toNatClampNeg)) ≤ 0 → Q (.inl (some (.int 0))) (jG0 sc) (jput h28 164 (((1 + (6 * l1)) + 5).toNatClampNeg) x28))
    (k29 : ∀ h1 : jH, P1 h1 → ¬ l1 = 10 → ∀ h2 : jH, P2 h2 → ∀ (x3 : Int32) (h3 : jH), P3 x3 h3 → x3 = 0 → ∀ (x4 : Int32) (h4 : jH), P4 x4 h4 → ¬ x4 = 0 → ¬ ((jput h4 164 ((1 + (6 * l1)).toNatClampNeg) 1) 164 ((1 + (6 * l1)).toNatClampNeg)) = 4 → ¬ ((jput h4 164 ((1 + (6 * l1)).toNatClampNeg) 1) 164 ((1 + (6 * l1)).toNatClampNeg)) = 3 → ¬ ((jput h4 164 ((1 + (6 * l1)).toNatClampNeg) 1) 164 ((1 + (6 * l1)).toNatClampNeg)) = 0 → ∀ (x28 : Int32) (h28 : jH), P28 x28 h28 → ¬ ((jput h28 164 (((1 + (6 * l1)) + 5).toNatClampNeg) x28) 164 (((1 + (6 * l1)) + 5).toNatClampNeg)) ≤ 0 → JM mX12_needs [.ref 159, .ref 1016] (jG0 sc) (jput h28 164 (((1 + (6 * l1)) + 5).toNatClampNeg) x28) (jint sc P29))
    (v35 : ∀ h1 : jH, P1 h1 → ¬ l1 = 10 → ∀ h2 : jH, P2 h2 → ∀ (x3 : Int32) (h3 : jH), P3 x3 h3 → x3 = 0 → ∀ (x4 : Int32) (h4 : jH), P4 x4 h4 → ¬ x4 = 0 → ¬ ((jput h4 164 ((1 + (6 * l1)).toNatClampNeg) 1) 164 ((1 + (6 * l1)).toNatClampNeg)) = 4 → ¬ ((jput h4 164 ((1 + (6 * l1)).toNatClampNeg) 1) 164 ((1 + (6 * l1)).toNatClampNeg)) = 3 → ¬ ((jput h4 164 ((1 + (6 * l1)).toNatClampNeg) 1) 164 ((1 + (6 * l1)).toNatClampNeg)) = 0 → ∀ (x28 : Int32) (h28 : jH), P28 x28 h28 → ¬ ((jput h28 164 (((1 + (6 * l1)) + 5).toNatClampNeg) x28) 164 (((1 + (6 * l1)) + 5).toNatClampNeg)) ≤ 0 → ∀ (x29 : Int32) (h29 : jH), P29 x29 h29 → x29 = 0 → Q (.inl (some (.int 0))) (jG0 sc) h29)
    (k30 : ∀ h1 : jH, P1 h1 → ¬ l1 = 10 → ∀ h2 : jH, P2 h2 → ∀ (x3 : Int32) (h3 : jH), P3 x3 h3 → x3 = 0 → ∀ (x4 : Int32) (h4 : jH), P4 x4 h4 → ¬ x4 = 0 → ¬ ((jput h4 164 ((1 + (6 * l1)).toNatClampNeg) 1) 164 ((1 + (6 * l1)).toNatClampNeg)) = 4 → ¬ ((jput h4 164 ((1 + (6 * l1)).toNatClampNeg) 1) 164 ((1 + (6 * l1)).toNatClampNeg)) = 3 → ¬ ((jput h4 164 ((1 + (6 * l1)).toNatClampNeg) 1) 164 ((1 + (6 * l1)).toNatClampNeg)) = 0 → ∀ (x28 : Int32) (h28 : jH), P28 x28 h28 → ¬ ((jput h28 164 (((1 + (6 * l1)) + 5).toNatClampNeg) x28) 164 (((1 + (6 * l1)) + 5).toNatClampNeg)) ≤ 0 → ∀ (x29 : Int32) (h29 : jH), P29 x29 h29 → ¬ x29 = 0 → JM mX12_readTest [.ref 159, .int (1 + (6 * l1))] (jG0 sc) h29 (jint sc P30))
    (v36 : ∀ h1 : jH, P1 h1 → ¬ l1 = 10 → ∀ h2 : jH, P2 h2 → ∀ (x3 : Int32) (h3 : jH), P3 x3 h3 → x3 = 0 → ∀ (x4 : Int32) (h4 : jH), P4 x4 h4 → ¬ x4 = 0 → ¬ ((jput h4 164 ((1 + (6 * l1)).toNatClampNeg) 1) 164 ((1 + (6 * l1)).toNatClampNeg)) = 4 → ¬ ((jput h4 164 ((1 + (6 * l1)).toNatClampNeg) 1) 164 ((1 + (6 * l1)).toNatClampNeg)) = 3 → ¬ ((jput h4 164 ((1 + (6 * l1)).toNatClampNeg) 1) 164 ((1 + (6 * l1)).toNatClampNeg)) = 0 → ∀ (x28 : Int32) (h28 : jH), P28 x28 h28 → ¬ ((jput h28 164 (((1 + (6 * l1)) + 5).toNatClampNeg) x28) 164 (((1 + (6 * l1)) + 5).toNatClampNeg)) ≤ 0 → ∀ (x29 : Int32) (h29 : jH), P29 x29 h29 → ¬ x29 = 0 → ∀ (x30 : Int32) (h30 : jH), P30 x30 h30 → x30 = 0 → Q (.inl (some (.int 0))) (jG0 sc) h30)
    (v37 : ∀ h1 : jH, P1 h1 → ¬ l1 = 10 → ∀ h2 : jH, P2 h2 → ∀ (x3 : Int32) (h3 : jH), P3 x3 h3 → x3 = 0 → ∀ (x4 : Int32) (h4 : jH), P4 x4 h4 → ¬ x4 = 0 → ¬ ((jput h4 164 ((1 + (6 * l1)).toNatClampNeg) 1) 164 ((1 + (6 * l1)).toNatClampNeg)) = 4 → ¬ ((jput h4 164 ((1 + (6 * l1)).toNatClampNeg) 1) 164 ((1 + (6 * l1)).toNatClampNeg)) = 3 → ¬ ((jput h4 164 ((1 + (6 * l1)).toNatClampNeg) 1) 164 ((1 + (6 * l1)).toNatClampNeg)) = 0 → ∀ (x28 : Int32) (h28 : jH), P28 x28 h28 → ¬ ((jput h28 164 (((1 + (6 * l1)) + 5).toNatClampNeg) x28) 164 (((1 + (6 * l1)) + 5).toNatClampNeg)) ≤ 0 → ∀ (x29 : Int32) (h29 : jH), P29 x29 h29 → ¬ x29 = 0 → ∀ (x30 : Int32) (h30 : jH), P30 x30 h30 → ¬ x30 = 0 → Q (.inl (some (.int 1))) (jG0 sc) h30)
    (k31 : ∀ h1 : jH, P1 h1 → ¬ l1 = 10 → ∀ h2 : jH, P2 h2 → ∀ (x3 : Int32) (h3 : jH), P3 x3 h3 → x3 = 0 → ∀ (x4 : Int32) (h4 : jH), P4 x4 h4 → ¬ x4 = 0 → ¬ ((jput h4 164 ((1 + (6 * l1)).toNatClampNeg) 1) 164 ((1 + (6 * l1)).toNatClampNeg)) = 4 → ¬ ((jput h4 164 ((1 + (6 * l1)).toNatClampNeg) 1) 164 ((1 + (6 * l1)).toNatClampNeg)) = 3 → ((jput h4 164 ((1 + (6 * l1)).toNatClampNeg) 1) 164 ((1 + (6 * l1)).toNatClampNeg)) = 0 → JM mX12_letters [.ref 159] (jG0 sc) (jput h4 164 ((1 + (6 * l1)).toNatClampNeg) 1) (jvoid sc P31))
    (v38 : ∀ h1 : jH, P1 h1 → ¬ l1 = 10 → ∀ h2 : jH, P2 h2 → ∀ (x3 : Int32) (h3 : jH), P3 x3 h3 → x3 = 0 → ∀ (x4 : Int32) (h4 : jH), P4 x4 h4 → ¬ x4 = 0 → ¬ ((jput h4 164 ((1 + (6 * l1)).toNatClampNeg) 1) 164 ((1 + (6 * l1)).toNatClampNeg)) = 4 → ¬ ((jput h4 164 ((1 + (6 * l1)).toNatClampNeg) 1) 164 ((1 + (6 * l1)).toNatClampNeg)) = 3 → ((jput h4 164 ((1 + (6 * l1)).toNatClampNeg) 1) 164 ((1 + (6 * l1)).toNatClampNeg)) = 0 → ∀ h31 : jH, P31 h31 → ¬ ((h31 159 6) - (h31 159 8)) = 1 → Q (.inl (some (.int 0))) (jG0 sc) h31)
    (o29 : ∀ h1 : jH, P1 h1 → ¬ l1 = 10 → ∀ h2 : jH, P2 h2 → ∀ (x3 : Int32) (h3 : jH), P3 x3 h3 → x3 = 0 → ∀ (x4 : Int32) (h4 : jH), P4 x4 h4 → ¬ x4 = 0 → ¬ ((jput h4 164 ((1 + (6 * l1)).toNatClampNeg) 1) 164 ((1 + (6 * l1)).toNatClampNeg)) = 4 → ¬ ((jput h4 164 ((1 + (6 * l1)).toNatClampNeg) 1) 164 ((1 + (6 * l1)).toNatClampNeg)) = 3 → ((jput h4 164 ((1 + (6 * l1)).toNatClampNeg) 1) 164 ((1 + (6 * l1)).toNatClampNeg)) = 0 → ∀ h31 : jH, P31 h31 → ((h31 159 6) - (h31 159 8)) = 1 → vp_in (h31 159 8) 400)
    (o30 : ∀ h1 : jH, P1 h1 → ¬ l1 = 10 → ∀ h2 : jH, P2 h2 → ∀ (x3 : Int32) (h3 : jH), P3 x3 h3 → x3 = 0 → ∀ (x4 : Int32) (h4 : jH), P4 x4 h4 → ¬ x4 = 0 → ¬ ((jput h4 164 ((1 + (6 * l1)).toNatClampNeg) 1) 164 ((1 + (6 * l1)).toNatClampNeg)) = 4 → ¬ ((jput h4 164 ((1 + (6 * l1)).toNatClampNeg) 1) 164 ((1 + (6 * l1)).toNatClampNeg)) = 3 → ((jput h4 164 ((1 + (6 * l1)).toNatClampNeg) 1) 164 ((1 + (6 * l1)).toNatClampNeg)) = 0 → ∀ h31 : jH, P31 h31 → ((h31 159 6) - (h31 159 8)) = 1 → (h31 162 ((h31 159 8).toNatClampNeg)) ≤ 100 → vp_in (h31 159 8) 400)
    (o31 : ∀ h1 : jH, P1 h1 → ¬ l1 = 10 → ∀ h2 : jH, P2 h2 → ∀ (x3 : Int32) (h3 : jH), P3 x3 h3 → x3 = 0 → ∀ (x4 : Int32) (h4 : jH), P4 x4 h4 → ¬ x4 = 0 → ¬ ((jput h4 164 ((1 + (6 * l1)).toNatClampNeg) 1) 164 ((1 + (6 * l1)).toNatClampNeg)) = 4 → ¬ ((jput h4 164 ((1 + (6 * l1)).toNatClampNeg) 1) 164 ((1 + (6 * l1)).toNatClampNeg)) = 3 → ((jput h4 164 ((1 + (6 * l1)).toNatClampNeg) 1) 164 ((1 + (6 * l1)).toNatClampNeg)) = 0 → ∀ h31 : jH, P31 h31 → ((h31 159 6) - (h31 159 8)) = 1 → (h31 162 ((h31 159 8).toNatClampNeg)) ≤ 100 → vp_in ((1 + (6 * l1)) + 1) 61)
    (k32 : ∀ h1 : jH, P1 h1 → ¬ l1 = 10 → ∀ h2 : jH, P2 h2 → ∀ (x3 : Int32) (h3 : jH), P3 x3 h3 → x3 = 0 → ∀ (x4 : Int32) (h4 : jH), P4 x4 h4 → ¬ x4 = 0 → ¬ ((jput h4 164 ((1 + (6 * l1)).toNatClampNeg) 1) 164 ((1 + (6 * l1)).toNatClampNeg)) = 4 → ¬ ((jput h4 164 ((1 + (6 * l1)).toNatClampNeg) 1) 164 ((1 + (6 * l1)).toNatClampNeg)) = 3 → ((jput h4 164 ((1 + (6 * l1)).toNatClampNeg) 1) 164 ((1 + (6 * l1)).toNatClampNeg)) = 0 → ∀ h31 : jH, P31 h31 → ((h31 159 6) - (h31 159 8)) = 1 → (h31 162 ((h31 159 8).toNatClampNeg)) ≤ 100 → JM mX12_sign [.ref 159, .int 61] (jG0 sc) (jput h31 164 (((1 + (6 * l1)) + 1).toNatClampNeg) ((h31 162 ((h31 159 8).toNatClampNeg)) - 97)) (jint sc P32))
    (v39 : ∀ h1 : jH, P1 h1 → ¬ l1 = 10 → ∀ h2 : jH, P2 h2 → ∀ (x3 : Int32) (h3 : jH), P3 x3 h3 → x3 = 0 → ∀ (x4 : Int32) (h4 : jH), P4 x4 h4 → ¬ x4 = 0 → ¬ ((jput h4 164 ((1 + (6 * l1)).toNatClampNeg) 1) 164 ((1 + (6 * l1)).toNatClampNeg)) = 4 → ¬ ((jput h4 164 ((1 + (6 * l1)).toNatClampNeg) 1) 164 ((1 + (6 * l1)).toNatClampNeg)) = 3 → ((jput h4 164 ((1 + (6 * l1)).toNatClampNeg) 1) 164 ((1 + (6 * l1)).toNatClampNeg)) = 0 → ∀ h31 : jH, P31 h31 → ((h31 159 6) - (h31 159 8)) = 1 → (h31 162 ((h31 159 8).toNatClampNeg)) ≤ 100 → ∀ (x32 : Int32) (h32 : jH), P32 x32 h32 → x32 = 0 → Q (.inl (some (.int 0))) (jG0 sc) h32)
    (k33 : ∀ h1 : jH, P1 h1 → ¬ l1 = 10 → ∀ h2 : jH, P2 h2 → ∀ (x3 : Int32) (h3 : jH), P3 x3 h3 → x3 = 0 → ∀ (x4 : Int32) (h4 : jH), P4 x4 h4 → ¬ x4 = 0 → ¬ ((jput h4 164 ((1 + (6 * l1)).toNatClampNeg) 1) 164 ((1 + (6 * l1)).toNatClampNeg)) = 4 → ¬ ((jput h4 164 ((1 + (6 * l1)).toNatClampNeg) 1) 164 ((1 + (6 * l1)).toNatClampNeg)) = 3 → ((jput h4 164 ((1 + (6 * l1)).toNatClampNeg) 1) 164 ((1 + (6 * l1)).toNatClampNeg)) = 0 → ∀ h31 : jH, P31 h31 → ((h31 159 6) - (h31 159 8)) = 1 → (h31 162 ((h31 159 8).toNatClampNeg)) ≤ 100 → ∀ (x32 : Int32) (h32 : jH), P32 x32 h32 → ¬ x32 = 0 → JM mX12_readSum [.ref 159, .int (1 + (6 * l1))] (jG0 sc) h32 (jint sc P33))
    (v40 : ∀ h1 : jH, P1 h1 → ¬ l1 = 10 → ∀ h2 : jH, P2 h2 → ∀ (x3 : Int32) (h3 : jH), P3 x3 h3 → x3 = 0 → ∀ (x4 : Int32) (h4 : jH), P4 x4 h4 → ¬ x4 = 0 → ¬ ((jput h4 164 ((1 + (6 * l1)).toNatClampNeg) 1) 164 ((1 + (6 * l1)).toNatClampNeg)) = 4 → ¬ ((jput h4 164 ((1 + (6 * l1)).toNatClampNeg) 1) 164 ((1 + (6 * l1)).toNatClampNeg)) = 3 → ((jput h4 164 ((1 + (6 * l1)).toNatClampNeg) 1) 164 ((1 + (6 * l1)).toNatClampNeg)) = 0 → ∀ h31 : jH, P31 h31 → ((h31 159 6) - (h31 159 8)) = 1 → (h31 162 ((h31 159 8).toNatClampNeg)) ≤ 100 → ∀ (x32 : Int32) (h32 : jH), P32 x32 h32 → ¬ x32 = 0 → ∀ (x33 : Int32) (h33 : jH), P33 x33 h33 → x33 = 0 → Q (.inl (some (.int 0))) (jG0 sc) h33)
    (v41 : ∀ h1 : jH, P1 h1 → ¬ l1 = 10 → ∀ h2 : jH, P2 h2 → ∀ (x3 : Int32) (h3 : jH), P3 x3 h3 → x3 = 0 → ∀ (x4 : Int32) (h4 : jH), P4 x4 h4 → ¬ x4 = 0 → ¬ ((jput h4 164 ((1 + (6 * l1)).toNatClampNeg) 1) 164 ((1 + (6 * l1)).toNatClampNeg)) = 4 → ¬ ((jput h4 164 ((1 + (6 * l1)).toNatClampNeg) 1) 164 ((1 + (6 * l1)).toNatClampNeg)) = 3 → ((jput h4 164 ((1 + (6 * l1)).toNatClampNeg) 1) 164 ((1 + (6 * l1)).toNatClampNeg)) = 0 → ∀ h31 : jH, P31 h31 → ((h31 159 6) - (h31 159 8)) = 1 → (h31 162 ((h31 159 8).toNatClampNeg)) ≤ 100 → ∀ (x32 : Int32) (h32 : jH), P32 x32 h32 → ¬ x32 = 0 → ∀ (x33 : Int32) (h33 : jH), P33 x33 h33 → ¬ x33 = 0 → Q (.inl (some (.int 1))) (jG0 sc) h33)
    (v42 : ∀ h1 : jH, P1 h1 → ¬ l1 = 10 → ∀ h2 : jH, P2 h2 → ∀ (x3 : Int32) (h3 : jH), P3 x3 h3 → x3 = 0 → ∀ (x4 : Int32) (h4 : jH), P4 x4 h4 → ¬ x4 = 0 → ¬ ((jput h4 164 ((1 + (6 * l1)).toNatClampNeg) 1) 164 ((1 + (6 * l1)).toNatClampNeg)) = 4 → ¬ ((jput h4 164 ((1 + (6 * l1)).toNatClampNeg) 1) 164 ((1 + (6 * l1)).toNatClampNeg)) = 3 → ((jput h4 164 ((1 + (6 * l1)).toNatClampNeg) 1) 164 ((1 + (6 * l1)).toNatClampNeg)) = 0 → ∀ h31 : jH, P31 h31 → ((h31 159 6) - (h31 159 8)) = 1 → ¬ (h31 162 ((h31 159 8).toNatClampNeg)) ≤ 100 → Q (.inl (some (.int 0))) (jG0 sc) h31)
    (k34 : ∀ h1 : jH, P1 h1 → ¬ l1 = 10 → ∀ h2 : jH, P2 h2 → ∀ (x3 : Int32) (h3 : jH), P3 x3 h3 → x3 = 0 → ∀ (x4 : Int32) (h4 : jH), P4 x4 h4 → ¬ x4 = 0 → ¬ ((jput h4 164 ((1 + (6 * l1)).toNatClampNeg) 1) 164 ((1 + (6 * l1)).toNatClampNeg)) = 4 → ((jput h4 164 ((1 + (6 * l1)).toNatClampNeg) 1) 164 ((1 + (6 * l1)).toNatClampNeg)) = 3 → JM mX12_readSum [.ref 159, .int (1 + (6 * l1))] (jG0 sc) (jput h4 164 ((1 + (6 * l1)).toNatClampNeg) 1) (jint sc P34))
    (o32 : ∀ h1 : jH, P1 h1 → ¬ l1 = 10 → ∀ h2 : jH, P2 h2 → ∀ (x3 : Int32) (h3 : jH), P3 x3 h3 → x3 = 0 → ∀ (x4 : Int32) (h4 : jH), P4 x4 h4 → ¬ x4 = 0 → ¬ ((jput h4 164 ((1 + (6 * l1)).toNatClampNeg) 1) 164 ((1 + (6 * l1)).toNatClampNeg)) = 4 → ((jput h4 164 ((1 + (6 * l1)).toNatClampNeg) 1) 164 ((1 + (6 * l1)).toNatClampNeg)) = 3 → ∀ (x34 : Int32) (h34 : jH), P34 x34 h34 → x34 = 0 ∨ x34 = 1)
    (v43 : ∀ h1 : jH, P1 h1 → ¬ l1 = 10 → ∀ h2 : jH, P2 h2 → ∀ (x3 : Int32) (h3 : jH), P3 x3 h3 → x3 = 0 → ∀ (x4 : Int32) (h4 : jH), P4 x4 h4 → ¬ x4 = 0 → ¬ ((jput h4 164 ((1 + (6 * l1)).toNatClampNeg) 1) 164 ((1 + (6 * l1)).toNatClampNeg)) = 4 → ((jput h4 164 ((1 + (6 * l1)).toNatClampNeg) 1) 164 ((1 + (6 * l1)).toNatClampNeg)) = 3 → ∀ (x34 : Int32) (h34 : jH), P34 x34 h34 → Q (.inl (some (.int x34))) (jG0 sc) h34)
    (v44 : ∀ h1 : jH, P1 h1 → ¬ l1 = 10 → ∀ h2 : jH, P2 h2 → ∀ (x3 : Int32) (h3 : jH), P3 x3 h3 → x3 = 0 → ∀ (x4 : Int32) (h4 : jH), P4 x4 h4 → ¬ x4 = 0 → ((jput h4 164 ((1 + (6 * l1)).toNatClampNeg) 1) 164 ((1 + (6 * l1)).toNatClampNeg)) = 4 → Q (.inl (some (.int 0))) (jG0 sc) (jput h4 164 ((1 + (6 * l1)).toNatClampNeg) 1))
    (o33 : ∀ h1 : jH, P1 h1 → ¬ l1 = 10 → ∀ h2 : jH, P2 h2 → ∀ (x3 : Int32) (h3 : jH), P3 x3 h3 → ¬ x3 = 0 → vp_in (1 + (6 * l1)) 61)
    (o34 : ∀ h1 : jH, P1 h1 → ¬ l1 = 10 → ∀ h2 : jH, P2 h2 → ∀ (x3 : Int32) (h3 : jH), P3 x3 h3 → ¬ x3 = 0 → ¬ ((jput h3 164 ((1 + (6 * l1)).toNatClampNeg) 0) 164 ((1 + (6 * l1)).toNatClampNeg)) = 4 → vp_in (1 + (6 * l1)) 61)
    (o35 : ∀ h1 : jH, P1 h1 → ¬ l1 = 10 → ∀ h2 : jH, P2 h2 → ∀ (x3 : Int32) (h3 : jH), P3 x3 h3 → ¬ x3 = 0 → ¬ ((jput h3 164 ((1 + (6 * l1)).toNatClampNeg) 0) 164 ((1 + (6 * l1)).toNatClampNeg)) = 4 → ¬ ((jput h3 164 ((1 + (6 * l1)).toNatClampNeg) 0) 164 ((1 + (6 * l1)).toNatClampNeg)) = 3 → vp_in (1 + (6 * l1)) 61)
    (k35 : ∀ h1 : jH, P1 h1 → ¬ l1 = 10 → ∀ h2 : jH, P2 h2 → ∀ (x3 : Int32) (h3 : jH), P3 x3 h3 → ¬ x3 = 0 → ¬ ((jput h3 164 ((1 + (6 * l1)).toNatClampNeg) 0) 164 ((1 + (6 * l1)).toNatClampNeg)) = 4 → ¬ ((jput h3 164 ((1 + (6 * l1)).toNatClampNeg) 0) 164 ((1 + (6 * l1)).toNatClampNeg)) = 3 → ¬ ((jput h3 164 ((1 + (6 * l1)).toNatClampNeg) 0) 164 ((1 + (6 * l1)).toNatClampNeg)) = 0 → JM mX12_number [.ref 159, .int 1, .int 1] (jG0 sc) (jput h3 164 ((1 + (6 * l1)).toNatClampNeg) 0) (jint sc P35))
    (o36 : ∀ h1 : jH, P1 h1 → ¬ l1 = 10 → ∀ h2 : jH, P2 h2 → ∀ (x3 : Int32) (h3 : jH), P3 x3 h3 → ¬ x3 = 0 → ¬ ((jput h3 164 ((1 + (6 * l1)).toNatClampNeg) 0) 164 ((1 + (6 * l1)).toNatClampNeg)) = 4 → ¬ ((jput h3 164 ((1 + (6 * l1)).toNatClampNeg) 0) 164 ((1 + (6 * l1)).toNatClampNeg)) = 3 → ¬ ((jput h3 164 ((1 + (6 * l1)).toNatClampNeg) 0) 164 ((1 + (6 * l1)).toNatClampNeg)) = 0 → ∀ (x35 : Int32) (h35 : jH), P35 x35 h35 → vp_in ((1 + (6 * l1)) + 5) 61)
    (v45 : ∀ h1 : jH, P1 h1 → ¬ l1 = 10 → ∀ h2 : jH, P2 h2 → ∀ (x3 : Int32) (h3 : jH), P3 x3 h3 → ¬ x3 = 0 → ¬ ((jput h3 164 ((1 + (6 * l1)).toNatClampNeg) 0) 164 ((1 + (6 * l1)).toNatClampNeg)) = 4 → ¬ ((jput h3 164 ((1 + (6 * l1)).toNatClampNeg) 0) 164 ((1 + (6 * l1)).toNatClampNeg)) = 3 → ¬ ((jput h3 164 ((1 + (6 * l1)).toNatClampNeg) 0) 164 ((1 + (6 * l1)).toNatClampNeg)) = 0 → ∀ (x35 : Int32) (h35 : jH), P35 x35 h35 → ((jput h35 164 (((1 + (6 * l1)) + 5).toNatClampNeg) x35) 164 (((1 + (6 * l1)) + 5).toNatClampNeg)) ≤ 0 → Q (.inl (some (.int 0))) (jG0 sc) (jput h35 164 (((1 + (6 * l1)) + 5).toNatClampNeg) x35))
    (k36 : ∀ h1 : jH, P1 h1 → ¬ l1 = 10 → ∀ h2 : jH, P2 h2 → ∀ (x3 : Int32) (h3 : jH), P3 x3 h3 → ¬ x3 = 0 → ¬ ((jput h3 164 ((1 + (6 * l1)).toNatClampNeg) 0) 164 ((1 + (6 * l1)).toNatClampNeg)) = 4 → ¬ ((jput h3 164 ((1 + (6 * l1)).toNatClampNeg) 0) 164 ((1 + (6 * l1)).toNatClampNeg)) = 3 → ¬ ((jput h3 164 ((1 + (6 * l1)).toNatClampNeg) 0) 164 ((1 + (6 * l1)).toNatClampNeg)) = 0 → ∀ (x35 : Int32) (h35 : jH), P35 x35 h35 → ¬ ((jput h35 164 (((1 + (6 * l1)) + 5).toNatClampNeg) x35) 164 (((1 + (6 * l1)) + 5).toNatClampNeg)) ≤ 0 → JM mX12_needs [.ref 159, .ref 1016] (jG0 sc) (jput h35 164 (((1 + (6 * l1)) + 5).toNatClampNeg) x35) (jint sc P36))
    (v46 : ∀ h1 : jH, P1 h1 → ¬ l1 = 10 → ∀ h2 : jH, P2 h2 → ∀ (x3 : Int32) (h3 : jH), P3 x3 h3 → ¬ x3 = 0 → ¬ ((jput h3 164 ((1 + (6 * l1)).toNatClampNeg) 0) 164 ((1 + (6 * l1)).toNatClampNeg)) = 4 → ¬ ((jput h3 164 ((1 + (6 * l1)).toNatClampNeg) 0) 164 ((1 + (6 * l1)).toNatClampNeg)) = 3 → ¬ ((jput h3 164 ((1 + (6 * l1)).toNatClampNeg) 0) 164 ((1 + (6 * l1)).toNatClampNeg)) = 0 → ∀ (x35 : Int32) (h35 : jH), P35 x35 h35 → ¬ ((jput h35 164 (((1 + (6 * l1)) + 5).toNatClampNeg) x35) 164 (((1 + (6 * l1)) + 5).toNatClampNeg)) ≤ 0 → ∀ (x36 : Int32) (h36 : jH), P36 x36 h36 → x36 = 0 → Q (.inl (some (.int 0))) (jG0 sc) h36)
    (k37 : ∀ h1 : jH, P1 h1 → ¬ l1 = 10 → ∀ h2 : jH, P2 h2 → ∀ (x3 : Int32) (h3 : jH), P3 x3 h3 → ¬ x3 = 0 → ¬ ((jput h3 164 ((1 + (6 * l1)).toNatClampNeg) 0) 164 ((1 + (6 * l1)).toNatClampNeg)) = 4 → ¬ ((jput h3 164 ((1 + (6 * l1)).toNatClampNeg) 0) 164 ((1 + (6 * l1)).toNatClampNeg)) = 3 → ¬ ((jput h3 164 ((1 + (6 * l1)).toNatClampNeg) 0) 164 ((1 + (6 * l1)).toNatClampNeg)) = 0 → ∀ (x35 : Int32) (h35 : jH), P35 x35 h35 → ¬ ((jput h35 164 (((1 + (6 * l1)) + 5).toNatClampNeg) x35) 164 (((1 + (6 * l1)) + 5).toNatClampNeg)) ≤ 0 → ∀ (x36 : Int32) (h36 : jH), P36 x36 h36 → ¬ x36 = 0 → JM mX12_readTest [.ref 159, .int (1 + (6 * l1))] (jG0 sc) h36 (jint sc P37))
    (v47 : ∀ h1 : jH, P1 h1 → ¬ l1 = 10 → ∀ h2 : jH, P2 h2 → ∀ (x3 : Int32) (h3 : jH), P3 x3 h3 → ¬ x3 = 0 → ¬ ((jput h3 164 ((1 + (6 * l1)).toNatClampNeg) 0) 164 ((1 + (6 * l1)).toNatClampNeg)) = 4 → ¬ ((jput h3 164 ((1 + (6 * l1)).toNatClampNeg) 0) 164 ((1 + (6 * l1)).toNatClampNeg)) = 3 → ¬ ((jput h3 164 ((1 + (6 * l1)).toNatClampNeg) 0) 164 ((1 + (6 * l1)).toNatClampNeg)) = 0 → ∀ (x35 : Int32) (h35 : jH), P35 x35 h35 → ¬ ((jput h35 164 (((1 + (6 * l1)) + 5).toNatClampNeg) x35) 164 (((1 + (6 * l1)) + 5).toNatClampNeg)) ≤ 0 → ∀ (x36 : Int32) (h36 : jH), P36 x36 h36 → ¬ x36 = 0 → ∀ (x37 : Int32) (h37 : jH), P37 x37 h37 → x37 = 0 → Q (.inl (some (.int 0))) (jG0 sc) h37)
    (v48 : ∀ h1 : jH, P1 h1 → ¬ l1 = 10 → ∀ h2 : jH, P2 h2 → ∀ (x3 : Int32) (h3 : jH), P3 x3 h3 → ¬ x3 = 0 → ¬ ((jput h3 164 ((1 + (6 * l1)).toNatClampNeg) 0) 164 ((1 + (6 * l1)).toNatClampNeg)) = 4 → ¬ ((jput h3 164 ((1 + (6 * l1)).toNatClampNeg) 0) 164 ((1 + (6 * l1)).toNatClampNeg)) = 3 → ¬ ((jput h3 164 ((1 + (6 * l1)).toNatClampNeg) 0) 164 ((1 + (6 * l1)).toNatClampNeg)) = 0 → ∀ (x35 : Int32) (h35 : jH), P35 x35 h35 → ¬ ((jput h35 164 (((1 + (6 * l1)) + 5).toNatClampNeg) x35) 164 (((1 + (6 * l1)) + 5).toNatClampNeg)) ≤ 0 → ∀ (x36 : Int32) (h36 : jH), P36 x36 h36 → ¬ x36 = 0 → ∀ (x37 : Int32) (h37 : jH), P37 x37 h37 → ¬ x37 = 0 → Q (.inl (some (.int 1))) (jG0 sc) h37)
    (k38 : ∀ h1 : jH, P1 h1 → ¬ l1 = 10 → ∀ h2 : jH, P2 h2 → ∀ (x3 : Int32) (h3 : jH), P3 x3 h3 → ¬ x3 = 0 → ¬ ((jput h3 164 ((1 + (6 * l1)).toNatClampNeg) 0) 164 ((1 + (6 * l1)).toNatClampNeg)) = 4 → ¬ ((jput h3 164 ((1 + (6 * l1)).toNatClampNeg) 0) 164 ((1 + (6 * l1)).toNatClampNeg)) = 3 → ((jput h3 164 ((1 + (6 * l1)).toNatClampNeg) 0) 164 ((1 + (6 * l1)).toNatClampNeg)) = 0 → JM mX12_letters [.ref 159] (jG0 sc) (jput h3 164 ((1 + (6 * l1)).toNatClampNeg) 0) (jvoid sc P38))
    (v49 : ∀ h1 : jH, P1 h1 → ¬ l1 = 10 → ∀ h2 : jH, P2 h2 → ∀ (x3 : Int32) (h3 : jH), P3 x3 h3 → ¬ x3 = 0 → ¬ ((jput h3 164 ((1 + (6 * l1)).toNatClampNeg) 0) 164 ((1 + (6 * l1)).toNatClampNeg)) = 4 → ¬ ((jput h3 164 ((1 + (6 * l1)).toNatClampNeg) 0) 164 ((1 + (6 * l1)).toNatClampNeg)) = 3 → ((jput h3 164 ((1 + (6 * l1)).toNatClampNeg) 0) 164 ((1 + (6 * l1)).toNatClampNeg)) = 0 → ∀ h38 : jH, P38 h38 → ¬ ((h38 159 6) - (h38 159 8)) = 1 → Q (.inl (some (.int 0))) (jG0 sc) h38)
    (o37 : ∀ h1 : jH, P1 h1 → ¬ l1 = 10 → ∀ h2 : jH, P2 h2 → ∀ (x3 : Int32) (h3 : jH), P3 x3 h3 → ¬ x3 = 0 → ¬ ((jput h3 164 ((1 + (6 * l1)).toNatClampNeg) 0) 164 ((1 + (6 * l1)).toNatClampNeg)) = 4 → ¬ ((jput h3 164 ((1 + (6 * l1)).toNatClampNeg) 0) 164 ((1 + (6 * l1)).toNatClampNeg)) = 3 → ((jput h3 164 ((1 + (6 * l1)).toNatClampNeg) 0) 164 ((1 + (6 * l1)).toNatClampNeg)) = 0 → ∀ h38 : jH, P38 h38 → ((h38 159 6) - (h38 159 8)) = 1 → vp_in (h38 159 8) 400)
    (o38 : ∀ h1 : jH, P1 h1 → ¬ l1 = 10 → ∀ h2 : jH, P2 h2 → ∀ (x3 : Int32) (h3 : jH), P3 x3 h3 → ¬ x3 = 0 → ¬ ((jput h3 164 ((1 + (6 * l1)).toNatClampNeg) 0) 164 ((1 + (6 * l1)).toNatClampNeg)) = 4 → ¬ ((jput h3 164 ((1 + (6 * l1)).toNatClampNeg) 0) 164 ((1 + (6 * l1)).toNatClampNeg)) = 3 → ((jput h3 164 ((1 + (6 * l1)).toNatClampNeg) 0) 164 ((1 + (6 * l1)).toNatClampNeg)) = 0 → ∀ h38 : jH, P38 h38 → ((h38 159 6) - (h38 159 8)) = 1 → (h38 162 ((h38 159 8).toNatClampNeg)) ≤ 100 → vp_in (h38 159 8) 400)
    (o39 : ∀ h1 : jH, P1 h1 → ¬ l1 = 10 → ∀ h2 : jH, P2 h2 → ∀ (x3 : Int32) (h3 : jH), P3 x3 h3 → ¬ x3 = 0 → ¬ ((jput h3 164 ((1 + (6 * l1)).toNatClampNeg) 0) 164 ((1 + (6 * l1)).toNatClampNeg)) = 4 → ¬ ((jput h3 164 ((1 + (6 * l1)).toNatClampNeg) 0) 164 ((1 + (6 * l1)).toNatClampNeg)) = 3 → ((jput h3 164 ((1 + (6 * l1)).toNatClampNeg) 0) 164 ((1 + (6 * l1)).toNatClampNeg)) = 0 → ∀ h38 : jH, P38 h38 → ((h38 159 6) - (h38 159 8)) = 1 → (h38 162 ((h38 159 8).toNatClampNeg)) ≤ 100 → vp_in ((1 + (6 * l1)) + 1) 61)
    (k39 : ∀ h1 : jH, P1 h1 → ¬ l1 = 10 → ∀ h2 : jH, P2 h2 → ∀ (x3 : Int32) (h3 : jH), P3 x3 h3 → ¬ x3 = 0 → ¬ ((jput h3 164 ((1 + (6 * l1)).toNatClampNeg) 0) 164 ((1 + (6 * l1)).toNatClampNeg)) = 4 → ¬ ((jput h3 164 ((1 + (6 * l1)).toNatClampNeg) 0) 164 ((1 + (6 * l1)).toNatClampNeg)) = 3 → ((jput h3 164 ((1 + (6 * l1)).toNatClampNeg) 0) 164 ((1 + (6 * l1)).toNatClampNeg)) = 0 → ∀ h38 : jH, P38 h38 → ((h38 159 6) - (h38 159 8)) = 1 → (h38 162 ((h38 159 8).toNatClampNeg)) ≤ 100 → JM mX12_sign [.ref 159, .int 61] (jG0 sc) (jput h38 164 (((1 + (6 * l1)) + 1).toNatClampNeg) ((h38 162 ((h38 159 8).toNatClampNeg)) - 97)) (jint sc P39))
    (v50 : ∀ h1 : jH, P1 h1 → ¬ l1 = 10 → ∀ h2 : jH, P2 h2 → ∀ (x3 : Int32) (h3 : jH), P3 x3 h3 → ¬ x3 = 0 → ¬ ((jput h3 164 ((1 + (6 * l1)).toNatClampNeg) 0) 164 ((1 + (6 * l1)).toNatClampNeg)) = 4 → ¬ ((jput h3 164 ((1 + (6 * l1)).toNatClampNeg) 0) 164 ((1 + (6 * l1)).toNatClampNeg)) = 3 → ((jput h3 164 ((1 + (6 * l1)).toNatClampNeg) 0) 164 ((1 + (6 * l1)).toNatClampNeg)) = 0 → ∀ h38 : jH, P38 h38 → ((h38 159 6) - (h38 159 8)) = 1 → (h38 162 ((h38 159 8).toNatClampNeg)) ≤ 100 → ∀ (x39 : Int32) (h39 : jH), P39 x39 h39 → x39 = 0 → Q (.inl (some (.int 0))) (jG0 sc) h39)
    (k40 : ∀ h1 : jH, P1 h1 → ¬ l1 = 10 → ∀ h2 : jH, P2 h2 → ∀ (x3 : Int32) (h3 : jH), P3 x3 h3 → ¬ x3 = 0 → ¬ ((jput h3 164 ((1 + (6 * l1)).toNatClampNeg) 0) 164 ((1 + (6 * l1)).toNatClampNeg)) = 4 → ¬ ((jput h3 164 ((1 + (6 * l1)).toNatClampNeg) 0) 164 ((1 + (6 * l1)).toNatClampNeg)) = 3 → ((jput h3 164 ((1 + (6 * l1)).toNatClampNeg) 0) 164 ((1 + (6 * l1)).toNatClampNeg)) = 0 → ∀ h38 : jH, P38 h38 → ((h38 159 6) - (h38 159 8)) = 1 → (h38 162 ((h38 159 8).toNatClampNeg)) ≤ 100 → ∀ (x39 : Int32) (h39 : jH), P39 x39 h39 → ¬ x39 = 0 → JM mX12_readSum [.ref 159, .int (1 + (6 * l1))] (jG0 sc) h39 (jint sc P40))
    (v51 : ∀ h1 : jH, P1 h1 → ¬ l1 = 10 → ∀ h2 : jH, P2 h2 → ∀ (x3 : Int32) (h3 : jH), P3 x3 h3 → ¬ x3 = 0 → ¬ ((jput h3 164 ((1 + (6 * l1)).toNatClampNeg) 0) 164 ((1 + (6 * l1)).toNatClampNeg)) = 4 → ¬ ((jput h3 164 ((1 + (6 * l1)).toNatClampNeg) 0) 164 ((1 + (6 * l1)).toNatClampNeg)) = 3 → ((jput h3 164 ((1 + (6 * l1)).toNatClampNeg) 0) 164 ((1 + (6 * l1)).toNatClampNeg)) = 0 → ∀ h38 : jH, P38 h38 → ((h38 159 6) - (h38 159 8)) = 1 → (h38 162 ((h38 159 8).toNatClampNeg)) ≤ 100 → ∀ (x39 : Int32) (h39 : jH), P39 x39 h39 → ¬ x39 = 0 → ∀ (x40 : Int32) (h40 : jH), P40 x40 h40 → x40 = 0 → Q (.inl (some (.int 0))) (jG0 sc) h40)
    (v52 : ∀ h1 : jH, P1 h1 → ¬ l1 = 10 → ∀ h2 : jH, P2 h2 → ∀ (x3 : Int32) (h3 : jH), P3 x3 h3 → ¬ x3 = 0 → ¬ ((jput h3 164 ((1 + (6 * l1)).toNatClampNeg) 0) 164 ((1 + (6 * l1)).toNatClampNeg)) = 4 → ¬ ((jput h3 164 ((1 + (6 * l1)).toNatClampNeg) 0) 164 ((1 + (6 * l1)).toNatClampNeg)) = 3 → ((jput h3 164 ((1 + (6 * l1)).toNatClampNeg) 0) 164 ((1 + (6 * l1)).toNatClampNeg)) = 0 → ∀ h38 : jH, P38 h38 → ((h38 159 6) - (h38 159 8)) = 1 → (h38 162 ((h38 159 8).toNatClampNeg)) ≤ 100 → ∀ (x39 : Int32) (h39 : jH), P39 x39 h39 → ¬ x39 = 0 → ∀ (x40 : Int32) (h40 : jH), P40 x40 h40 → ¬ x40 = 0 → Q (.inl (some (.int 1))) (jG0 sc) h40)
    (v53 : ∀ h1 : jH, P1 h1 → ¬ l1 = 10 → ∀ h2 : jH, P2 h2 → ∀ (x3 : Int32) (h3 : jH), P3 x3 h3 → ¬ x3 = 0 → ¬ ((jput h3 164 ((1 + (6 * l1)).toNatClampNeg) 0) 164 ((1 + (6 * l1)).toNatClampNeg)) = 4 → ¬ ((jput h3 164 ((1 + (6 * l1)).toNatClampNeg) 0) 164 ((1 + (6 * l1)).toNatClampNeg)) = 3 → ((jput h3 164 ((1 + (6 * l1)).toNatClampNeg) 0) 164 ((1 + (6 * l1)).toNatClampNeg)) = 0 → ∀ h38 : jH, P38 h38 → ((h38 159 6) - (h38 159 8)) = 1 → ¬ (h38 162 ((h38 159 8).toNatClampNeg)) ≤ 100 → Q (.inl (some (.int 0))) (jG0 sc) h38)
    (k41 : ∀ h1 : jH, P1 h1 → ¬ l1 = 10 → ∀ h2 : jH, P2 h2 → ∀ (x3 : Int32) (h3 : jH), P3 x3 h3 → ¬ x3 = 0 → ¬ ((jput h3 164 ((1 + (6 * l1)).toNatClampNeg) 0) 164 ((1 + (6 * l1)).toNatClampNeg)) = 4 → ((jput h3 164 ((1 + (6 * l1)).toNatClampNeg) 0) 164 ((1 + (6 * l1)).toNatClampNeg)) = 3 → JM mX12_readSum [.ref 159, .int (1 + (6 * l1))] (jG0 sc) (jput h3 164 ((1 + (6 * l1)).toNatClampNeg) 0) (jint sc P41))
    (o40 : ∀ h1 : jH, P1 h1 → ¬ l1 = 10 → ∀ h2 : jH, P2 h2 → ∀ (x3 : Int32) (h3 : jH), P3 x3 h3 → ¬ x3 = 0 → ¬ ((jput h3 164 ((1 + (6 * l1)).toNatClampNeg) 0) 164 ((1 + (6 * l1)).toNatClampNeg)) = 4 → ((jput h3 164 ((1 + (6 * l1)).toNatClampNeg) 0) 164 ((1 + (6 * l1)).toNatClampNeg)) = 3 → ∀ (x41 : Int32) (h41 : jH), P41 x41 h41 → x41 = 0 ∨ x41 = 1)
    (v54 : ∀ h1 : jH, P1 h1 → ¬ l1 = 10 → ∀ h2 : jH, P2 h2 → ∀ (x3 : Int32) (h3 : jH), P3 x3 h3 → ¬ x3 = 0 → ¬ ((jput h3 164 ((1 + (6 * l1)).toNatClampNeg) 0) 164 ((1 + (6 * l1)).toNatClampNeg)) = 4 → ((jput h3 164 ((1 + (6 * l1)).toNatClampNeg) 0) 164 ((1 + (6 * l1)).toNatClampNeg)) = 3 → ∀ (x41 : Int32) (h41 : jH), P41 x41 h41 → Q (.inl (some (.int x41))) (jG0 sc) h41)
    (v55 : ∀ h1 : jH, P1 h1 → ¬ l1 = 10 → ∀ h2 : jH, P2 h2 → ∀ (x3 : Int32) (h3 : jH), P3 x3 h3 → ¬ x3 = 0 → ((jput h3 164 ((1 + (6 * l1)).toNatClampNeg) 0) 164 ((1 + (6 * l1)).toNatClampNeg)) = 4 → Q (.inl (some (.int 0))) (jG0 sc) (jput h3 164 ((1 + (6 * l1)).toNatClampNeg) 0))
    (v56 : ∀ h1 : jH, P1 h1 → l1 = 10 → Q (.inl (some (.int 0))) (jG0 sc) h1) :
    WP mX12_readLine Q 0 [some (.ref 159), some (.int l1), none] [] (jG0 sc) h (0, 0) := by
  exact (bX12_readLine_0 k1 (fun h1 p1 c1 => (bX12_readLine_12 (k2 h1 p1 c1) (fun h2 p2 => (k3 h1 p1 c1 h2 p2)) (fun h2 p2 x3 h3 p3 c2 => (bX12_readLine_45 (k4 h1 p1 c1 h2 p2 x3 h3 p3 c2) (fun x4 h4 p4 c3 => (bX12_readLine_58 (k5 h1 p1 c1 h2 p2 x3 h3 p3 c2 x4 h4 p4 c3) (fun x5 h5 p5 c4 => (bX12_readLine_71 (k6 h1 p1 c1 h2 p2 x3 h3 p3 c2 x4 h4 p4 c3 x5 h5 p5 c4) (fun x6 h6 p6 c5 => (bX12_readLine_84 (bX12_readLine_85 (o1 h1 p1 c1 h2 p2 x3 h3 p3 c2 x4 h4 p4 c3 x5 h5 p5 c4 x6 h6 p6 c5) (o1 h1 p1 c1 h2 p2 x3 h3 p3 c2 x4 h4 p4 c3 x5 h5 p5 c4 x6 h6 p6 c5) (fun c6 => (bX12_readLine_98 (o2 h1 p1 c1 h2 p2 x3 h3 p3 c2 x4 h4 p4 c3 x5 h5 p5 c4 x6 h6 p6 c5 c6) (fun c7 => (bX12_readLine_114 (o3 h1 p1 c1 h2 p2 x3 h3 p3 c2 x4 h4 p4 c3 x5 h5 p5 c4 x6 h6 p6 c5 c6 c7) (fun c8 => (bX12_readLine_199 (k7 h1 p1 c1 h2 p2 x3 h3 p3 c2 x4 h4 p4 c3 x5 h5 p5 c4 x6 h6 p6 c5 c6 c7 c8) (fun x7 h7 p7 => (o4 h1 p1 c1 h2 p2 x3 h3 p3 c2 x4 h4 p4 c3 x5 h5 p5 c4 x6 h6 p6 c5 c6 c7 c8 x7 h7 p7)) (fun x7 h7 p7 => (o4 h1 p1 c1 h2 p2 x3 h3 p3 c2 x4 h4 p4 c3 x5 h5 p5 c4 x6 h6 p6 c5 c6 c7 c8 x7 h7 p7)) (fun x7 h7 p7 c9 => (bX12_readLine_245 (bX12_readLine_246 (by decide) (v1 h1 p1 c1 h2 p2 x3 h3 p3 c2 x4 h4 p4 c3 x5 h5 p5 c4 x6 h6 p6 c5 c6 c7 c8 x7 h7 p7 c9)))) (fun x7 h7 p7 c9 => (bX12_readLine_224 (k8 h1 p1 c1 h2 p2 x3 h3 p3 c2 x4 h4 p4 c3 x5 h5 p5 c4 x6 h6 p6 c5 c6 c7 c8 x7 h7 p7 c9) (fun x8 h8 p8 c10 => (bX12_readLine_245 (bX12_readLine_246 (by decide) (v2 h1 p1 c1 h2 p2 x3 h3 p3 c2 x4 h4 p4 c3 x5 h5 p5 c4 x6 h6 p6 c5 c6 c7 c8 x7 h7 p7 c9 x8 h8 p8 c10)))) (fun x8 h8 p8 c10 => (bX12_readLine_233 (k9 h1 p1 c1 h2 p2 x3 h3 p3 c2 x4 h4 p4 c3 x5 h5 p5 c4 x6 h6 p6 c5 c6 c7 c8 x7 h7 p7 c9 x8 h8 p8 c10) (fun x9 h9 p9 c11 => (bX12_readLine_245 (bX12_readLine_246 (by decide) (v3 h1 p1 c1 h2 p2 x3 h3 p3 c2 x4 h4 p4 c3 x5 h5 p5 c4 x6 h6 p6 c5 c6 c7 c8 x7 h7 p7 c9 x8 h8 p8 c10 x9 h9 p9 c11)))) (fun x9 h9 p9 c11 => (bX12_readLine_241 (bX12_readLine_246 (by decide) (v4 h1 p1 c1 h2 p2 x3 h3 p3 c2 x4 h4 p4 c3 x5 h5 p5 c4 x6 h6 p6 c5 c6 c7 c8 x7 h7 p7 c9 x8 h8 p8 c10 x9 h9 p9 c11)))))))))) (fun c8 => (bX12_readLine_123 (k10 h1 p1 c1 h2 p2 x3 h3 p3 c2 x4 h4 p4 c3 x5 h5 p5 c4 x6 h6 p6 c5 c6 c7 c8) (fun h10 p10 c12 => (bX12_readLine_154 (v5 h1 p1 c1 h2 p2 x3 h3 p3 c2 x4 h4 p4 c3 x5 h5 p5 c4 x6 h6 p6 c5 c6 c7 c8 h10 p10 c12))) (fun h10 p10 c12 => (bX12_readLine_140 (o5 h1 p1 c1 h2 p2 x3 h3 p3 c2 x4 h4 p4 c3 x5 h5 p5 c4 x6 h6 p6 c5 c6 c7 c8 h10 p10 c12) (fun c13 => (bX12_readLine_156 (o6 h1 p1 c1 h2 p2 x3 h3 p3 c2 x4 h4 p4 c3 x5 h5 p5 c4 x6 h6 p6 c5 c6 c7 c8 h10 p10 c12 c13) (o7 h1 p1 c1 h2 p2 x3 h3 p3 c2 x4 h4 p4 c3 x5 h5 p5 c4 x6 h6 p6 c5 c6 c7 c8 h10 p10 c12 c13) (k11 h1 p1 c1 h2 p2 x3 h3 p3 c2 x4 h4 p4 c3 x5 h5 p5 c4 x6 h6 p6 c5 c6 c7 c8 h10 p10 c12 c13) (fun x11 h11 p11 c14 => (bX12_readLine_197 (bX12_readLine_198 (by decide) (v6 h1 p1 c1 h2 p2 x3 h3 p3 c2 x4 h4 p4 c3 x5 h5 p5 c4 x6 h6 p6 c5 c6 c7 c8 h10 p10 c12 c13 x11 h11 p11 c14)))) (fun x11 h11 p11 c14 => (bX12_readLine_185 (k12 h1 p1 c1 h2 p2 x3 h3 p3 c2 x4 h4 p4 c3 x5 h5 p5 c4 x6 h6 p6 c5 c6 c7 c8 h10 p10 c12 c13 x11 h11 p11 c14) (fun x12 h12 p12 c15 => (bX12_readLine_197 (bX12_readLine_198 (by decide) (v7 h1 p1 c1 h2 p2 x3 h3 p3 c2 x4 h4 p4 c3 x5 h5 p5 c4 x6 h6 p6 c5 c6 c7 c8 h10 p10 c12 c13 x11 h11 p11 c14 x12 h12 p12 c15)))) (fun x12 h12 p12 c15 => (bX12_readLine_193 (bX12_readLine_198 (by decide) (v8 h1 p1 c1 h2 p2 x3 h3 p3 c2 x4 h4 p4 c3 x5 h5 p5 c4 x6 h6 p6 c5 c6 c7 c8 h10 p10 c12 c13 x11 h11 p11 c14 x12 h12 p12 c15)))))))) (fun c13 => (bX12_readLine_154 (v9 h1 p1 c1 h2 p2 x3 h3 p3 c2 x4 h4 p4 c3 x5 h5 p5 c4 x6 h6 p6 c5 c6 c7 c8 h10 p10 c12 c13))))))))) (fun c7 => (bX12_readLine_108 (k13 h1 p1 c1 h2 p2 x3 h3 p3 c2 x4 h4 p4 c3 x5 h5 p5 c4 x6 h6 p6 c5 c6 c7) (fun x13 h13 p13 => (o8 h1 p1 c1 h2 p2 x3 h3 p3 c2 x4 h4 p4 c3 x5 h5 p5 c4 x6 h6 p6 c5 c6 c7 x13 h13 p13)) (fun x13 h13 p13 => (v10 h1 p1 c1 h2 p2 x3 h3 p3 c2 x4 h4 p4 c3 x5 h5 p5 c4 x6 h6 p6 c5 c6 c7 x13 h13 p13)))))) (fun c6 => (bX12_readLine_96 (v11 h1 p1 c1 h2 p2 x3 h3 p3 c2 x4 h4 p4 c3 x5 h5 p5 c4 x6 h6 p6 c5 c6)))))) (fun x6 h6 p6 c5 => (bX12_readLine_80 (bX12_readLine_85 (o9 h1 p1 c1 h2 p2 x3 h3 p3 c2 x4 h4 p4 c3 x5 h5 p5 c4 x6 h6 p6 c5) (o9 h1 p1 c1 h2 p2 x3 h3 p3 c2 x4 h4 p4 c3 x5 h5 p5 c4 x6 h6 p6 c5) (fun c16 => (bX12_readLine_98 (o10 h1 p1 c1 h2 p2 x3 h3 p3 c2 x4 h4 p4 c3 x5 h5 p5 c4 x6 h6 p6 c5 c16) (fun c17 => (bX12_readLine_114 (o11 h1 p1 c1 h2 p2 x3 h3 p3 c2 x4 h4 p4 c3 x5 h5 p5 c4 x6 h6 p6 c5 c16 c17) (fun c18 => (bX12_readLine_199 (k14 h1 p1 c1 h2 p2 x3 h3 p3 c2 x4 h4 p4 c3 x5 h5 p5 c4 x6 h6 p6 c5 c16 c17 c18) (fun x14 h14 p14 => (o12 h1 p1 c1 h2 p2 x3 h3 p3 c2 x4 h4 p4 c3 x5 h5 p5 c4 x6 h6 p6 c5 c16 c17 c18 x14 h14 p14)) (fun x14 h14 p14 => (o12 h1 p1 c1 h2 p2 x3 h3 p3 c2 x4 h4 p4 c3 x5 h5 p5 c4 x6 h6 p6 c5 c16 c17 c18 x14 h14 p14)) (fun x14 h14 p14 c19 => (bX12_readLine_245 (bX12_readLine_246 (by decide) (v12 h1 p1 c1 h2 p2 x3 h3 p3 c2 x4 h4 p4 c3 x5 h5 p5 c4 x6 h6 p6 c5 c16 c17 c18 x14 h14 p14 c19)))) (fun x14 h14 p14 c19 => (bX12_readLine_224 (k15 h1 p1 c1 h2 p2 x3 h3 p3 c2 x4 h4 p4 c3 x5 h5 p5 c4 x6 h6 p6 c5 c16 c17 c18 x14 h14 p14 c19) (fun x15 h15 p15 c20 => (bX12_readLine_245 (bX12_readLine_246 (by decide) (v13 h1 p1 c1 h2 p2 x3 h3 p3 c2 x4 h4 p4 c3 x5 h5 p5 c4 x6 h6 p6 c5 c16 c17 c18 x14 h14 p14 c19 x15 h15 p15 c20)))) (fun x15 h15 p15 c20 => (bX12_readLine_233 (k16 h1 p1 c1 h2 p2 x3 h3 p3 c2 x4 h4 p4 c3 x5 h5 p5 c4 x6 h6 p6 c5 c16 c17 c18 x14 h14 p14 c19 x15 h15 p15 c20) (fun x16 h16 p16 c21 => (bX12_readLine_245 (bX12_readLine_246 (by decide) (v14 h1 p1 c1 h2 p2 x3 h3 p3 c2 x4 h4 p4 c3 x5 h5 p5 c4 x6 h6 p6 c5 c16 c17 c18 x14 h14 p14 c19 x15 h15 p15 c20 x16 h16 p16 c21)))) (fun x16 h16 p16 c21 => (bX12_readLine_241 (bX12_readLine_246 (by decide) (v15 h1 p1 c1 h2 p2 x3 h3 p3 c2 x4 h4 p4 c3 x5 h5 p5 c4 x6 h6 p6 c5 c16 c17 c18 x14 h14 p14 c19 x15 h15 p15 c20 x16 h16 p16 c21)))))))))) (fun c18 => (bX12_readLine_123 (k17 h1 p1 c1 h2 p2 x3 h3 p3 c2 x4 h4 p4 c3 x5 h5 p5 c4 x6 h6 p6 c5 c16 c17 c18) (fun h17 p17 c22 => (bX12_readLine_154 (v16 h1 p1 c1 h2 p2 x3 h3 p3 c2 x4 h4 p4 c3 x5 h5 p5 c4 x6 h6 p6 c5 c16 c17 c18 h17 p17 c22))) (fun h17 p17 c22 => (bX12_readLine_140 (o13 h1 p1 c1 h2 p2 x3 h3 p3 c2 x4 h4 p4 c3 x5 h5 p5 c4 x6 h6 p6 c5 c16 c17 c18 h17 p17 c22) (fun c23 => (bX12_readLine_156 (o14 h1 p1 c1 h2 p2 x3 h3 p3 c2 x4 h4 p4 c3 x5 h5 p5 c4 x6 h6 p6 c5 c16 c17 c18 h17 p17 c22 c23) (o15 h1 p1 c1 h2 p2 x3 h3 p3 c2 x4 h4 p4 c3 x5 h5 p5 c4 x6 h6 p6 c5 c16 c17 c18 h17 p17 c22 c23) (k18 h1 p1 c1 h2 p2 x3 h3 p3 c2 x4 h4 p4 c3 x5 h5 p5 c4 x6 h6 p6 c5 c16 c17 c18 h17 p17 c22 c23) (fun x18 h18 p18 c24 => (bX12_readLine_197 (bX12_readLine_198 (by decide) (v17 h1 p1 c1 h2 p2 x3 h3 p3 c2 x4 h4 p4 c3 x5 h5 p5 c4 x6 h6 p6 c5 c16 c17 c18 h17 p17 c22 c23 x18 h18 p18 c24)))) (fun x18 h18 p18 c24 => (bX12_readLine_185 (k19 h1 p1 c1 h2 p2 x3 h3 p3 c2 x4 h4 p4 c3 x5 h5 p5 c4 x6 h6 p6 c5 c16 c17 c18 h17 p17 c22 c23 x18 h18 p18 c24) (fun x19 h19 p19 c25 => (bX12_readLine_197 (bX12_readLine_198 (by decide) (v18 h1 p1 c1 h2 p2 x3 h3 p3 c2 x4 h4 p4 c3 x5 h5 p5 c4 x6 h6 p6 c5 c16 c17 c18 h17 p17 c22 c23 x18 h18 p18 c24 x19 h19 p19 c25)))) (fun x19 h19 p19 c25 => (bX12_readLine_193 (bX12_readLine_198 (by decide) (v19 h1 p1 c1 h2 p2 x3 h3 p3 c2 x4 h4 p4 c3 x5 h5 p5 c4 x6 h6 p6 c5 c16 c17 c18 h17 p17 c22 c23 x18 h18 p18 c24 x19 h19 p19 c25)))))))) (fun c23 => (bX12_readLine_154 (v20 h1 p1 c1 h2 p2 x3 h3 p3 c2 x4 h4 p4 c3 x5 h5 p5 c4 x6 h6 p6 c5 c16 c17 c18 h17 p17 c22 c23))))))))) (fun c17 => (bX12_readLine_108 (k20 h1 p1 c1 h2 p2 x3 h3 p3 c2 x4 h4 p4 c3 x5 h5 p5 c4 x6 h6 p6 c5 c16 c17) (fun x20 h20 p20 => (o16 h1 p1 c1 h2 p2 x3 h3 p3 c2 x4 h4 p4 c3 x5 h5 p5 c4 x6 h6 p6 c5 c16 c17 x20 h20 p20)) (fun x20 h20 p20 => (v21 h1 p1 c1 h2 p2 x3 h3 p3 c2 x4 h4 p4 c3 x5 h5 p5 c4 x6 h6 p6 c5 c16 c17 x20 h20 p20)))))) (fun c16 => (bX12_readLine_96 (v22 h1 p1 c1 h2 p2 x3 h3 p3 c2 x4 h4 p4 c3 x5 h5 p5 c4 x6 h6 p6 c5 c16)))))))) (fun x5 h5 p5 c4 => (bX12_readLine_67 (bX12_readLine_85 (o17 h1 p1 c1 h2 p2 x3 h3 p3 c2 x4 h4 p4 c3 x5 h5 p5 c4) (o17 h1 p1 c1 h2 p2 x3 h3 p3 c2 x4 h4 p4 c3 x5 h5 p5 c4) (fun c26 => (bX12_readLine_98 (o18 h1 p1 c1 h2 p2 x3 h3 p3 c2 x4 h4 p4 c3 x5 h5 p5 c4 c26) (fun c27 => (bX12_readLine_114 (o19 h1 p1 c1 h2 p2 x3 h3 p3 c2 x4 h4 p4 c3 x5 h5 p5 c4 c26 c27) (fun c28 => (bX12_readLine_199 (k21 h1 p1 c1 h2 p2 x3 h3 p3 c2 x4 h4 p4 c3 x5 h5 p5 c4 c26 c27 c28) (fun x21 h21 p21 => (o20 h1 p1 c1 h2 p2 x3 h3 p3 c2 x4 h4 p4 c3 x5 h5 p5 c4 c26 c27 c28 x21 h21 p21)) (fun x21 h21 p21 => (o20 h1 p1 c1 h2 p2 x3 h3 p3 c2 x4 h4 p4 c3 x5 h5 p5 c4 c26 c27 c28 x21 h21 p21)) (fun x21 h21 p21 c29 => (bX12_readLine_245 (bX12_readLine_246 (by decide) (v23 h1 p1 c1 h2 p2 x3 h3 p3 c2 x4 h4 p4 c3 x5 h5 p5 c4 c26 c27 c28 x21 h21 p21 c29)))) (fun x21 h21 p21 c29 => (bX12_readLine_224 (k22 h1 p1 c1 h2 p2 x3 h3 p3 c2 x4 h4 p4 c3 x5 h5 p5 c4 c26 c27 c28 x21 h21 p21 c29) (fun x22 h22 p22 c30 => (bX12_readLine_245 (bX12_readLine_246 (by decide) (v24 h1 p1 c1 h2 p2 x3 h3 p3 c2 x4 h4 p4 c3 x5 h5 p5 c4 c26 c27 c28 x21 h21 p21 c29 x22 h22 p22 c30)))) (fun x22 h22 p22 c30 => (bX12_readLine_233 (k23 h1 p1 c1 h2 p2 x3 h3 p3 c2 x4 h4 p4 c3 x5 h5 p5 c4 c26 c27 c28 x21 h21 p21 c29 x22 h22 p22 c30) (fun x23 h23 p23 c31 => (bX12_readLine_245 (bX12_readLine_246 (by decide) (v25 h1 p1 c1 h2 p2 x3 h3 p3 c2 x4 h4 p4 c3 x5 h5 p5 c4 c26 c27 c28 x21 h21 p21 c29 x22 h22 p22 c30 x23 h23 p23 c31)))) (fun x23 h23 p23 c31 => (bX12_readLine_241 (bX12_readLine_246 (by decide) (v26 h1 p1 c1 h2 p2 x3 h3 p3 c2 x4 h4 p4 c3 x5 h5 p5 c4 c26 c27 c28 x21 h21 p21 c29 x22 h22 p22 c30 x23 h23 p23 c31)))))))))) (fun c28 => (bX12_readLine_123 (k24 h1 p1 c1 h2 p2 x3 h3 p3 c2 x4 h4 p4 c3 x5 h5 p5 c4 c26 c27 c28) (fun h24 p24 c32 => (bX12_readLine_154 (v27 h1 p1 c1 h2 p2 x3 h3 p3 c2 x4 h4 p4 c3 x5 h5 p5 c4 c26 c27 c28 h24 p24 c32))) (fun h24 p24 c32 => (bX12_readLine_140 (o21 h1 p1 c1 h2 p2 x3 h3 p3 c2 x4 h4 p4 c3 x5 h5 p5 c4 c26 c27 c28 h24 p24 c32) (fun c33 => (bX12_readLine_156 (o22 h1 p1 c1 h2 p2 x3 h3 p3 c2 x4 h4 p4 c3 x5 h5 p5 c4 c26 c27 c28 h24 p24 c32 c33) (o23 h1 p1 c1 h2 p2 x3 h3 p3 c2 x4 h4 p4 c3 x5 h5 p5 c4 c26 c27 c28 h24 p24 c32 c33) (k25 h1 p1 c1 h2 p2 x3 h3 p3 c2 x4 h4 p4 c3 x5 h5 p5 c4 c26 c27 c28 h24 p24 c32 c33) (fun x25 h25 p25 c34 => (bX12_readLine_197 (bX12_readLine_198 (by decide) (v28 h1 p1 c1 h2 p2 x3 h3 p3 c2 x4 h4 p4 c3 x5 h5 p5 c4 c26 c27 c28 h24 p24 c32 c33 x25 h25 p25 c34)))) (fun x25 h25 p25 c34 => (bX12_readLine_185 (k26 h1 p1 c1 h2 p2 x3 h3 p3 c2 x4 h4 p4 c3 x5 h5 p5 c4 c26 c27 c28 h24 p24 c32 c33 x25 h25 p25 c34) (fun x26 h26 p26 c35 => (bX12_readLine_197 (bX12_readLine_198 (by decide) (v29 h1 p1 c1 h2 p2 x3 h3 p3 c2 x4 h4 p4 c3 x5 h5 p5 c4 c26 c27 c28 h24 p24 c32 c33 x25 h25 p25 c34 x26 h26 p26 c35)))) (fun x26 h26 p26 c35 => (bX12_readLine_193 (bX12_readLine_198 (by decide) (v30 h1 p1 c1 h2 p2 x3 h3 p3 c2 x4 h4 p4 c3 x5 h5 p5 c4 c26 c27 c28 h24 p24 c32 c33 x25 h25 p25 c34 x26 h26 p26 c35)))))))) (fun c33 => (bX12_readLine_154 (v31 h1 p1 c1 h2 p2 x3 h3 p3 c2 x4 h4 p4 c3 x5 h5 p5 c4 c26 c27 c28 h24 p24 c32 c33))))))))) (fun c27 => (bX12_readLine_108 (k27 h1 p1 c1 h2 p2 x3 h3 p3 c2 x4 h4 p4 c3 x5 h5 p5 c4 c26 c27) (fun x27 h27 p27 => (o24 h1 p1 c1 h2 p2 x3 h3 p3 c2 x4 h4 p4 c3 x5 h5 p5 c4 c26 c27 x27 h27 p27)) (fun x27 h27 p27 => (v32 h1 p1 c1 h2 p2 x3 h3 p3 c2 x4 h4 p4 c3 x5 h5 p5 c4 c26 c27 x27 h27 p27)))))) (fun c26 => (bX12_readLine_96 (v33 h1 p1 c1 h2 p2 x3 h3 p3 c2 x4 h4 p4 c3 x5 h5 p5 c4 c26)))))))) (fun x4 h4 p4 c3 => (bX12_readLine_54 (bX12_readLine_85 (o25 h1 p1 c1 h2 p2 x3 h3 p3 c2 x4 h4 p4 c3) (o25 h1 p1 c1 h2 p2 x3 h3 p3 c2 x4 h4 p4 c3) (fun c36 => (bX12_readLine_98 (o26 h1 p1 c1 h2 p2 x3 h3 p3 c2 x4 h4 p4 c3 c36) (fun c37 => (bX12_readLine_114 (o27 h1 p1 c1 h2 p2 x3 h3 p3 c2 x4 h4 p4 c3 c36 c37) (fun c38 => (bX12_readLine_199 (k28 h1 p1 c1 h2 p2 x3 h3 p3 c2 x4 h4 p4 c3 c36 c37 c38) (fun x28 h28 p28 => (o28 h1 p1 c1 h2 p2 x3 h3 p3 c2 x4 h4 p4 c3 c36 c37 c38 x28 h28 p28)) (fun x28 h28 p28 => (o28 h1 p1 c1 h2 p2 x3 h3 p3 c2 x4 h4 p4 c3 c36 c37 c38 x28 h28 p28)) (fun x28 h28 p28 c39 => (bX12_readLine_245 (bX12_readLine_246 (by decide) (v34 h1 p1 c1 h2 p2 x3 h3 p3 c2 x4 h4 p4 c3 c36 c37 c38 x28 h28 p28 c39)))) (fun x28 h28 p28 c39 => (bX12_readLine_224 (k29 h1 p1 c1 h2 p2 x3 h3 p3 c2 x4 h4 p4 c3 c36 c37 c38 x28 h28 p28 c39) (fun x29 h29 p29 c40 => (bX12_readLine_245 (bX12_readLine_246 (by decide) (v35 h1 p1 c1 h2 p2 x3 h3 p3 c2 x4 h4 p4 c3 c36 c37 c38 x28 h28 p28 c39 x29 h29 p29 c40)))) (fun x29 h29 p29 c40 => (bX12_readLine_233 (k30 h1 p1 c1 h2 p2 x3 h3 p3 c2 x4 h4 p4 c3 c36 c37 c38 x28 h28 p28 c39 x29 h29 p29 c40) (fun x30 h30 p30 c41 => (bX12_readLine_245 (bX12_readLine_246 (by decide) (v36 h1 p1 c1 h2 p2 x3 h3 p3 c2 x4 h4 p4 c3 c36 c37 c38 x28 h28 p28 c39 x29 h29 p29 c40 x30 h30 p30 c41)))) (fun x30 h30 p30 c41 => (bX12_readLine_241 (bX12_readLine_246 (by decide) (v37 h1 p1 c1 h2 p2 x3 h3 p3 c2 x4 h4 p4 c3 c36 c37 c38 x28 h28 p28 c39 x29 h29 p29 c40 x30 h30 p30 c41)))))))))) (fun c38 => (bX12_readLine_123 (k31 h1 p1 c1 h2 p2 x3 h3 p3 c2 x4 h4 p4 c3 c36 c37 c38) (fun h31 p31 c42 => (bX12_readLine_154 (v38 h1 p1 c1 h2 p2 x3 h3 p3 c2 x4 h4 p4 c3 c36 c37 c38 h31 p31 c42))) (fun h31 p31 c42 => (bX12_readLine_140 (o29 h1 p1 c1 h2 p2 x3 h3 p3 c2 x4 h4 p4 c3 c36 c37 c38 h31 p31 c42) (fun c43 => (bX12_readLine_156 (o30 h1 p1 c1 h2 p2 x3 h3 p3 c2 x4 h4 p4 c3 c36 c37 c38 h31 p31 c42 c43) (o31 h1 p1 c1 h2 p2 x3 h3 p3 c2 x4 h4 p4 c3 c36 c37 c38 h31 p31 c42 c43) (k32 h1 p1 c1 h2 p2 x3 h3 p3 c2 x4 h4 p4 c3 c36 c37 c38 h31 p31 c42 c43) (fun x32 h32 p32 c44 => (bX12_readLine_197 (bX12_readLine_198 (by decide) (v39 h1 p1 c1 h2 p2 x3 h3 p3 c2 x4 h4 p4 c3 c36 c37 c38 h31 p31 c42 c43 x32 h32 p32 c44)))) (fun x32 h32 p32 c44 => (bX12_readLine_185 (k33 h1 p1 c1 h2 p2 x3 h3 p3 c2 x4 h4 p4 c3 c36 c37 c38 h31 p31 c42 c43 x32 h32 p32 c44) (fun x33 h33 p33 c45 => (bX12_readLine_197 (bX12_readLine_198 (by decide) (v40 h1 p1 c1 h2 p2 x3 h3 p3 c2 x4 h4 p4 c3 c36 c37 c38 h31 p31 c42 c43 x32 h32 p32 c44 x33 h33 p33 c45)))) (fun x33 h33 p33 c45 => (bX12_readLine_193 (bX12_readLine_198 (by decide) (v41 h1 p1 c1 h2 p2 x3 h3 p3 c2 x4 h4 p4 c3 c36 c37 c38 h31 p31 c42 c43 x32 h32 p32 c44 x33 h33 p33 c45)))))))) (fun c43 => (bX12_readLine_154 (v42 h1 p1 c1 h2 p2 x3 h3 p3 c2 x4 h4 p4 c3 c36 c37 c38 h31 p31 c42 c43))))))))) (fun c37 => (bX12_readLine_108 (k34 h1 p1 c1 h2 p2 x3 h3 p3 c2 x4 h4 p4 c3 c36 c37) (fun x34 h34 p34 => (o32 h1 p1 c1 h2 p2 x3 h3 p3 c2 x4 h4 p4 c3 c36 c37 x34 h34 p34)) (fun x34 h34 p34 => (v43 h1 p1 c1 h2 p2 x3 h3 p3 c2 x4 h4 p4 c3 c36 c37 x34 h34 p34)))))) (fun c36 => (bX12_readLine_96 (v44 h1 p1 c1 h2 p2 x3 h3 p3 c2 x4 h4 p4 c3 c36)))))))) (fun h2 p2 x3 h3 p3 c2 => (bX12_readLine_41 (bX12_readLine_85 (o33 h1 p1 c1 h2 p2 x3 h3 p3 c2) (o33 h1 p1 c1 h2 p2 x3 h3 p3 c2) (fun c46 => (bX12_readLine_98 (o34 h1 p1 c1 h2 p2 x3 h3 p3 c2 c46) (fun c47 => (bX12_readLine_114 (o35 h1 p1 c1 h2 p2 x3 h3 p3 c2 c46 c47) (fun c48 => (bX12_readLine_199 (k35 h1 p1 c1 h2 p2 x3 h3 p3 c2 c46 c47 c48) (fun x35 h35 p35 => (o36 h1 p1 c1 h2 p2 x3 h3 p3 c2 c46 c47 c48 x35 h35 p35)) (fun x35 h35 p35 => (o36 h1 p1 c1 h2 p2 x3 h3 p3 c2 c46 c47 c48 x35 h35 p35)) (fun x35 h35 p35 c49 => (bX12_readLine_245 (bX12_readLine_246 (by decide) (v45 h1 p1 c1 h2 p2 x3 h3 p3 c2 c46 c47 c48 x35 h35 p35 c49)))) (fun x35 h35 p35 c49 => (bX12_readLine_224 (k36 h1 p1 c1 h2 p2 x3 h3 p3 c2 c46 c47 c48 x35 h35 p35 c49) (fun x36 h36 p36 c50 => (bX12_readLine_245 (bX12_readLine_246 (by decide) (v46 h1 p1 c1 h2 p2 x3 h3 p3 c2 c46 c47 c48 x35 h35 p35 c49 x36 h36 p36 c50)))) (fun x36 h36 p36 c50 => (bX12_readLine_233 (k37 h1 p1 c1 h2 p2 x3 h3 p3 c2 c46 c47 c48 x35 h35 p35 c49 x36 h36 p36 c50) (fun x37 h37 p37 c51 => (bX12_readLine_245 (bX12_readLine_246 (by decide) (v47 h1 p1 c1 h2 p2 x3 h3 p3 c2 c46 c47 c48 x35 h35 p35 c49 x36 h36 p36 c50 x37 h37 p37 c51)))) (fun x37 h37 p37 c51 => (bX12_readLine_241 (bX12_readLine_246 (by decide) (v48 h1 p1 c1 h2 p2 x3 h3 p3 c2 c46 c47 c48 x35 h35 p35 c49 x36 h36 p36 c50 x37 h37 p37 c51)))))))))) (fun c48 => (bX12_readLine_123 (k38 h1 p1 c1 h2 p2 x3 h3 p3 c2 c46 c47 c48) (fun h38 p38 c52 => (bX12_readLine_154 (v49 h1 p1 c1 h2 p2 x3 h3 p3 c2 c46 c47 c48 h38 p38 c52))) (fun h38 p38 c52 => (bX12_readLine_140 (o37 h1 p1 c1 h2 p2 x3 h3 p3 c2 c46 c47 c48 h38 p38 c52) (fun c53 => (bX12_readLine_156 (o38 h1 p1 c1 h2 p2 x3 h3 p3 c2 c46 c47 c48 h38 p38 c52 c53) (o39 h1 p1 c1 h2 p2 x3 h3 p3 c2 c46 c47 c48 h38 p38 c52 c53) (k39 h1 p1 c1 h2 p2 x3 h3 p3 c2 c46 c47 c48 h38 p38 c52 c53) (fun x39 h39 p39 c54 => (bX12_readLine_197 (bX12_readLine_198 (by decide) (v50 h1 p1 c1 h2 p2 x3 h3 p3 c2 c46 c47 c48 h38 p38 c52 c53 x39 h39 p39 c54)))) (fun x39 h39 p39 c54 => (bX12_readLine_185 (k40 h1 p1 c1 h2 p2 x3 h3 p3 c2 c46 c47 c48 h38 p38 c52 c53 x39 h39 p39 c54) (fun x40 h40 p40 c55 => (bX12_readLine_197 (bX12_readLine_198 (by decide) (v51 h1 p1 c1 h2 p2 x3 h3 p3 c2 c46 c47 c48 h38 p38 c52 c53 x39 h39 p39 c54 x40 h40 p40 c55)))) (fun x40 h40 p40 c55 => (bX12_readLine_193 (bX12_readLine_198 (by decide) (v52 h1 p1 c1 h2 p2 x3 h3 p3 c2 c46 c47 c48 h38 p38 c52 c53 x39 h39 p39 c54 x40 h40 p40 c55)))))))) (fun c53 => (bX12_readLine_154 (v53 h1 p1 c1 h2 p2 x3 h3 p3 c2 c46 c47 c48 h38 p38 c52 c53))))))))) (fun c47 => (bX12_readLine_108 (k41 h1 p1 c1 h2 p2 x3 h3 p3 c2 c46 c47) (fun x41 h41 p41 => (o40 h1 p1 c1 h2 p2 x3 h3 p3 c2 c46 c47 x41 h41 p41)) (fun x41 h41 p41 => (v54 h1 p1 c1 h2 p2 x3 h3 p3 c2 c46 c47 x41 h41 p41)))))) (fun c46 => (bX12_readLine_96 (v55 h1 p1 c1 h2 p2 x3 h3 p3 c2 c46)))))))) (fun h1 p1 c1 => (bX12_readLine_10 (v56 h1 p1 c1))))
theorem dX12_readAll_0 : decode (mC mX12_readAll) 0 = .ok (.iconst 0, 1) := by decide +kernel
theorem dX12_readAll_1 : decode (mC mX12_readAll) 1 = .ok (.istore_n 1, 1) := by decide +kernel
theorem dX12_readAll_2 : decode (mC mX12_readAll) 2 = .ok (.aload_n 0, 1) := by decide +kernel
theorem dX12_readAll_3 : decode (mC mX12_readAll) 3 = .ok (.iload_n 1, 1) := by decide +kernel
theorem dX12_readAll_4 : decode (mC mX12_readAll) 4 = .ok (.invokevirtual 148, 3) := by decide +kernel
theorem dX12_readAll_7 : decode (mC mX12_readAll) 7 = .ok (.ifCond .ne 5, 3) := by decide +kernel
theorem dX12_readAll_10 : decode (mC mX12_readAll) 10 = .ok (.iconst (-1), 1) := by decide +kernel
theorem dX12_readAll_11 : decode (mC mX12_readAll) 11 = .ok (.ireturn, 1) := by decide +kernel
theorem dX12_readAll_12 : decode (mC mX12_readAll) 12 = .ok (.aload_n 0, 1) := by decide +kernel
theorem dX12_readAll_13 : decode (mC mX12_readAll) 13 = .ok (.invokevirtual 95, 3) := by decide +kernel
theorem dX12_readAll_16 : decode (mC mX12_readAll) 16 = .ok (.aload_n 0, 1) := by decide +kernel
theorem dX12_readAll_17 : decode (mC mX12_readAll) 17 = .ok (.getfield 85, 3) := by decide +kernel
theorem dX12_readAll_20 : decode (mC mX12_readAll) 20 = .ok (.aload_n 0, 1) := by decide +kernel
theorem dX12_readAll_21 : decode (mC mX12_readAll) 21 = .ok (.getfield 82, 3) := by decide +kernel
theorem dX12_readAll_24 : decode (mC mX12_readAll) 24 = .ok (.if_icmp .ne 7, 3) := by decide +kernel
theorem dX12_readAll_27 : decode (mC mX12_readAll) 27 = .ok (.iload_n 1, 1) := by decide +kernel
theorem dX12_readAll_28 : decode (mC mX12_readAll) 28 = .ok (.iconst 1, 1) := by decide +kernel
theorem dX12_readAll_29 : decode (mC mX12_readAll) 29 = .ok (.iadd, 1) := by decide +kernel
theorem dX12_readAll_30 : decode (mC mX12_readAll) 30 = .ok (.ireturn, 1) := by decide +kernel
theorem dX12_readAll_31 : decode (mC mX12_readAll) 31 = .ok (.aload_n 0, 1) := by decide +kernel
theorem dX12_readAll_32 : decode (mC mX12_readAll) 32 = .ok (.bipush 59, 2) := by decide +kernel
theorem dX12_readAll_34 : decode (mC mX12_readAll) 34 = .ok (.bipush 59, 2) := by decide +kernel
theorem dX12_readAll_36 : decode (mC mX12_readAll) 36 = .ok (.invokevirtual 88, 3) := by decide +kernel
theorem dX12_readAll_39 : decode (mC mX12_readAll) 39 = .ok (.ifCond .ne 5, 3) := by decide +kernel
theorem dX12_readAll_42 : decode (mC mX12_readAll) 42 = .ok (.iconst (-1), 1) := by decide +kernel
theorem dX12_readAll_43 : decode (mC mX12_readAll) 43 = .ok (.ireturn, 1) := by decide +kernel
theorem dX12_readAll_44 : decode (mC mX12_readAll) 44 = .ok (.aload_n 0, 1) := by decide +kernel
theorem dX12_readAll_45 : decode (mC mX12_readAll) 45 = .ok (.dup, 1) := by decide +kernel
theorem dX12_readAll_46 : decode (mC mX12_readAll) 46 = .ok (.getfield 85, 3) := by decide +kernel
theorem dX12_readAll_49 : decode (mC mX12_readAll) 49 = .ok (.iconst 1, 1) := by decide +kernel
theorem dX12_readAll_50 : decode (mC mX12_readAll) 50 = .ok (.iadd, 1) := by decide +kernel
theorem dX12_readAll_51 : decode (mC mX12_readAll) 51 = .ok (.putfield 85, 3) := by decide +kernel
theorem dX12_readAll_54 : decode (mC mX12_readAll) 54 = .ok (.iinc 1 1, 3) := by decide +kernel
theorem dX12_readAll_57 : decode (mC mX12_readAll) 57 = .ok (.goto (-55), 3) := by decide +kernel
set_option maxRecDepth 100000 in
theorem bX12_readAll_0 {sc : Nat × (Nat → Int32)} {h : jH} {Q : jQ}
    (v1 : WP mX12_readAll Q 2 [some (.ref 159), some (.int 0)] [] (jG0 sc) h (0, 0)) :
    WP mX12_readAll Q 0 [some (.ref 159), none] [] (jG0 sc) h (0, 0) := by
  refine j_iconst (n := 0) 0 (by decide) dX12_readAll_0 ?_
  refine j_istore_n (i := 1) dX12_readAll_1 (Nat.le_of_ble_eq_true rfl) ?_
  exact j_le [some (.ref 159), some (.int 0)] (And.intro rfl (And.intro rfl True.intro)) v1
set_option maxRecDepth 100000 in
theorem bX12_readAll_2 {sc : Nat × (Nat → Int32)} {h : jH} {Q : jQ} {l1 : Int32} {P1 : Int32 → jH → Prop}
    (k1 : JM mX12_readLine [.ref 159, .int l1] (jG0 sc) h (jint sc P1))
    (v1 : ∀ (x1 : Int32) (h1 : jH), P1 x1 h1 → ¬ x1 = 0 → WP mX12_readAll Q 12 [some (.ref 159), some (.int l1)] [] (jG0 sc) h1 (0, 0))
    (v2 : ∀ (x1 : Int32) (h1 : jH), P1 x1 h1 → x1 = 0 → WP mX12_readAll Q 10 [some (.ref 159), some (.int l1)] [] (jG0 sc) h1 (0, 0)) :
    WP mX12_readAll Q 2 [some (.ref 159), some (.int l1)] [] (jG0 sc) h (0, 0) := by
  refine j_aload_n (i := 0) rfl dX12_readAll_2 ?_
  refine j_iload_n (i := 1) rfl dX12_readAll_3 ?_
  refine j_callV (idx := 148) (As := [.int l1]) (ci := 12) (n := 1) k1 jint_nt (jlkT (jtb6 203 rfl) rfl) sX12_readLine kX12_readLine rfl ⟨rfl, by decide +kernel, by decide +kernel, by decide +kernel⟩ rfl ⟨by decide, by decide⟩ (Nat.le_of_ble_eq_true rfl) rfl (Nat.le_of_ble_eq_true rfl) (Nat.le_of_ble_eq_true rfl) ⟨Nat.zero_le _, Nat.zero_le _⟩ dX12_readAll_4 (fun r Γ' h1 q => ?_)
  obtain ⟨x1, q0, rfl, p1⟩ := q; cases q0
  refine j_eqst [.int x1] (by rfl) ?_
  refine j_if_ne (off := 5) 12 dX12_readAll_7 (by decide) (fun c1 => ?_) (fun c1 => ?_)
  · exact j_le [some (.ref 159), some (.int l1)] (And.intro rfl (And.intro rfl True.intro)) (v1 x1 h1 p1 c1)
  · exact j_le [some (.ref 159), some (.int l1)] (And.intro rfl (And.intro rfl True.intro)) (v2 x1 h1 p1 c1)
set_option maxRecDepth 100000 in
theorem bX12_readAll_10 {sc : Nat × (Nat → Int32)} {h : jH} {Q : jQ} {l1 : Int32}
    (v1 : Q (.inl (some (.int (-1)))) (jG0 sc) h) :
    WP mX12_readAll Q 10 [some (.ref 159), some (.int l1)] [] (jG0 sc) h (0, 0) := by
  refine j_iconst (n := (-1)) (-1) (by decide) dX12_readAll_10 ?_
  exact j_iret rfl rfl (Nat.zero_le _) (Nat.zero_le _) dX12_readAll_11 v1
set_option maxRecDepth 100000 in
theorem bX12_readAll_12 {sc : Nat × (Nat → Int32)} {h : jH} {Q : jQ} {l1 : Int32} {P1 : jH → Prop}
    (k1 : JM mX12_blanks [.ref 159] (jG0 sc) h (jvoid sc P1))
    (v1 : ∀ h1 : jH, P1 h1 → ¬ (h1 159 6) = (h1 159 7) → WP mX12_readAll Q 31 [some (.ref 159), some (.int l1)] [] (jG0 sc) h1 (0, 0))
    (v2 : ∀ h1 : jH, P1 h1 → (h1 159 6) = (h1 159 7) → WP mX12_readAll Q 27 [some (.ref 159), some (.int l1)] [] (jG0 sc) h1 (0, 0)) :
    WP mX12_readAll Q 12 [some (.ref 159), some (.int l1)] [] (jG0 sc) h (0, 0) := by
  refine j_aload_n (i := 0) rfl dX12_readAll_12 ?_
  refine j_callV (idx := 95) (As := []) (ci := 12) (n := 0) k1 jvoid_nt (jlkT (jtb6 211 rfl) rfl) sX12_blanks kX12_blanks rfl ⟨rfl, by decide +kernel, by decide +kernel, by decide +kernel⟩ rfl ⟨by decide, by decide⟩ (Nat.le_of_ble_eq_true rfl) rfl (Nat.le_of_ble_eq_true rfl) (Nat.le_of_ble_eq_true rfl) ⟨Nat.zero_le _, Nat.zero_le _⟩ dX12_readAll_13 (fun r Γ' h1 q => ?_)
  obtain ⟨q0, rfl, p1⟩ := q; cases q0
  refine j_eqst [] (by rfl) ?_
  refine j_aload_n (i := 0) rfl dX12_readAll_16 ?_
  refine j_getI (idx := 85) (ci := 12) (k := 6) (nest := false) (show (12, 85, 12, 6, false) ∈ jFT by decide) rfl (Nat.le_of_ble_eq_true rfl) rfl dX12_readAll_17 ?_
  refine j_aload_n (i := 0) rfl dX12_readAll_20 ?_
  refine j_getI (idx := 82) (ci := 12) (k := 7) (nest := false) (show (12, 82, 12, 7, false) ∈ jFT by decide) rfl (Nat.le_of_ble_eq_true rfl) rfl dX12_readAll_21 ?_
  refine j_icmp_ne (off := 7) 31 dX12_readAll_24 (by decide) (fun c1 => ?_) (fun c1 => ?_)
  · exact j_le [some (.ref 159), some (.int l1)] (And.intro rfl (And.intro rfl True.intro)) (v1 h1 p1 c1)
  · exact j_le [some (.ref 159), some (.int l1)] (And.intro rfl (And.intro rfl True.intro)) (v2 h1 p1 c1)
set_option maxRecDepth 100000 in
theorem bX12_readAll_27 {sc : Nat × (Nat → Int32)} {h : jH} {Q : jQ} {l1 : Int32}
    (v1 : Q (.inl (some (.int (l1 + 1)))) (jG0 sc) h) :
    WP mX12_readAll Q 27 [some (.ref 159), some (.int l1)] [] (jG0 sc) h (0, 0) := by
  refine j_iload_n (i := 1) rfl dX12_readAll_27 ?_
  refine j_iconst (n := 1) 1 (by decide) dX12_readAll_28 ?_
  refine j_iadd dX12_readAll_29 ?_
  exact j_iret rfl rfl (Nat.zero_le _) (Nat.zero_le _) dX12_readAll_30 v1
set_option maxRecDepth 100000 in
theorem bX12_readAll_31 {sc : Nat × (Nat → Int32)} {h : jH} {Q : jQ} {l1 : Int32} {P1 : Int32 → jH → Prop}
    (k1 : JM mX12_isAt [.ref 159, .int 59, .int 59] (jG0 sc) h (jint sc P1))
    (v1 : ∀ (x1 : Int32) (h1 : jH), P1 x1 h1 → ¬ x1 = 0 → WP mX12_readAll Q 44 [some (.ref 159), some (.int l1)] [] (jG0 sc) h1 (0, 0))
    (v2 : ∀ (x1 : Int32) (h1 : jH), P1 x1 h1 → x1 = 0 → WP mX12_readAll Q 42 [some (.ref 159), some (.int l1)] [] (jG0 sc) h1 (0, 0)) :
    WP mX12_readAll Q 31 [some (.ref 159), some (.int l1)] [] (jG0 sc) h (0, 0) := by
  refine j_aload_n (i := 0) rfl dX12_readAll_31 ?_
  refine j_bipush (n := 59) 59 (by decide) dX12_readAll_32 ?_
  refine j_bipush (n := 59) 59 (by decide) dX12_readAll_34 ?_
  refine j_callV (idx := 88) (As := [.int 59, .int 59]) (ci := 12) (n := 2) k1 jint_nt (jlkT (jtb6 215 rfl) rfl) sX12_isAt kX12_isAt rfl ⟨rfl, by decide +kernel, by decide +kernel, by decide +kernel⟩ rfl ⟨by decide, by decide⟩ (Nat.le_of_ble_eq_true rfl) rfl (Nat.le_of_ble_eq_true rfl) (Nat.le_of_ble_eq_true rfl) ⟨Nat.zero_le _, Nat.zero_le _⟩ dX12_readAll_36 (fun r Γ' h1 q => ?_)
  obtain ⟨x1, q0, rfl, p1⟩ := q; cases q0
  refine j_eqst [.int x1] (by rfl) ?_
  refine j_if_ne (off := 5) 44 dX12_readAll_39 (by decide) (fun c1 => ?_) (fun c1 => ?_)
  · exact j_le [some (.ref 159), some (.int l1)] (And.intro rfl (And.intro rfl True.intro)) (v1 x1 h1 p1 c1)
  · exact j_le [some (.ref 159), some (.int l1)] (And.intro rfl (And.intro rfl True.intro)) (v2 x1 h1 p1 c1)
set_option maxRecDepth 100000 in
theorem bX12_readAll_42 {sc : Nat × (Nat → Int32)} {h : jH} {Q : jQ} {l1 : Int32}
    (v1 : Q (.inl (some (.int (-1)))) (jG0 sc) h) :
    WP mX12_readAll Q 42 [some (.ref 159), some (.int l1)] [] (jG0 sc) h (0, 0) := by
  refine j_iconst (n := (-1)) (-1) (by decide) dX12_readAll_42 ?_
  exact j_iret rfl rfl (Nat.zero_le _) (Nat.zero_le _) dX12_readAll_43 v1
set_option maxRecDepth 100000 in
theorem bX12_readAll_44 {sc : Nat × (Nat → Int32)} {h : jH} {Q : jQ} {l1 : Int32}
    (v1 : WP mX12_readAll Q 2 [some (.ref 159), some (.int (l1 + 1))] [] (jG0 sc) (jput h 159 6 ((h 159 6) + 1)) (0, 0)) :
    WP mX12_readAll Q 44 [some (.ref 159), some (.int l1)] [] (jG0 sc) h (0, 0) := by
  refine j_aload_n (i := 0) rfl dX12_readAll_44 ?_
  refine j_dup rfl dX12_readAll_45 ?_
  refine j_getI (idx := 85) (ci := 12) (k := 6) (nest := false) (show (12, 85, 12, 6, false) ∈ jFT by decide) rfl (Nat.le_of_ble_eq_true rfl) rfl dX12_readAll_46 ?_
  refine j_iconst (n := 1) 1 (by decide) dX12_readAll_49 ?_
  refine j_iadd dX12_readAll_50 ?_
  refine j_putI (idx := 85) (ci := 12) (k := 6) (nest := false) (show (12, 85, 12, 6, false) ∈ jFT by decide) rfl rfl rfl rfl (Nat.le_of_ble_eq_true rfl) rfl dX12_readAll_51 ?_
  refine j_iinc (i := 1) (n := 1) rfl dX12_readAll_54 (Nat.le_of_ble_eq_true rfl) ?_
  refine j_eqlv [some (.ref 159), some (.int (l1 + 1))] rfl ?_
  refine j_goto (off := -55) 2 dX12_readAll_57 (by decide) ?_
  exact j_le [some (.ref 159), some (.int (l1 + 1))] (And.intro rfl (And.intro rfl True.intro)) v1
set_option maxRecDepth 100000 in
theorem rX12_readAll_0 {sc : Nat × (Nat → Int32)} {h : jH} {Q : jQ}
    (v1 : WP mX12_readAll Q 2 [some (.ref 159), some (.int 0)] [] (jG0 sc) h (0, 0)) :
    WP mX12_readAll Q 0 [some (.ref 159), none] [] (jG0 sc) h (0, 0) := by
  exact (bX12_readAll_0 v1)
set_option maxRecDepth 100000 in
theorem rX12_readAll_2 {sc : Nat × (Nat → Int32)} {h : jH} {Q : jQ} {l1 : Int32} {P1 : Int32 → jH → Prop} {P2 : jH → Prop} {P3 : Int32 → jH → Prop}
    (k1 : JM mX12_readLine [.ref 159, .int l1] (jG0 sc) h (jint sc P1))
    (k2 : ∀ (x1 : Int32) (h1 : jH), P1 x1 h1 → ¬ x1 = 0 → JM mX12_blanks [.ref 159] (jG0 sc) h1 (jvoid sc P2))
    (k3 : ∀ (x1 : Int32) (h1 : jH), P1 x1 h1 → ¬ x1 = 0 → ∀ h2 : jH, P2 h2 → ¬ (h2 159 6) = (h2 159 7) → JM mX12_isAt [.ref 159, .int 59, .int 59] (jG0 sc) h2 (jint sc P3))
    (v1 : ∀ (x1 : Int32) (h1 : jH), P1 x1 h1 → ¬ x1 = 0 → ∀ h2 : jH, P2 h2 → ¬ (h2 159 6) = (h2 159 7) → ∀ (x3 : Int32) (h3 : jH), P3 x3 h3 → ¬ x3 = 0 → WP mX12_readAll Q 2 [some (.ref 159), some (.int (l1 + 1))] [] (jG0 sc) (jput h3 159 6 ((h3 159 6) + 1)) (0, 0))
    (v2 : ∀ (x1 : Int32) (h1 : jH), P1 x1 h1 → ¬ x1 = 0 → ∀ h2 : jH, P2 h2 → ¬ (h2 159 6) = (h2 159 7) → ∀ (x3 : Int32) (h3 : jH), P3 x3 h3 → x3 = 0 → Q (.inl (some (.int (-1)))) (jG0 sc) h3)
    (v3 : ∀ (x1 : Int32) (h1 : jH), P1 x1 h1 → ¬ x1 = 0 → ∀ h2 : jH, P2 h2 → (h2 159 6) = (h2 159 7) → Q (.inl (some (.int (l1 + 1)))) (jG0 sc) h2)
    (v4 : ∀ (x1 : Int32) (h1 : jH), P1 x1 h1 → x1 = 0 → Q (.inl (some (.int (-1)))) (jG0 sc) h1) :
    WP mX12_readAll Q 2 [some (.ref 159), some (.int l1)] [] (jG0 sc) h (0, 0) := by
  exact (bX12_readAll_2 k1 (fun x1 h1 p1 c1 => (bX12_readAll_12 (k2 x1 h1 p1 c1) (fun h2 p2 c2 => (bX12_readAll_31 (k3 x1 h1 p1 c1 h2 p2 c2) (fun x3 h3 p3 c3 => (bX12_readAll_44 (v1 x1 h1 p1 c1 h2 p2 c2 x3 h3 p3 c3))) (fun x3 h3 p3 c3 => (bX12_readAll_42 (v2 x1 h1 p1 c1 h2 p2 c2 x3 h3 p3 c3))))) (fun h2 p2 c2 => (bX12_readAll_27 (v3 x1 h1 p1 c1 h2 p2 c2))))) (fun x1 h1 p1 c1 => (bX12_readAll_10 (v4 x1 h1 p1 c1))))
theorem dX12_forgets_0 : decode (mC mX12_forgets) 0 = .ok (.aload_n 0, 1) := by decide +kernel
theorem dX12_forgets_1 : decode (mC mX12_forgets) 1 = .ok (.getfield 13, 3) := by decide +kernel
theorem dX12_forgets_4 : decode (mC mX12_forgets) 4 = .ok (.sipush 159, 3) := by decide +kernel
theorem dX12_forgets_7 : decode (mC mX12_forgets) 7 = .ok (.iconst 0, 1) := by decide +kernel
theorem dX12_forgets_8 : decode (mC mX12_forgets) 8 = .ok (.iastore, 1) := by decide +kernel
theorem dX12_forgets_9 : decode (mC mX12_forgets) 9 = .ok (.aload_n 0, 1) := by decide +kernel
theorem dX12_forgets_10 : decode (mC mX12_forgets) 10 = .ok (.getfield 13, 3) := by decide +kernel
theorem dX12_forgets_13 : decode (mC mX12_forgets) 13 = .ok (.sipush 160, 3) := by decide +kernel
theorem dX12_forgets_16 : decode (mC mX12_forgets) 16 = .ok (.iconst 0, 1) := by decide +kernel
theorem dX12_forgets_17 : decode (mC mX12_forgets) 17 = .ok (.iastore, 1) := by decide +kernel
theorem dX12_forgets_18 : decode (mC mX12_forgets) 18 = .ok (.aload_n 0, 1) := by decide +kernel
theorem dX12_forgets_19 : decode (mC mX12_forgets) 19 = .ok (.getfield 13, 3) := by decide +kernel
theorem dX12_forgets_22 : decode (mC mX12_forgets) 22 = .ok (.sipush 161, 3) := by decide +kernel
theorem dX12_forgets_25 : decode (mC mX12_forgets) 25 = .ok (.iconst 0, 1) := by decide +kernel
theorem dX12_forgets_26 : decode (mC mX12_forgets) 26 = .ok (.iastore, 1) := by decide +kernel
theorem dX12_forgets_27 : decode (mC mX12_forgets) 27 = .ok (.aload_n 0, 1) := by decide +kernel
theorem dX12_forgets_28 : decode (mC mX12_forgets) 28 = .ok (.getfield 13, 3) := by decide +kernel
theorem dX12_forgets_31 : decode (mC mX12_forgets) 31 = .ok (.sipush 162, 3) := by decide +kernel
theorem dX12_forgets_34 : decode (mC mX12_forgets) 34 = .ok (.iconst 0, 1) := by decide +kernel
theorem dX12_forgets_35 : decode (mC mX12_forgets) 35 = .ok (.iastore, 1) := by decide +kernel
theorem dX12_forgets_36 : decode (mC mX12_forgets) 36 = .ok (.aload_n 0, 1) := by decide +kernel
theorem dX12_forgets_37 : decode (mC mX12_forgets) 37 = .ok (.getfield 13, 3) := by decide +kernel
theorem dX12_forgets_40 : decode (mC mX12_forgets) 40 = .ok (.sipush 163, 3) := by decide +kernel
theorem dX12_forgets_43 : decode (mC mX12_forgets) 43 = .ok (.iconst 0, 1) := by decide +kernel
theorem dX12_forgets_44 : decode (mC mX12_forgets) 44 = .ok (.iastore, 1) := by decide +kernel
theorem dX12_forgets_45 : decode (mC mX12_forgets) 45 = .ok (.aload_n 0, 1) := by decide +kernel
theorem dX12_forgets_46 : decode (mC mX12_forgets) 46 = .ok (.getfield 13, 3) := by decide +kernel
theorem dX12_forgets_49 : decode (mC mX12_forgets) 49 = .ok (.sipush 254, 3) := by decide +kernel
theorem dX12_forgets_52 : decode (mC mX12_forgets) 52 = .ok (.iconst 0, 1) := by decide +kernel
theorem dX12_forgets_53 : decode (mC mX12_forgets) 53 = .ok (.iastore, 1) := by decide +kernel
theorem dX12_forgets_54 : decode (mC mX12_forgets) 54 = .ok (.return_, 1) := by decide +kernel
set_option maxRecDepth 100000 in
theorem bX12_forgets_0 {sc : Nat × (Nat → Int32)} {h : jH} {Q : jQ}
    (v1 : WP mX12_forgets Q 43 [some (.ref 159)] [.int 163, .ref 160] (jG0 sc) (jput (jput (jput (jput h 160 159 0) 160 160 0) 160 161 0) 160 162 0) (0, 0)) :
    WP mX12_forgets Q 0 [some (.ref 159)] [] (jG0 sc) h (0, 0) := by
  refine j_aload_n (i := 0) rfl dX12_forgets_0 ?_
  refine j_getR (idx := 13) (ci := 12) (k := 1) (nest := false) (show (12, 13, 12, 1, false) ∈ jFT by decide) rfl (Nat.le_of_ble_eq_true rfl) rfl (a := 160) rfl dX12_forgets_1 ?_
  refine j_sipush (n := 159) 159 (by decide) dX12_forgets_4 ?_
  refine j_iconst (n := 0) 0 (by decide) dX12_forgets_7 ?_
  refine j_iast (Nat.le_of_ble_eq_true rfl) rfl (jinl (n := 1454) (by decide)) dX12_forgets_8 ?_
  refine j_aload_n (i := 0) rfl dX12_forgets_9 ?_
  refine j_getR (idx := 13) (ci := 12) (k := 1) (nest := false) (show (12, 13, 12, 1, false) ∈ jFT by decide) rfl (Nat.le_of_ble_eq_true rfl) rfl (a := 160) rfl dX12_forgets_10 ?_
  refine j_sipush (n := 160) 160 (by decide) dX12_forgets_13 ?_
  refine j_iconst (n := 0) 0 (by decide) dX12_forgets_16 ?_
  refine j_iast (Nat.le_of_ble_eq_true rfl) rfl (jinl (n := 1454) (by decide)) dX12_forgets_17 ?_
  refine j_aload_n (i := 0) rfl dX12_forgets_18 ?_
  refine j_getR (idx := 13) (ci := 12) (k := 1) (nest := false) (show (12, 13, 12, 1, false) ∈ jFT by decide) rfl (Nat.le_of_ble_eq_true rfl) rfl (a := 160) rfl dX12_forgets_19 ?_
  refine j_sipush (n := 161) 161 (by decide) dX12_forgets_22 ?_
  refine j_iconst (n := 0) 0 (by decide) dX12_forgets_25 ?_
  refine j_iast (Nat.le_of_ble_eq_true rfl) rfl (jinl (n := 1454) (by decide)) dX12_forgets_26 ?_
  refine j_aload_n (i := 0) rfl dX12_forgets_27 ?_
  refine j_getR (idx := 13) (ci := 12) (k := 1) (nest := false) (show (12, 13, 12, 1, false) ∈ jFT by decide) rfl (Nat.le_of_ble_eq_true rfl) rfl (a := 160) rfl dX12_forgets_28 ?_
  refine j_sipush (n := 162) 162 (by decide) dX12_forgets_31 ?_
  refine j_iconst (n := 0) 0 (by decide) dX12_forgets_34 ?_
  refine j_iast (Nat.le_of_ble_eq_true rfl) rfl (jinl (n := 1454) (by decide)) dX12_forgets_35 ?_
  refine j_aload_n (i := 0) rfl dX12_forgets_36 ?_
  refine j_getR (idx := 13) (ci := 12) (k := 1) (nest := false) (show (12, 13, 12, 1, false) ∈ jFT by decide) rfl (Nat.le_of_ble_eq_true rfl) rfl (a := 160) rfl dX12_forgets_37 ?_
  refine j_sipush (n := 163) 163 (by decide) dX12_forgets_40 ?_
  exact j_le [some (.ref 159)] (And.intro rfl True.intro) v1
set_option maxRecDepth 100000 in
theorem bX12_forgets_43 {sc : Nat × (Nat → Int32)} {h : jH} {Q : jQ} {s0 : Int32}
    (o1 : vp_in s0 1454)
    (v1 : Q (.inl none) (jG0 sc) (jput (jput h 160 s0.toNatClampNeg 0) 160 254 0)) :
    WP mX12_forgets Q 43 [some (.ref 159)] [.int s0, .ref 160] (jG0 sc) h (0, 0) := by
  refine j_iconst (n := 0) 0 (by decide) dX12_forgets_43 ?_
  refine j_iast (Nat.le_of_ble_eq_true rfl) rfl o1 dX12_forgets_44 ?_
  refine j_aload_n (i := 0) rfl dX12_forgets_45 ?_
  refine j_getR (idx := 13) (ci := 12) (k := 1) (nest := false) (show (12, 13, 12, 1, false) ∈ jFT by decide) rfl (Nat.le_of_ble_eq_true rfl) rfl (a := 160) rfl dX12_forgets_46 ?_
  refine j_sipush (n := 254) 254 (by decide) dX12_forgets_49 ?_
  refine j_iconst (n := 0) 0 (by decide) dX12_forgets_52 ?_
  refine j_iast (Nat.le_of_ble_eq_true rfl) rfl (jinl (n := 1454) (by decide)) dX12_forgets_53 ?_
  exact j_vret rfl (Nat.zero_le _) (Nat.zero_le _) dX12_forgets_54 v1
set_option maxRecDepth 100000 in
theorem rX12_forgets_0 {sc : Nat × (Nat → Int32)} {h : jH} {Q : jQ}
    (v1 : Q (.inl none) (jG0 sc) (jput (jput (jput (jput (jput (jput h 160 159 0) 160 160 0) 160 161 0) 160 162 0) 160 ((163 : Int32).toNatClampNeg) 0) 160 254 0)) :
    WP mX12_forgets Q 0 [some (.ref 159)] [] (jG0 sc) h (0, 0) := by
  exact (bX12_forgets_0 (bX12_forgets_43 (jinl (n := 1454) (by decide)) v1))
theorem dX12_body_0 : decode (mC mX12_body) 0 = .ok (.aload_n 0, 1) := by decide +kernel
theorem dX12_body_1 : decode (mC mX12_body) 1 = .ok (.invokevirtual 151, 3) := by decide +kernel
theorem dX12_body_4 : decode (mC mX12_body) 4 = .ok (.aload_n 0, 1) := by decide +kernel
theorem dX12_body_5 : decode (mC mX12_body) 5 = .ok (.invokevirtual 154, 3) := by decide +kernel
theorem dX12_body_8 : decode (mC mX12_body) 8 = .ok (.istore_n 2, 1) := by decide +kernel
theorem dX12_body_9 : decode (mC mX12_body) 9 = .ok (.aload_n 0, 1) := by decide +kernel
theorem dX12_body_10 : decode (mC mX12_body) 10 = .ok (.iload_n 2, 1) := by decide +kernel
theorem dX12_body_11 : decode (mC mX12_body) 11 = .ok (.ifCond .ge 10, 3) := by decide +kernel
theorem dX12_body_14 : decode (mC mX12_body) 14 = .ok (.aload_n 0, 1) := by decide +kernel
theorem dX12_body_15 : decode (mC mX12_body) 15 = .ok (.getfield 92, 3) := by decide +kernel
theorem dX12_body_18 : decode (mC mX12_body) 18 = .ok (.goto 4, 3) := by decide +kernel
theorem dX12_body_21 : decode (mC mX12_body) 21 = .ok (.iconst (-1), 1) := by decide +kernel
theorem dX12_body_22 : decode (mC mX12_body) 22 = .ok (.putfield 24, 3) := by decide +kernel
theorem dX12_body_25 : decode (mC mX12_body) 25 = .ok (.aload_n 0, 1) := by decide +kernel
theorem dX12_body_26 : decode (mC mX12_body) 26 = .ok (.iload_n 2, 1) := by decide +kernel
theorem dX12_body_27 : decode (mC mX12_body) 27 = .ok (.ifCond .ge 7, 3) := by decide +kernel
theorem dX12_body_30 : decode (mC mX12_body) 30 = .ok (.iconst 1, 1) := by decide +kernel
theorem dX12_body_31 : decode (mC mX12_body) 31 = .ok (.goto 4, 3) := by decide +kernel
theorem dX12_body_34 : decode (mC mX12_body) 34 = .ok (.iconst 0, 1) := by decide +kernel
theorem dX12_body_35 : decode (mC mX12_body) 35 = .ok (.iconst 1, 1) := by decide +kernel
theorem dX12_body_36 : decode (mC mX12_body) 36 = .ok (.invokevirtual 157, 3) := by decide +kernel
theorem dX12_body_39 : decode (mC mX12_body) 39 = .ok (.ifCond .eq 5, 3) := by decide +kernel
theorem dX12_body_42 : decode (mC mX12_body) 42 = .ok (.iconst 0, 1) := by decide +kernel
theorem dX12_body_43 : decode (mC mX12_body) 43 = .ok (.ireturn, 1) := by decide +kernel
theorem dX12_body_44 : decode (mC mX12_body) 44 = .ok (.aload_n 0, 1) := by decide +kernel
theorem dX12_body_45 : decode (mC mX12_body) 45 = .ok (.getfield 30, 3) := by decide +kernel
theorem dX12_body_48 : decode (mC mX12_body) 48 = .ok (.iconst 0, 1) := by decide +kernel
theorem dX12_body_49 : decode (mC mX12_body) 49 = .ok (.iload_n 2, 1) := by decide +kernel
theorem dX12_body_50 : decode (mC mX12_body) 50 = .ok (.iastore, 1) := by decide +kernel
theorem dX12_body_51 : decode (mC mX12_body) 51 = .ok (.iconst 0, 1) := by decide +kernel
theorem dX12_body_52 : decode (mC mX12_body) 52 = .ok (.istore_n 3, 1) := by decide +kernel
theorem dX12_body_53 : decode (mC mX12_body) 53 = .ok (.iload_n 3, 1) := by decide +kernel
theorem dX12_body_54 : decode (mC mX12_body) 54 = .ok (.bipush 61, 2) := by decide +kernel
theorem dX12_body_56 : decode (mC mX12_body) 56 = .ok (.if_icmp .ge 32, 3) := by decide +kernel
theorem dX12_body_59 : decode (mC mX12_body) 59 = .ok (.aload_n 0, 1) := by decide +kernel
theorem dX12_body_60 : decode (mC mX12_body) 60 = .ok (.getfield 13, 3) := by decide +kernel
theorem dX12_body_63 : decode (mC mX12_body) 63 = .ok (.iload_n 1, 1) := by decide +kernel
theorem dX12_body_64 : decode (mC mX12_body) 64 = .ok (.ifCond .eq 8, 3) := by decide +kernel
theorem dX12_body_67 : decode (mC mX12_body) 67 = .ok (.bipush 61, 2) := by decide +kernel
theorem dX12_body_69 : decode (mC mX12_body) 69 = .ok (.goto 4, 3) := by decide +kernel
theorem dX12_body_72 : decode (mC mX12_body) 72 = .ok (.iconst 0, 1) := by decide +kernel
theorem dX12_body_73 : decode (mC mX12_body) 73 = .ok (.iload_n 3, 1) := by decide +kernel
theorem dX12_body_74 : decode (mC mX12_body) 74 = .ok (.iadd, 1) := by decide +kernel
theorem dX12_body_75 : decode (mC mX12_body) 75 = .ok (.aload_n 0, 1) := by decide +kernel
theorem dX12_body_76 : decode (mC mX12_body) 76 = .ok (.getfield 30, 3) := by decide +kernel
theorem dX12_body_79 : decode (mC mX12_body) 79 = .ok (.iload_n 3, 1) := by decide +kernel
theorem dX12_body_80 : decode (mC mX12_body) 80 = .ok (.iaload, 1) := by decide +kernel
theorem dX12_body_81 : decode (mC mX12_body) 81 = .ok (.iastore, 1) := by decide +kernel
theorem dX12_body_82 : decode (mC mX12_body) 82 = .ok (.iinc 3 1, 3) := by decide +kernel
theorem dX12_body_85 : decode (mC mX12_body) 85 = .ok (.goto (-32), 3) := by decide +kernel
theorem dX12_body_88 : decode (mC mX12_body) 88 = .ok (.iload_n 1, 1) := by decide +kernel
theorem dX12_body_89 : decode (mC mX12_body) 89 = .ok (.ifCond .eq 5, 3) := by decide +kernel
theorem dX12_body_92 : decode (mC mX12_body) 92 = .ok (.iload_n 2, 1) := by decide +kernel
theorem dX12_body_93 : decode (mC mX12_body) 93 = .ok (.ireturn, 1) := by decide +kernel
theorem dX12_body_94 : decode (mC mX12_body) 94 = .ok (.aload_n 0, 1) := by decide +kernel
theorem dX12_body_95 : decode (mC mX12_body) 95 = .ok (.invokevirtual 161, 3) := by decide +kernel
theorem dX12_body_98 : decode (mC mX12_body) 98 = .ok (.aload_n 0, 1) := by decide +kernel
theorem dX12_body_99 : decode (mC mX12_body) 99 = .ok (.getfield 13, 3) := by decide +kernel
theorem dX12_body_102 : decode (mC mX12_body) 102 = .ok (.sipush 286, 3) := by decide +kernel
theorem dX12_body_105 : decode (mC mX12_body) 105 = .ok (.iconst 0, 1) := by decide +kernel
theorem dX12_body_106 : decode (mC mX12_body) 106 = .ok (.iastore, 1) := by decide +kernel
theorem dX12_body_107 : decode (mC mX12_body) 107 = .ok (.iload_n 2, 1) := by decide +kernel
theorem dX12_body_108 : decode (mC mX12_body) 108 = .ok (.ireturn, 1) := by decide +kernel
set_option maxRecDepth 100000 in
theorem bX12_body_0 {sc : Nat × (Nat → Int32)} {h : jH} {Q : jQ} {l1 : Int32} {P1 : jH → Prop} {P2 : Int32 → jH → Prop}
    (k1 : JM mX12_uses [.ref 159] (jG0 sc) h (jvoid sc P1))
    (k2 : ∀ h1 : jH, P1 h1 → JM mX12_readAll [.ref 159] (jG0 sc) h1 (jint sc P2))
    (v1 : ∀ h1 : jH, P1 h1 → ∀ (x2 : Int32) (h2 : jH), P2 x2 h2 → 0 ≤ x2 → WP mX12_body Q 21 [some (.ref 159), some (.int l1), some (.int x2), none] [.ref 159] (jG0 sc) h2 (0, 0))
    (v2 : ∀ h1 : jH, P1 h1 → ∀ (x2 : Int32) (h2 : jH), P2 x2 h2 → ¬ 0 ≤ x2 → WP mX12_body Q 14 [some (.ref 159), some (.int l1), some (.int x2), none] [.ref 159] (jG0 sc) h2 (0, 0)) :
    WP mX12_body Q 0 [some (.ref 159), some (.int l1), none, none] [] (jG0 sc) h (0, 0) := by
  refine j_aload_n (i := 0) rfl dX12_body_0 ?_
  refine j_callV (idx := 151) (As := []) (ci := 12) (n := 0) k1 jvoid_nt (jlkT (jtb6 195 rfl) rfl) sX12_uses kX12_uses rfl ⟨rfl, by decide +kernel, by decide +kernel, by decide +kernel⟩ rfl ⟨by decide, by decide⟩ (Nat.le_of_ble_eq_true rfl) rfl (Nat.le_of_ble_eq_true rfl) (Nat.le_of_ble_eq_true rfl) ⟨Nat.zero_le _, Nat.zero_le _⟩ dX12_body_1 (fun r Γ' h1 q => ?_)
  obtain ⟨q0, rfl, p1⟩ := q; cases q0
  refine j_eqst [] (by rfl) ?_
  refine j_aload_n (i := 0) rfl dX12_body_4 ?_
  refine j_callV (idx := 154) (As := []) (ci := 12) (n := 0) (k2 h1 p1) jint_nt (jlkT (jtb6 199 rfl) rfl) sX12_readAll kX12_readAll rfl ⟨rfl, by decide +kernel, by decide +kernel, by decide +kernel⟩ rfl ⟨by decide, by decide⟩ (Nat.le_of_ble_eq_true rfl) rfl (Nat.le_of_ble_eq_true rfl) (Nat.le_of_ble_eq_true rfl) ⟨Nat.zero_le _, Nat.zero_le _⟩ dX12_body_5 (fun r Γ' h2 q => ?_)
  obtain ⟨x2, q0, rfl, p2⟩ := q; cases q0
  refine j_eqst [.int x2] (by rfl) ?_
  refine j_istore_n (i := 2) dX12_body_8 (Nat.le_of_ble_eq_true rfl) ?_
  refine j_aload_n (i := 0) rfl dX12_body_9 ?_
  refine j_iload_n (i := 2) rfl dX12_body_10 ?_
  refine j_if_ge (off := 10) 21 dX12_body_11 (by decide) (fun c1 => ?_) (fun c1 => ?_)
  · exact j_le [some (.ref 159), some (.int l1), some (.int x2), none] (And.intro rfl (And.intro rfl (And.intro rfl True.intro))) (v1 h1 p1 x2 h2 p2 c1)
  · exact j_le [some (.ref 159), some (.int l1), some (.int x2), none] (And.intro rfl (And.intro rfl (And.intro rfl True.intro))) (v2 h1 p1 x2 h2 p2 c1)
set_option maxRecDepth 100000 in
theorem bX12_body_14 {sc : Nat × (Nat → Int32)} {h : jH} {Q : jQ} {l1 l2 : Int32}
    (v1 : WP mX12_body Q 22 [some (.ref 159), some (.int l1), some (.int l2), none] [.int (h 159 8), .ref 159] (jG0 sc) h (0, 0)) :
    WP mX12_body Q 14 [some (.ref 159), some (.int l1), some (.int l2), none] [.ref 159] (jG0 sc) h (0, 0) := by
  refine j_aload_n (i := 0) rfl dX12_body_14 ?_
  refine j_getI (idx := 92) (ci := 12) (k := 8) (nest := false) (show (12, 92, 12, 8, false) ∈ jFT by decide) rfl (Nat.le_of_ble_eq_true rfl) rfl dX12_body_15 ?_
  refine j_goto (off := 4) 22 dX12_body_18 (by decide) ?_
  exact j_le [some (.ref 159), some (.int l1), some (.int l2), none] (And.intro rfl (And.intro rfl (And.intro rfl True.intro))) v1
set_option maxRecDepth 100000 in
theorem bX12_body_21 {sc : Nat × (Nat → Int32)} {h : jH} {Q : jQ} {l1 l2 : Int32}
    (v1 : WP mX12_body Q 22 [some (.ref 159), some (.int l1), some (.int l2), none] [.int (-1), .ref 159] (jG0 sc) h (0, 0)) :
    WP mX12_body Q 21 [some (.ref 159), some (.int l1), some (.int l2), none] [.ref 159] (jG0 sc) h (0, 0) := by
  refine j_iconst (n := (-1)) (-1) (by decide) dX12_body_21 ?_
  exact j_le [some (.ref 159), some (.int l1), some (.int l2), none] (And.intro rfl (And.intro rfl (And.intro rfl True.intro))) v1
set_option maxRecDepth 100000 in
theorem bX12_body_22 {sc : Nat × (Nat → Int32)} {h : jH} {Q : jQ} {l1 l2 s0 : Int32}
    (v1 : 0 ≤ l2 → WP mX12_body Q 34 [some (.ref 159), some (.int l1), some (.int l2), none] [.ref 159] (jG0 sc) (jput h 159 10 s0) (0, 0))
    (v2 : ¬ 0 ≤ l2 → WP mX12_body Q 30 [some (.ref 159), some (.int l1), some (.int l2), none] [.ref 159] (jG0 sc) (jput h 159 10 s0) (0, 0)) :
    WP mX12_body Q 22 [some (.ref 159), some (.int l1), some (.int l2), none] [.int s0, .ref 159] (jG0 sc) h (0, 0) := by
  refine j_putI (idx := 24) (ci := 12) (k := 10) (nest := false) (show (12, 24, 12, 10, false) ∈ jFT by decide) rfl rfl rfl rfl (Nat.le_of_ble_eq_true rfl) rfl dX12_body_22 ?_
  refine j_aload_n (i := 0) rfl dX12_body_25 ?_
  refine j_iload_n (i := 2) rfl dX12_body_26 ?_
  refine j_if_ge (off := 7) 34 dX12_body_27 (by decide) (fun c1 => ?_) (fun c1 => ?_)
  · exact j_le [some (.ref 159), some (.int l1), some (.int l2), none] (And.intro rfl (And.intro rfl (And.intro rfl True.intro))) (v1 c1)
  · exact j_le [some (.ref 159), some (.int l1), some (.int l2), none] (And.intro rfl (And.intro rfl (And.intro rfl True.intro))) (v2 c1)
set_option maxRecDepth 100000 in
theorem bX12_body_30 {sc : Nat × (Nat → Int32)} {h : jH} {Q : jQ} {l1 l2 : Int32}
    (v1 : WP mX12_body Q 35 [some (.ref 159), some (.int l1), some (.int l2), none] [.int 1, .ref 159] (jG0 sc) h (0, 0)) :
    WP mX12_body Q 30 [some (.ref 159), some (.int l1), some (.int l2), none] [.ref 159] (jG0 sc) h (0, 0) := by
  refine j_iconst (n := 1) 1 (by decide) dX12_body_30 ?_
  refine j_goto (off := 4) 35 dX12_body_31 (by decide) ?_
  exact j_le [some (.ref 159), some (.int l1), some (.int l2), none] (And.intro rfl (And.intro rfl (And.intro rfl True.intro))) v1
set_option maxRecDepth 100000 in
theorem bX12_body_34 {sc : Nat × (Nat → Int32)} {h : jH} {Q : jQ} {l1 l2 : Int32}
    (v1 : WP mX12_body Q 35 [some (.ref 159), some (.int l1), some (.int l2), none] [.int 0, .ref 159] (jG0 sc) h (0, 0)) :
    WP mX12_body Q 34 [some (.ref 159), some (.int l1), some (.int l2), none] [.ref 159] (jG0 sc) h (0, 0) := by
  refine j_iconst (n := 0) 0 (by decide) dX12_body_34 ?_
  exact j_le [some (.ref 159), some (.int l1), some (.int l2), none] (And.intro rfl (And.intro rfl (And.intro rfl True.intro))) v1
set_option maxRecDepth 100000 in
theorem bX12_body_35 {sc : Nat × (Nat → Int32)} {h : jH} {Q : jQ} {l1 l2 s0 : Int32} {P1 : Int32 → jH → Prop}
    (k1 : JM mX12_throwsIf [.ref 159, .int s0, .int 1] (jG0 sc) h (jint sc P1))
    (v1 : ∀ (x1 : Int32) (h1 : jH), P1 x1 h1 → x1 = 0 → WP mX12_body Q 44 [some (.ref 159), some (.int l1), some (.int l2), none] [] (jG0 sc) h1 (0, 0))
    (v2 : ∀ (x1 : Int32) (h1 : jH), P1 x1 h1 → ¬ x1 = 0 → WP mX12_body Q 42 [some (.ref 159), some (.int l1), some (.int l2), none] [] (jG0 sc) h1 (0, 0)) :
    WP mX12_body Q 35 [some (.ref 159), some (.int l1), some (.int l2), none] [.int s0, .ref 159] (jG0 sc) h (0, 0) := by
  refine j_iconst (n := 1) 1 (by decide) dX12_body_35 ?_
  refine j_callV (idx := 157) (As := [.int s0, .int 1]) (ci := 12) (n := 2) k1 jint_nt (jlkT (jtb7 17 rfl) rfl) sX12_throwsIf kX12_throwsIf rfl ⟨rfl, by decide +kernel, by decide +kernel, by decide +kernel⟩ rfl ⟨by decide, by decide⟩ (Nat.le_of_ble_eq_true rfl) rfl (Nat.le_of_ble_eq_true rfl) (Nat.le_of_ble_eq_true rfl) ⟨Nat.zero_le _, Nat.zero_le _⟩ dX12_body_36 (fun r Γ' h1 q => ?_)
  obtain ⟨x1, q0, rfl, p1⟩ := q; cases q0
  refine j_eqst [.int x1] (by rfl) ?_
  refine j_if_eq (off := 5) 44 dX12_body_39 (by decide) (fun c1 => ?_) (fun c1 => ?_)
  · exact j_le [some (.ref 159), some (.int l1), some (.int l2), none] (And.intro rfl (And.intro rfl (And.intro rfl True.intro))) (v1 x1 h1 p1 c1)
  · exact j_le [some (.ref 159), some (.int l1), some (.int l2), none] (And.intro rfl (And.intro rfl (And.intro rfl True.intro))) (v2 x1 h1 p1 c1)
set_option maxRecDepth 100000 in
theorem bX12_body_42 {sc : Nat × (Nat → Int32)} {h : jH} {Q : jQ} {l1 l2 : Int32}
    (v1 : Q (.inl (some (.int 0))) (jG0 sc) h) :
    WP mX12_body Q 42 [some (.ref 159), some (.int l1), some (.int l2), none] [] (jG0 sc) h (0, 0) := by
  refine j_iconst (n := 0) 0 (by decide) dX12_body_42 ?_
  exact j_iret rfl rfl (Nat.zero_le _) (Nat.zero_le _) dX12_body_43 v1
set_option maxRecDepth 100000 in
theorem bX12_body_44 {sc : Nat × (Nat → Int32)} {h : jH} {Q : jQ} {l1 l2 : Int32}
    (v1 : WP mX12_body Q 53 [some (.ref 159), some (.int l1), some (.int l2), some (.int 0)] [] (jG0 sc) (jput h 164 0 l2) (0, 0)) :
    WP mX12_body Q 44 [some (.ref 159), some (.int l1), some (.int l2), none] [] (jG0 sc) h (0, 0) := by
  refine j_aload_n (i := 0) rfl dX12_body_44 ?_
  refine j_getR (idx := 30) (ci := 12) (k := 12) (nest := false) (show (12, 30, 12, 12, false) ∈ jFT by decide) rfl (Nat.le_of_ble_eq_true rfl) rfl (a := 164) rfl dX12_body_45 ?_
  refine j_iconst (n := 0) 0 (by decide) dX12_body_48 ?_
  refine j_iload_n (i := 2) rfl dX12_body_49 ?_
  refine j_iast (Nat.le_of_ble_eq_true rfl) rfl (jinl (n := 61) (by decide)) dX12_body_50 ?_
  refine j_iconst (n := 0) 0 (by decide) dX12_body_51 ?_
  refine j_istore_n (i := 3) dX12_body_52 (Nat.le_of_ble_eq_true rfl) ?_
  exact j_le [some (.ref 159), some (.int l1), some (.int l2), some (.int 0)] (And.intro rfl (And.intro rfl (And.intro rfl (And.intro rfl True.intro)))) v1
set_option maxRecDepth 100000 in
theorem bX12_body_53 {sc : Nat × (Nat → Int32)} {h : jH} {Q : jQ} {l1 l2 l3 : Int32}
    (v1 : 61 ≤ l3 → WP mX12_body Q 88 [some (.ref 159), some (.int l1), some (.int l2), some (.int l3)] [] (jG0 sc) h (0, 0))
    (v2 : ¬ 61 ≤ l3 → WP mX12_body Q 59 [some (.ref 159), some (.int l1), some (.int l2), some (.int l3)] [] (jG0 sc) h (0, 0)) :
    WP mX12_body Q 53 [some (.ref 159), some (.int l1), some (.int l2), some (.int l3)] [] (jG0 sc) h (0, 0) := by
  refine j_iload_n (i := 3) rfl dX12_body_53 ?_
  refine j_bipush (n := 61) 61 (by decide) dX12_body_54 ?_
  refine j_icmp_ge (off := 32) 88 dX12_body_56 (by decide) (fun c1 => ?_) (fun c1 => ?_)
  · exact j_le [some (.ref 159), some (.int l1), some (.int l2), some (.int l3)] (And.intro rfl (And.intro rfl (And.intro rfl (And.intro rfl True.intro)))) (v1 c1)
  · exact j_le [some (.ref 159), some (.int l1), some (.int l2), some (.int l3)] (And.intro rfl (And.intro rfl (And.intro rfl (And.intro rfl True.intro)))) (v2 c1)
set_option maxRecDepth 100000 in
theorem bX12_body_59 {sc : Nat × (Nat → Int32)} {h : jH} {Q : jQ} {l1 l2 l3 : Int32}
    (v1 : l1 = 0 → WP mX12_body Q 72 [some (.ref 159), some (.int l1), some (.int l2), some (.int l3)] [.ref 160] (jG0 sc) h (0, 0))
    (v2 : ¬ l1 = 0 → WP mX12_body Q 67 [some (.ref 159), some (.int l1), some (.int l2), some (.int l3)] [.ref 160] (jG0 sc) h (0, 0)) :
    WP mX12_body Q 59 [some (.ref 159), some (.int l1), some (.int l2), some (.int l3)] [] (jG0 sc) h (0, 0) := by
  refine j_aload_n (i := 0) rfl dX12_body_59 ?_
  refine j_getR (idx := 13) (ci := 12) (k := 1) (nest := false) (show (12, 13, 12, 1, false) ∈ jFT by decide) rfl (Nat.le_of_ble_eq_true rfl) rfl (a := 160) rfl dX12_body_60 ?_
  refine j_iload_n (i := 1) rfl dX12_body_63 ?_
  refine j_if_eq (off := 8) 72 dX12_body_64 (by decide) (fun c1 => ?_) (fun c1 => ?_)
  · exact j_le [some (.ref 159), some (.int l1), some (.int l2), some (.int l3)] (And.intro rfl (And.intro rfl (And.intro rfl (And.intro rfl True.intro)))) (v1 c1)
  · exact j_le [some (.ref 159), some (.int l1), some (.int l2), some (.int l3)] (And.intro rfl (And.intro rfl (And.intro rfl (And.intro rfl True.intro)))) (v2 c1)
set_option maxRecDepth 100000 in
theorem bX12_body_67 {sc : Nat × (Nat → Int32)} {h : jH} {Q : jQ} {l1 l2 l3 : Int32}
    (v1 : WP mX12_body Q 73 [some (.ref 159), some (.int l1), some (.int l2), some (.int l3)] [.int 61, .ref 160] (jG0 sc) h (0, 0)) :
    WP mX12_body Q 67 [some (.ref 159), some (.int l1), some (.int l2), some (.int l3)] [.ref 160] (jG0 sc) h (0, 0) := by
  refine j_bipush (n := 61) 61 (by decide) dX12_body_67 ?_
  refine j_goto (off := 4) 73 dX12_body_69 (by decide) ?_
  exact j_le [some (.ref 159), some (.int l1), some (.int l2), some (.int l3)] (And.intro rfl (And.intro rfl (And.intro rfl (And.intro rfl True.intro)))) v1
set_option maxRecDepth 100000 in
theorem bX12_body_72 {sc : Nat × (Nat → Int32)} {h : jH} {Q : jQ} {l1 l2 l3 : Int32}
    (v1 : WP mX12_body Q 73 [some (.ref 159), some (.int l1), some (.int l2), some (.int l3)] [.int 0, .ref 160] (jG0 sc) h (0, 0)) :
    WP mX12_body Q 72 [some (.ref 159), some (.int l1), some (.int l2), some (.int l3)] [.ref 160] (jG0 sc) h (0, 0) := by
  refine j_iconst (n := 0) 0 (by decide) dX12_body_72 ?_
  exact j_le [some (.ref 159), some (.int l1), some (.int l2), some (.int l3)] (And.intro rfl (And.intro rfl (And.intro rfl (And.intro rfl True.intro)))) v1
set_option maxRecDepth 100000 in
theorem bX12_body_73 {sc : Nat × (Nat → Int32)} {h : jH} {Q : jQ} {l1 l2 l3 s0 : Int32}
    (o1 : vp_in l3 61)
    (o2 : vp_in (s0 + l3) 1454)
    (v1 : WP mX12_body Q 53 [some (.ref 159), some (.int l1), some (.int l2), some (.int (l3 + 1))] [] (jG0 sc) (jput h 160 ((s0 + l3).toNatClampNeg) (h 164 l3.toNatClampNeg)) (0, 0)) :
    WP mX12_body Q 73 [some (.ref 159), some (.int l1), some (.int l2), some (.int l3)] [.int s0, .ref 160] (jG0 sc) h (0, 0) := by
  refine j_iload_n (i := 3) rfl dX12_body_73 ?_
  refine j_iadd dX12_body_74 ?_
  refine j_aload_n (i := 0) rfl dX12_body_75 ?_
  refine j_getR (idx := 30) (ci := 12) (k := 12) (nest := false) (show (12, 30, 12, 12, false) ∈ jFT by decide) rfl (Nat.le_of_ble_eq_true rfl) rfl (a := 164) rfl dX12_body_76 ?_
  refine j_iload_n (i := 3) rfl dX12_body_79 ?_
  refine j_iald (Nat.le_of_ble_eq_true rfl) rfl o1 dX12_body_80 ?_
  refine j_iast (Nat.le_of_ble_eq_true rfl) rfl o2 dX12_body_81 ?_
  refine j_iinc (i := 3) (n := 1) rfl dX12_body_82 (Nat.le_of_ble_eq_true rfl) ?_
  refine j_eqlv [some (.ref 159), some (.int l1), some (.int l2), some (.int (l3 + 1))] rfl ?_
  refine j_goto (off := -32) 53 dX12_body_85 (by decide) ?_
  exact j_le [some (.ref 159), some (.int l1), some (.int l2), some (.int (l3 + 1))] (And.intro rfl (And.intro rfl (And.intro rfl (And.intro rfl True.intro)))) v1
set_option maxRecDepth 100000 in
theorem bX12_body_88 {sc : Nat × (Nat → Int32)} {h : jH} {Q : jQ} {l1 l2 l3 : Int32}
    (v1 : l1 = 0 → WP mX12_body Q 94 [some (.ref 159), some (.int l1), some (.int l2), some (.int l3)] [] (jG0 sc) h (0, 0))
    (v2 : ¬ l1 = 0 → WP mX12_body Q 92 [some (.ref 159), some (.int l1), some (.int l2), some (.int l3)] [] (jG0 sc) h (0, 0)) :
    WP mX12_body Q 88 [some (.ref 159), some (.int l1), some (.int l2), some (.int l3)] [] (jG0 sc) h (0, 0) := by
  refine j_iload_n (i := 1) rfl dX12_body_88 ?_
  refine j_if_eq (off := 5) 94 dX12_body_89 (by decide) (fun c1 => ?_) (fun c1 => ?_)
  · exact j_le [some (.ref 159), some (.int l1), some (.int l2), some (.int l3)] (And.intro rfl (And.intro rfl (And.intro rfl (And.intro rfl True.intro)))) (v1 c1)
  · exact j_le [some (.ref 159), some (.int l1), some (.int l2), some (.int l3)] (And.intro rfl (And.intro rfl (And.intro rfl (And.intro rfl True.intro)))) (v2 c1)
set_option maxRecDepth 100000 in
theorem bX12_body_92 {sc : Nat × (Nat → Int32)} {h : jH} {Q : jQ} {l1 l2 l3 : Int32}
    (v1 : Q (.inl (some (.int l2))) (jG0 sc) h) :
    WP mX12_body Q 92 [some (.ref 159), some (.int l1), some (.int l2), some (.int l3)] [] (jG0 sc) h (0, 0) := by
  refine j_iload_n (i := 2) rfl dX12_body_92 ?_
  exact j_iret rfl rfl (Nat.zero_le _) (Nat.zero_le _) dX12_body_93 v1
set_option maxRecDepth 100000 in
theorem bX12_body_94 {sc : Nat × (Nat → Int32)} {h : jH} {Q : jQ} {l1 l2 l3 : Int32} {P1 : jH → Prop}
    (k1 : JM mX12_forgets [.ref 159] (jG0 sc) h (jvoid sc P1))
    (v1 : ∀ h1 : jH, P1 h1 → Q (.inl (some (.int l2))) (jG0 sc) (jput h1 160 286 0)) :
    WP mX12_body Q 94 [some (.ref 159), some (.int l1), some (.int l2), some (.int l3)] [] (jG0 sc) h (0, 0) := by
  refine j_aload_n (i := 0) rfl dX12_body_94 ?_
  refine j_callV (idx := 161) (As := []) (ci := 12) (n := 0) k1 jvoid_nt (jlkT (jtb7 21 rfl) rfl) sX12_forgets kX12_forgets rfl ⟨rfl, by decide +kernel, by decide +kernel, by decide +kernel⟩ rfl ⟨by decide, by decide⟩ (Nat.le_of_ble_eq_true rfl) rfl (Nat.le_of_ble_eq_true rfl) (Nat.le_of_ble_eq_true rfl) ⟨Nat.zero_le _, Nat.zero_le _⟩ dX12_body_95 (fun r Γ' h1 q => ?_)
  obtain ⟨q0, rfl, p1⟩ := q; cases q0
  refine j_eqst [] (by rfl) ?_
  refine j_aload_n (i := 0) rfl dX12_body_98 ?_
  refine j_getR (idx := 13) (ci := 12) (k := 1) (nest := false) (show (12, 13, 12, 1, false) ∈ jFT by decide) rfl (Nat.le_of_ble_eq_true rfl) rfl (a := 160) rfl dX12_body_99 ?_
  refine j_sipush (n := 286) 286 (by decide) dX12_body_102 ?_
  refine j_iconst (n := 0) 0 (by decide) dX12_body_105 ?_
  refine j_iast (Nat.le_of_ble_eq_true rfl) rfl (jinl (n := 1454) (by decide)) dX12_body_106 ?_
  refine j_iload_n (i := 2) rfl dX12_body_107 ?_
  exact j_iret rfl rfl (Nat.zero_le _) (Nat.zero_le _) dX12_body_108 (v1 h1 p1)
set_option maxRecDepth 100000 in
theorem rX12_body_0 {sc : Nat × (Nat → Int32)} {h : jH} {Q : jQ} {l1 : Int32} {P1 : jH → Prop} {P2 : Int32 → jH → Prop} {P3 : Int32 → jH → Prop} {P4 : Int32 → jH → Prop} {P5 : Int32 → jH → Prop} {P6 : Int32 → jH → Prop}
    (k1 : JM mX12_uses [.ref 159] (jG0 sc) h (jvoid sc P1))
    (k2 : ∀ h1 : jH, P1 h1 → JM mX12_readAll [.ref 159] (jG0 sc) h1 (jint sc P2))
    (k3 : ∀ h1 : jH, P1 h1 → ∀ (x2 : Int32) (h2 : jH), P2 x2 h2 → 0 ≤ x2 → 0 ≤ x2 → JM mX12_throwsIf [.ref 159, .int 0, .int 1] (jG0 sc) (jput h2 159 10 (-1)) (jint sc P3))
    (v1 : ∀ h1 : jH, P1 h1 → ∀ (x2 : Int32) (h2 : jH), P2 x2 h2 → 0 ≤ x2 → 0 ≤ x2 → ∀ (x3 : Int32) (h3 : jH), P3 x3 h3 → x3 = 0 → WP mX12_body Q 53 [some (.ref 159), some (.int l1), some (.int x2), some (.int 0)] [] (jG0 sc) (jput h3 164 0 x2) (0, 0))
    (v2 : ∀ h1 : jH, P1 h1 → ∀ (x2 : Int32) (h2 : jH), P2 x2 h2 → 0 ≤ x2 → 0 ≤ x2 → ∀ (x3 : Int32) (h3 : jH), P3 x3 h3 → ¬ x3 = 0 → Q (.inl (some (.int 0))) (jG0 sc) h3)
    (k4 : ∀ h1 : jH, P1 h1 → ∀ (x2 : Int32) (h2 : jH), P2 x2 h2 → 0 ≤ x2 → ¬ 0 ≤ x2 → JM mX12_throwsIf [.ref 159, .int 1, .int 1] (jG0 sc) (jput h2 159 10 (-1)) (jint sc P4))
    (v3 : ∀ h1 : jH, P1 h1 → ∀ (x2 : Int32) (h2 : jH), P2 x2 h2 → 0 ≤ x2 → ¬ 0 ≤ x2 → ∀ (x4 : Int32) (h4 : jH), P4 x4 h4 → x4 = 0 → WP mX12_body Q 53 [some (.ref 159), some (.int l1), some (.int x2), some (.int 0)] [] (jG0 sc) (jput h4 164 0 x2) (0, 0))
    (v4 : ∀ h1 : jH, P1 h1 → ∀ (x2 : Int32) (h2 : jH), P2 x2 h2 → 0 ≤ x2 → ¬ 0 ≤ x2 → ∀ (x4 : Int32) (h4 : jH), P4 x4 h4 → ¬ x4 = 0 → Q (.inl (some (.int 0))) (jG0 sc) h4)
    (k5 : ∀ h1 : jH, P1 h1 → ∀ (x2 : Int32) (h2 : jH), P2 x2 h2 → ¬ 0 ≤ x2 → 0 ≤ x2 → JM mX12_throwsIf [.ref 159, .int 0, .int 1] (jG0 sc) (jput h2 159 10 (h2 159 8)) (jint sc P5))
    (v5 : ∀ h1 : jH, P1 h1 → ∀ (x2 : Int32) (h2 : jH), P2 x2 h2 → ¬ 0 ≤ x2 → 0 ≤ x2 → ∀ (x5 : Int32) (h5 : jH), P5 x5 h5 → x5 = 0 → WP mX12_body Q 53 [some (.ref 159), some (.int l1), some (.int x2), some (.int 0)] [] (jG0 sc) (jput h5 164 0 x2) (0, 0))
    (v6 : ∀ h1 : jH, P1 h1 → ∀ (x2 : Int32) (h2 : jH), P2 x2 h2 → ¬ 0 ≤ x2 → 0 ≤ x2 → ∀ (x5 : Int32) (h5 : jH), P5 x5 h5 → ¬ x5 = 0 → Q (.inl (some (.int 0))) (jG0 sc) h5)
    (k6 : ∀ h1 : jH, P1 h1 → ∀ (x2 : Int32) (h2 : jH), P2 x2 h2 → ¬ 0 ≤ x2 → ¬ 0 ≤ x2 → JM mX12_throwsIf [.ref 159, .int 1, .int 1] (jG0 sc) (jput h2 159 10 (h2 159 8)) (jint sc P6))
    (v7 : ∀ h1 : jH, P1 h1 → ∀ (x2 : Int32) (h2 : jH), P2 x2 h2 → ¬ 0 ≤ x2 → ¬ 0 ≤ x2 → ∀ (x6 : Int32) (h6 : jH), P6 x6 h6 → x6 = 0 → WP mX12_body Q 53 [some (.ref 159), some (.int l1), some (.int x2), some (.int 0)] [] (jG0 sc) (jput h6 164 0 x2) (0, 0))
    (v8 : ∀ h1 : jH, P1 h1 → ∀ (x2 : Int32) (h2 : jH), P2 x2 h2 → ¬ 0 ≤ x2 → ¬ 0 ≤ x2 → ∀ (x6 : Int32) (h6 : jH), P6 x6 h6 → ¬ x6 = 0 → Q (.inl (some (.int 0))) (jG0 sc) h6) :
    WP mX12_body Q 0 [some (.ref 159), some (.int l1), none, none] [] (jG0 sc) h (0, 0) := by
  exact (bX12_body_0 k1 (fun h1 p1 => (k2 h1 p1)) (fun h1 p1 x2 h2 p2 c1 => (bX12_body_21 (bX12_body_22 (fun c2 => (bX12_body_34 (bX12_body_35 (k3 h1 p1 x2 h2 p2 c1 c2) (fun x3 h3 p3 c3 => (bX12_body_44 (v1 h1 p1 x2 h2 p2 c1 c2 x3 h3 p3 c3))) (fun x3 h3 p3 c3 => (bX12_body_42 (v2 h1 p1 x2 h2 p2 c1 c2 x3 h3 p3 c3)))))) (fun c2 => (bX12_body_30 (bX12_body_35 (k4 h1 p1 x2 h2 p2 c1 c2) (fun x4 h4 p4 c4 => (bX12_body_44 (v3 h1 p1 x2 h2 p2 c1 c2 x4 h4 p4 c4))) (fun x4 h4 p4 c4 => (bX12_body_42 (v4 h1 p1 x2 h2 p2 c1 c2 x4 h4 p4 c4))))))))) (fun h1 p1 x2 h2 p2 c1 => (bX12_body_14 (bX12_body_22 (fun c5 => (bX12_body_34 (bX12_body_35 (k5 h1 p1 x2 h2 p2 c1 c5) (fun x5 h5 p5 c6 => (bX12_body_44 (v5 h1 p1 x2 h2 p2 c1 c5 x5 h5 p5 c6))) (fun x5 h5 p5 c6 => (bX12_body_42 (v6 h1 p1 x2 h2 p2 c1 c5 x5 h5 p5 c6)))))) (fun c5 => (bX12_body_30 (bX12_body_35 (k6 h1 p1 x2 h2 p2 c1 c5) (fun x6 h6 p6 c7 => (bX12_body_44 (v7 h1 p1 x2 h2 p2 c1 c5 x6 h6 p6 c7))) (fun x6 h6 p6 c7 => (bX12_body_42 (v8 h1 p1 x2 h2 p2 c1 c5 x6 h6 p6 c7))))))))))
set_option maxRecDepth 100000 in
theorem rX12_body_53 {sc : Nat × (Nat → Int32)} {h : jH} {Q : jQ} {l1 l2 l3 : Int32} {P1 : jH → Prop}
    (k1 : 61 ≤ l3 → l1 = 0 → JM mX12_forgets [.ref 159] (jG0 sc) h (jvoid sc P1))
    (v1 : 61 ≤ l3 → l1 = 0 → ∀ h1 : jH, P1 h1 → Q (.inl (some (.int l2))) (jG0 sc) (jput h1 160 286 0))
    (v2 : 61 ≤ l3 → ¬ l1 = 0 → Q (.inl (some (.int l2))) (jG0 sc) h)
    (o1 : ¬ 61 ≤ l3 → l1 = 0 → vp_in l3 61)
    (o2 : ¬ 61 ≤ l3 → l1 = 0 → vp_in (0 + l3) 1454)
    (v3 : ¬ 61 ≤ l3 → l1 = 0 → WP mX12_body Q 53 [some (.ref 159), some (.int l1), some (.int l2), some (.int (l3 + 1))] [] (jG0 sc) (jput h 160 ((0 + l3).toNatClampNeg) (h 164 l3.toNatClampNeg)) (0, 0))
    (o3 : ¬ 61 ≤ l3 → ¬ l1 = 0 → vp_in l3 61)
    (o4 : ¬ 61 ≤ l3 → ¬ l1 = 0 → vp_in (61 + l3) 1454)
    (v4 : ¬ 61 ≤ l3 → ¬ l1 = 0 → WP mX12_body Q 53 [some (.ref 159), some (.int l1), some (.int l2), some (.int (l3 + 1))] [] (jG0 sc) (jput h 160 ((61 + l3).toNatClampNeg) (h 164 l3.toNatClampNeg)) (0, 0)) :
    WP mX12_body Q 53 [some (.ref 159), some (.int l1), some (.int l2), some (.int l3)] [] (jG0 sc) h (0, 0) := by
  exact (bX12_body_53 (fun c1 => (bX12_body_88 (fun c2 => (bX12_body_94 (k1 c1 c2) (fun h1 p1 => (v1 c1 c2 h1 p1)))) (fun c2 => (bX12_body_92 (v2 c1 c2))))) (fun c1 => (bX12_body_59 (fun c3 => (bX12_body_72 (bX12_body_73 (o1 c1 c3) (o2 c1 c3) (v3 c1 c3)))) (fun c3 => (bX12_body_67 (bX12_body_73 (o3 c1 c3) (o4 c1 c3) (v4 c1 c3)))))))
theorem dX12_emits_0 : decode (mC mX12_emits) 0 = .ok (.aload_n 0, 1) := by decide +kernel
theorem dX12_emits_1 : decode (mC mX12_emits) 1 = .ok (.getfield 33, 3) := by decide +kernel
theorem dX12_emits_4 : decode (mC mX12_emits) 4 = .ok (.iconst 2, 1) := by decide +kernel
theorem dX12_emits_5 : decode (mC mX12_emits) 5 = .ok (.aload_n 0, 1) := by decide +kernel
theorem dX12_emits_6 : decode (mC mX12_emits) 6 = .ok (.getfield 164, 3) := by decide +kernel
theorem dX12_emits_9 : decode (mC mX12_emits) 9 = .ok (.imul, 1) := by decide +kernel
theorem dX12_emits_10 : decode (mC mX12_emits) 10 = .ok (.iload_n 1, 1) := by decide +kernel
theorem dX12_emits_11 : decode (mC mX12_emits) 11 = .ok (.iastore, 1) := by decide +kernel
theorem dX12_emits_12 : decode (mC mX12_emits) 12 = .ok (.aload_n 0, 1) := by decide +kernel
theorem dX12_emits_13 : decode (mC mX12_emits) 13 = .ok (.getfield 33, 3) := by decide +kernel
theorem dX12_emits_16 : decode (mC mX12_emits) 16 = .ok (.iconst 2, 1) := by decide +kernel
theorem dX12_emits_17 : decode (mC mX12_emits) 17 = .ok (.aload_n 0, 1) := by decide +kernel
theorem dX12_emits_18 : decode (mC mX12_emits) 18 = .ok (.getfield 164, 3) := by decide +kernel
theorem dX12_emits_21 : decode (mC mX12_emits) 21 = .ok (.imul, 1) := by decide +kernel
theorem dX12_emits_22 : decode (mC mX12_emits) 22 = .ok (.iconst 1, 1) := by decide +kernel
theorem dX12_emits_23 : decode (mC mX12_emits) 23 = .ok (.iadd, 1) := by decide +kernel
theorem dX12_emits_24 : decode (mC mX12_emits) 24 = .ok (.iload_n 2, 1) := by decide +kernel
theorem dX12_emits_25 : decode (mC mX12_emits) 25 = .ok (.iastore, 1) := by decide +kernel
theorem dX12_emits_26 : decode (mC mX12_emits) 26 = .ok (.aload_n 0, 1) := by decide +kernel
theorem dX12_emits_27 : decode (mC mX12_emits) 27 = .ok (.dup, 1) := by decide +kernel
theorem dX12_emits_28 : decode (mC mX12_emits) 28 = .ok (.getfield 164, 3) := by decide +kernel
theorem dX12_emits_31 : decode (mC mX12_emits) 31 = .ok (.iconst 1, 1) := by decide +kernel
theorem dX12_emits_32 : decode (mC mX12_emits) 32 = .ok (.iadd, 1) := by decide +kernel
theorem dX12_emits_33 : decode (mC mX12_emits) 33 = .ok (.putfield 164, 3) := by decide +kernel
theorem dX12_emits_36 : decode (mC mX12_emits) 36 = .ok (.return_, 1) := by decide +kernel
set_option maxRecDepth 100000 in
theorem bX12_emits_0 {sc : Nat × (Nat → Int32)} {h : jH} {Q : jQ} {l1 l2 : Int32}
    (o1 : vp_in (2 * (h 159 13)) 800)
    (o2 : vp_in ((2 * ((jput h 165 ((2 * (h 159 13)).toNatClampNeg) l1) 159 13)) + 1) 800)
    (v1 : WP mX12_emits Q 33 [some (.ref 159), some (.int l1), some (.int l2)] [.int (((jput (jput h 165 ((2 * (h 159 13)).toNatClampNeg) l1) 165 (((2 * ((jput h 165 ((2 * (h 159 13)).toNatClampNeg) l1) 159 13)) + 1).toNatClampNeg) l2) 159 13) + 1), .ref 159] (jG0 sc) (jput (jput h 165 ((2 * (h 159 13)).toNatClampNeg) l1) 165 (((2 * ((jput h 165 ((2 * (h 159 13)).toNatClampNeg) l1) 159 13)) + 1).toNatClampNeg) l2) (0, 0)) :
    WP mX12_emits Q 0 [some (.ref 159), some (.int l1), some (.int l2)] [] (jG0 sc) h (0, 0) := by
  refine j_aload_n (i := 0) rfl dX12_emits_0 ?_
  refine j_getR (idx := 33) (ci := 12) (k := 14) (nest := false) (show (12, 33, 12, 14, false) ∈ jFT by decide) rfl (Nat.le_of_ble_eq_true rfl) rfl (a := 165) rfl dX12_emits_1 ?_
  refine j_iconst (n := 2) 2 (by decide) dX12_emits_4 ?_
  refine j_aload_n (i := 0) rfl dX12_emits_5 ?_
  refine j_getI (idx := 164) (ci := 12) (k := 13) (nest := false) (show (12, 164, 12, 13, false) ∈ jFT by decide) rfl (Nat.le_of_ble_eq_true rfl) rfl dX12_emits_6 ?_
  refine j_imul dX12_emits_9 ?_
  refine j_iload_n (i := 1) rfl dX12_emits_10 ?_
  refine j_iast (Nat.le_of_ble_eq_true rfl) rfl o1 dX12_emits_11 ?_
  refine j_aload_n (i := 0) rfl dX12_emits_12 ?_
  refine j_getR (idx := 33) (ci := 12) (k := 14) (nest := false) (show (12, 33, 12, 14, false) ∈ jFT by decide) rfl (Nat.le_of_ble_eq_true rfl) rfl (a := 165) rfl dX12_emits_13 ?_
  refine j_iconst (n := 2) 2 (by decide) dX12_emits_16 ?_
  refine j_aload_n (i := 0) rfl dX12_emits_17 ?_
  refine j_getI (idx := 164) (ci := 12) (k := 13) (nest := false) (show (12, 164, 12, 13, false) ∈ jFT by decide) rfl (Nat.le_of_ble_eq_true rfl) rfl dX12_emits_18 ?_
  refine j_imul dX12_emits_21 ?_
  refine j_iconst (n := 1) 1 (by decide) dX12_emits_22 ?_
  refine j_iadd dX12_emits_23 ?_
  refine j_iload_n (i := 2) rfl dX12_emits_24 ?_
  refine j_iast (Nat.le_of_ble_eq_true rfl) rfl o2 dX12_emits_25 ?_
  refine j_aload_n (i := 0) rfl dX12_emits_26 ?_
  refine j_dup rfl dX12_emits_27 ?_
  refine j_getI (idx := 164) (ci := 12) (k := 13) (nest := false) (show (12, 164, 12, 13, false) ∈ jFT by decide) rfl (Nat.le_of_ble_eq_true rfl) rfl dX12_emits_28 ?_
  refine j_iconst (n := 1) 1 (by decide) dX12_emits_31 ?_
  refine j_iadd dX12_emits_32 ?_
  exact j_le [some (.ref 159), some (.int l1), some (.int l2)] (And.intro rfl (And.intro rfl (And.intro rfl True.intro))) v1
set_option maxRecDepth 100000 in
theorem bX12_emits_33 {sc : Nat × (Nat → Int32)} {h : jH} {Q : jQ} {l1 l2 s0 : Int32}
    (v1 : Q (.inl none) (jG0 sc) (jput h 159 13 s0)) :
    WP mX12_emits Q 33 [some (.ref 159), some (.int l1), some (.int l2)] [.int s0, .ref 159] (jG0 sc) h (0, 0) := by
  refine j_putI (idx := 164) (ci := 12) (k := 13) (nest := false) (show (12, 164, 12, 13, false) ∈ jFT by decide) rfl rfl rfl rfl (Nat.le_of_ble_eq_true rfl) rfl dX12_emits_33 ?_
  exact j_vret rfl (Nat.zero_le _) (Nat.zero_le _) dX12_emits_36 v1
set_option maxRecDepth 100000 in
theorem rX12_emits_0 {sc : Nat × (Nat → Int32)} {h : jH} {Q : jQ} {l1 l2 : Int32}
    (o1 : vp_in (2 * (h 159 13)) 800)
    (o2 : vp_in ((2 * ((jput h 165 ((2 * (h 159 13)).toNatClampNeg) l1) 159 13)) + 1) 800)
    (v1 : Q (.inl none) (jG0 sc) (jput (jput (jput h 165 ((2 * (h 159 13)).toNatClampNeg) l1) 165 (((2 * ((jput h 165 ((2 * (h 159 13)).toNatClampNeg) l1) 159 13)) + 1).toNatClampNeg) l2) 159 13 (((jput (jput h 165 ((2 * (h 159 13)).toNatClampNeg) l1) 165 (((2 * ((jput h 165 ((2 * (h 159 13)).toNatClampNeg) l1) 159 13)) + 1).toNatClampNeg) l2) 159 13) + 1))) :
    WP mX12_emits Q 0 [some (.ref 159), some (.int l1), some (.int l2)] [] (jG0 sc) h (0, 0) := by
  exact (bX12_emits_0 o1 o2 (bX12_emits_33 v1))
theorem dX12_readLawAtom_0 : decode (mC mX12_readLawAtom) 0 = .ok (.aload_n 0, 1) := by decide +kernel
theorem dX12_readLawAtom_1 : decode (mC mX12_readLawAtom) 1 = .ok (.invokevirtual 108, 3) := by decide +kernel
theorem dX12_readLawAtom_4 : decode (mC mX12_readLawAtom) 4 = .ok (.aload_n 0, 1) := by decide +kernel
theorem dX12_readLawAtom_5 : decode (mC mX12_readLawAtom) 5 = .ok (.getfield 85, 3) := by decide +kernel
theorem dX12_readLawAtom_8 : decode (mC mX12_readLawAtom) 8 = .ok (.aload_n 0, 1) := by decide +kernel
theorem dX12_readLawAtom_9 : decode (mC mX12_readLawAtom) 9 = .ok (.getfield 92, 3) := by decide +kernel
theorem dX12_readLawAtom_12 : decode (mC mX12_readLawAtom) 12 = .ok (.if_icmp .le 58, 3) := by decide +kernel
theorem dX12_readLawAtom_15 : decode (mC mX12_readLawAtom) 15 = .ok (.aload_n 0, 1) := by decide +kernel
theorem dX12_readLawAtom_16 : decode (mC mX12_readLawAtom) 16 = .ok (.ldc 167, 2) := by decide +kernel
theorem dX12_readLawAtom_18 : decode (mC mX12_readLawAtom) 18 = .ok (.invokevirtual 111, 3) := by decide +kernel
theorem dX12_readLawAtom_21 : decode (mC mX12_readLawAtom) 21 = .ok (.ifCond .eq 7, 3) := by decide +kernel
theorem dX12_readLawAtom_24 : decode (mC mX12_readLawAtom) 24 = .ok (.iconst 1, 1) := by decide +kernel
theorem dX12_readLawAtom_25 : decode (mC mX12_readLawAtom) 25 = .ok (.goto 30, 3) := by decide +kernel
theorem dX12_readLawAtom_28 : decode (mC mX12_readLawAtom) 28 = .ok (.aload_n 0, 1) := by decide +kernel
theorem dX12_readLawAtom_29 : decode (mC mX12_readLawAtom) 29 = .ok (.ldc 169, 2) := by decide +kernel
theorem dX12_readLawAtom_31 : decode (mC mX12_readLawAtom) 31 = .ok (.invokevirtual 111, 3) := by decide +kernel
theorem dX12_readLawAtom_34 : decode (mC mX12_readLawAtom) 34 = .ok (.ifCond .eq 7, 3) := by decide +kernel
theorem dX12_readLawAtom_37 : decode (mC mX12_readLawAtom) 37 = .ok (.iconst 2, 1) := by decide +kernel
theorem dX12_readLawAtom_38 : decode (mC mX12_readLawAtom) 38 = .ok (.goto 17, 3) := by decide +kernel
theorem dX12_readLawAtom_41 : decode (mC mX12_readLawAtom) 41 = .ok (.aload_n 0, 1) := by decide +kernel
theorem dX12_readLawAtom_42 : decode (mC mX12_readLawAtom) 42 = .ok (.ldc 171, 2) := by decide +kernel
theorem dX12_readLawAtom_44 : decode (mC mX12_readLawAtom) 44 = .ok (.invokevirtual 111, 3) := by decide +kernel
theorem dX12_readLawAtom_47 : decode (mC mX12_readLawAtom) 47 = .ok (.ifCond .eq 7, 3) := by decide +kernel
theorem dX12_readLawAtom_50 : decode (mC mX12_readLawAtom) 50 = .ok (.iconst 3, 1) := by decide +kernel
theorem dX12_readLawAtom_51 : decode (mC mX12_readLawAtom) 51 = .ok (.goto 4, 3) := by decide +kernel
theorem dX12_readLawAtom_54 : decode (mC mX12_readLawAtom) 54 = .ok (.iconst (-1), 1) := by decide +kernel
theorem dX12_readLawAtom_55 : decode (mC mX12_readLawAtom) 55 = .ok (.istore_n 1, 1) := by decide +kernel
theorem dX12_readLawAtom_56 : decode (mC mX12_readLawAtom) 56 = .ok (.iload_n 1, 1) := by decide +kernel
theorem dX12_readLawAtom_57 : decode (mC mX12_readLawAtom) 57 = .ok (.ifCond .ge 5, 3) := by decide +kernel
theorem dX12_readLawAtom_60 : decode (mC mX12_readLawAtom) 60 = .ok (.iconst 0, 1) := by decide +kernel
theorem dX12_readLawAtom_61 : decode (mC mX12_readLawAtom) 61 = .ok (.ireturn, 1) := by decide +kernel
theorem dX12_readLawAtom_62 : decode (mC mX12_readLawAtom) 62 = .ok (.aload_n 0, 1) := by decide +kernel
theorem dX12_readLawAtom_63 : decode (mC mX12_readLawAtom) 63 = .ok (.iload_n 1, 1) := by decide +kernel
theorem dX12_readLawAtom_64 : decode (mC mX12_readLawAtom) 64 = .ok (.iconst 0, 1) := by decide +kernel
theorem dX12_readLawAtom_65 : decode (mC mX12_readLawAtom) 65 = .ok (.invokevirtual 173, 3) := by decide +kernel
theorem dX12_readLawAtom_68 : decode (mC mX12_readLawAtom) 68 = .ok (.iconst 1, 1) := by decide +kernel
theorem dX12_readLawAtom_69 : decode (mC mX12_readLawAtom) 69 = .ok (.ireturn, 1) := by decide +kernel
theorem dX12_readLawAtom_70 : decode (mC mX12_readLawAtom) 70 = .ok (.aload_n 0, 1) := by decide +kernel
theorem dX12_readLawAtom_71 : decode (mC mX12_readLawAtom) 71 = .ok (.iconst 4, 1) := by decide +kernel
theorem dX12_readLawAtom_72 : decode (mC mX12_readLawAtom) 72 = .ok (.iconst 0, 1) := by decide +kernel
theorem dX12_readLawAtom_73 : decode (mC mX12_readLawAtom) 73 = .ok (.invokevirtual 115, 3) := by decide +kernel
theorem dX12_readLawAtom_76 : decode (mC mX12_readLawAtom) 76 = .ok (.istore_n 1, 1) := by decide +kernel
theorem dX12_readLawAtom_77 : decode (mC mX12_readLawAtom) 77 = .ok (.iload_n 1, 1) := by decide +kernel
theorem dX12_readLawAtom_78 : decode (mC mX12_readLawAtom) 78 = .ok (.ifCond .ge 5, 3) := by decide +kernel
theorem dX12_readLawAtom_81 : decode (mC mX12_readLawAtom) 81 = .ok (.iconst 0, 1) := by decide +kernel
theorem dX12_readLawAtom_82 : decode (mC mX12_readLawAtom) 82 = .ok (.ireturn, 1) := by decide +kernel
theorem dX12_readLawAtom_83 : decode (mC mX12_readLawAtom) 83 = .ok (.aload_n 0, 1) := by decide +kernel
theorem dX12_readLawAtom_84 : decode (mC mX12_readLawAtom) 84 = .ok (.iconst 0, 1) := by decide +kernel
theorem dX12_readLawAtom_85 : decode (mC mX12_readLawAtom) 85 = .ok (.iload_n 1, 1) := by decide +kernel
theorem dX12_readLawAtom_86 : decode (mC mX12_readLawAtom) 86 = .ok (.invokevirtual 173, 3) := by decide +kernel
theorem dX12_readLawAtom_89 : decode (mC mX12_readLawAtom) 89 = .ok (.iconst 1, 1) := by decide +kernel
theorem dX12_readLawAtom_90 : decode (mC mX12_readLawAtom) 90 = .ok (.ireturn, 1) := by decide +kernel
set_option maxRecDepth 100000 in
theorem bX12_readLawAtom_0 {sc : Nat × (Nat → Int32)} {h : jH} {Q : jQ} {P1 : jH → Prop}
    (k1 : JM mX12_letters [.ref 159] (jG0 sc) h (jvoid sc P1))
    (v1 : ∀ h1 : jH, P1 h1 → (h1 159 6) ≤ (h1 159 8) → WP mX12_readLawAtom Q 70 [some (.ref 159), none] [] (jG0 sc) h1 (0, 0))
    (v2 : ∀ h1 : jH, P1 h1 → ¬ (h1 159 6) ≤ (h1 159 8) → WP mX12_readLawAtom Q 15 [some (.ref 159), none] [] (jG0 sc) h1 (0, 0)) :
    WP mX12_readLawAtom Q 0 [some (.ref 159), none] [] (jG0 sc) h (0, 0) := by
  refine j_aload_n (i := 0) rfl dX12_readLawAtom_0 ?_
  refine j_callV (idx := 108) (As := []) (ci := 12) (n := 0) k1 jvoid_nt (jlkT (jtb6 207 rfl) rfl) sX12_letters kX12_letters rfl ⟨rfl, by decide +kernel, by decide +kernel, by decide +kernel⟩ rfl ⟨by decide, by decide⟩ (Nat.le_of_ble_eq_true rfl) rfl (Nat.le_of_ble_eq_true rfl) (Nat.le_of_ble_eq_true rfl) ⟨Nat.zero_le _, Nat.zero_le _⟩ dX12_readLawAtom_1 (fun r Γ' h1 q => ?_)
  obtain ⟨q0, rfl, p1⟩ := q; cases q0
  refine j_eqst [] (by rfl) ?_
  refine j_aload_n (i := 0) rfl dX12_readLawAtom_4 ?_
  refine j_getI (idx := 85) (ci := 12) (k := 6) (nest := false) (show (12, 85, 12, 6, false) ∈ jFT by decide) rfl (Nat.le_of_ble_eq_true rfl) rfl dX12_readLawAtom_5 ?_
  refine j_aload_n (i := 0) rfl dX12_readLawAtom_8 ?_
  refine j_getI (idx := 92) (ci := 12) (k := 8) (nest := false) (show (12, 92, 12, 8, false) ∈ jFT by decide) rfl (Nat.le_of_ble_eq_true rfl) rfl dX12_readLawAtom_9 ?_
  refine j_icmp_le (off := 58) 70 dX12_readLawAtom_12 (by decide) (fun c1 => ?_) (fun c1 => ?_)
  · exact j_le [some (.ref 159), none] (And.intro rfl True.intro) (v1 h1 p1 c1)
  · exact j_le [some (.ref 159), none] (And.intro rfl True.intro) (v2 h1 p1 c1)
set_option maxRecDepth 100000 in
theorem bX12_readLawAtom_15 {sc : Nat × (Nat → Int32)} {h : jH} {Q : jQ} {P1 : Int32 → jH → Prop}
    (k1 : JM mX12_isWord [.ref 159, .ref 1018] (jG0 sc) h (jint sc P1))
    (v1 : ∀ (x1 : Int32) (h1 : jH), P1 x1 h1 → x1 = 0 → WP mX12_readLawAtom Q 28 [some (.ref 159), none] [] (jG0 sc) h1 (0, 0))
    (v2 : ∀ (x1 : Int32) (h1 : jH), P1 x1 h1 → ¬ x1 = 0 → WP mX12_readLawAtom Q 24 [some (.ref 159), none] [] (jG0 sc) h1 (0, 0)) :
    WP mX12_readLawAtom Q 15 [some (.ref 159), none] [] (jG0 sc) h (0, 0) := by
  refine j_aload_n (i := 0) rfl dX12_readLawAtom_15 ?_
  refine j_ldcS (idx := 167) "\x72" 18 (show ("MendBenchModel", 167, "\x72", 18) ∈ jStr by decide +kernel) dX12_readLawAtom_16 ?_
  refine j_callV (idx := 111) (As := [.ref 1018]) (ci := 12) (n := 1) k1 jint_nt (jlkT (jtb6 223 rfl) rfl) sX12_isWord kX12_isWord rfl ⟨rfl, by decide +kernel, by decide +kernel, by decide +kernel⟩ rfl ⟨by decide, by decide⟩ (Nat.le_of_ble_eq_true rfl) rfl (Nat.le_of_ble_eq_true rfl) (Nat.le_of_ble_eq_true rfl) ⟨Nat.zero_le _, Nat.zero_le _⟩ dX12_readLawAtom_18 (fun r Γ' h1 q => ?_)
  obtain ⟨x1, q0, rfl, p1⟩ := q; cases q0
  refine j_eqst [.int x1] (by rfl) ?_
  refine j_if_eq (off := 7) 28 dX12_readLawAtom_21 (by decide) (fun c1 => ?_) (fun c1 => ?_)
  · exact j_le [some (.ref 159), none] (And.intro rfl True.intro) (v1 x1 h1 p1 c1)
  · exact j_le [some (.ref 159), none] (And.intro rfl True.intro) (v2 x1 h1 p1 c1)
set_option maxRecDepth 100000 in
theorem bX12_readLawAtom_24 {sc : Nat × (Nat → Int32)} {h : jH} {Q : jQ}
    (v1 : WP mX12_readLawAtom Q 55 [some (.ref 159), none] [.int 1] (jG0 sc) h (0, 0)) :
    WP mX12_readLawAtom Q 24 [some (.ref 159), none] [] (jG0 sc) h (0, 0) := by
  refine j_iconst (n := 1) 1 (by decide) dX12_readLawAtom_24 ?_
  refine j_goto (off := 30) 55 dX12_readLawAtom_25 (by decide) ?_
  exact j_le [some (.ref 159), none] (And.intro rfl True.intro) v1
set_option maxRecDepth 100000 in
theorem bX12_readLawAtom_28 {sc : Nat × (Nat → Int32)} {h : jH} {Q : jQ} {P1 : Int32 → jH → Prop}
    (k1 : JM mX12_isWord [.ref 159, .ref 1019] (jG0 sc) h (jint sc P1))
    (v1 : ∀ (x1 : Int32) (h1 : jH), P1 x1 h1 → x1 = 0 → WP mX12_readLawAtom Q 41 [some (.ref 159), none] [] (jG0 sc) h1 (0, 0))
    (v2 : ∀ (x1 : Int32) (h1 : jH), P1 x1 h1 → ¬ x1 = 0 → WP mX12_readLawAtom Q 37 [some (.ref 159), none] [] (jG0 sc) h1 (0, 0)) :
    WP mX12_readLawAtom Q 28 [some (.ref 159), none] [] (jG0 sc) h (0, 0) := by
  refine j_aload_n (i := 0) rfl dX12_readLawAtom_28 ?_
  refine j_ldcS (idx := 169) "x" 19 (show ("MendBenchModel", 169, "x", 19) ∈ jStr by decide +kernel) dX12_readLawAtom_29 ?_
  refine j_callV (idx := 111) (As := [.ref 1019]) (ci := 12) (n := 1) k1 jint_nt (jlkT (jtb6 223 rfl) rfl) sX12_isWord kX12_isWord rfl ⟨rfl, by decide +kernel, by decide +kernel, by decide +kernel⟩ rfl ⟨by decide, by decide⟩ (Nat.le_of_ble_eq_true rfl) rfl (Nat.le_of_ble_eq_true rfl) (Nat.le_of_ble_eq_true rfl) ⟨Nat.zero_le _, Nat.zero_le _⟩ dX12_readLawAtom_31 (fun r Γ' h1 q => ?_)
  obtain ⟨x1, q0, rfl, p1⟩ := q; cases q0
  refine j_eqst [.int x1] (by rfl) ?_
  refine j_if_eq (off := 7) 41 dX12_readLawAtom_34 (by decide) (fun c1 => ?_) (fun c1 => ?_)
  · exact j_le [some (.ref 159), none] (And.intro rfl True.intro) (v1 x1 h1 p1 c1)
  · exact j_le [some (.ref 159), none] (And.intro rfl True.intro) (v2 x1 h1 p1 c1)
set_option maxRecDepth 100000 in
theorem bX12_readLawAtom_37 {sc : Nat × (Nat → Int32)} {h : jH} {Q : jQ}
    (v1 : WP mX12_readLawAtom Q 55 [some (.ref 159), none] [.int 2] (jG0 sc) h (0, 0)) :
    WP mX12_readLawAtom Q 37 [some (.ref 159), none] [] (jG0 sc) h (0, 0) := by
  refine j_iconst (n := 2) 2 (by decide) dX12_readLawAtom_37 ?_
  refine j_goto (off := 17) 55 dX12_readLawAtom_38 (by decide) ?_
  exact j_le [some (.ref 159), none] (And.intro rfl True.intro) v1
set_option maxRecDepth 100000 in
theorem bX12_readLawAtom_41 {sc : Nat × (Nat → Int32)} {h : jH} {Q : jQ} {P1 : Int32 → jH → Prop}
    (k1 : JM mX12_isWord [.ref 159, .ref 1020] (jG0 sc) h (jint sc P1))
    (v1 : ∀ (x1 : Int32) (h1 : jH), P1 x1 h1 → x1 = 0 → WP mX12_readLawAtom Q 54 [some (.ref 159), none] [] (jG0 sc) h1 (0, 0))
    (v2 : ∀ (x1 : Int32) (h1 : jH), P1 x1 h1 → ¬ x1 = 0 → WP mX12_readLawAtom Q 50 [some (.ref 159), none] [] (jG0 sc) h1 (0, 0)) :
    WP mX12_readLawAtom Q 41 [some (.ref 159), none] [] (jG0 sc) h (0, 0) := by
  refine j_aload_n (i := 0) rfl dX12_readLawAtom_41 ?_
  refine j_ldcS (idx := 171) "y" 20 (show ("MendBenchModel", 171, "y", 20) ∈ jStr by decide +kernel) dX12_readLawAtom_42 ?_
  refine j_callV (idx := 111) (As := [.ref 1020]) (ci := 12) (n := 1) k1 jint_nt (jlkT (jtb6 223 rfl) rfl) sX12_isWord kX12_isWord rfl ⟨rfl, by decide +kernel, by decide +kernel, by decide +kernel⟩ rfl ⟨by decide, by decide⟩ (Nat.le_of_ble_eq_true rfl) rfl (Nat.le_of_ble_eq_true rfl) (Nat.le_of_ble_eq_true rfl) ⟨Nat.zero_le _, Nat.zero_le _⟩ dX12_readLawAtom_44 (fun r Γ' h1 q => ?_)
  obtain ⟨x1, q0, rfl, p1⟩ := q; cases q0
  refine j_eqst [.int x1] (by rfl) ?_
  refine j_if_eq (off := 7) 54 dX12_readLawAtom_47 (by decide) (fun c1 => ?_) (fun c1 => ?_)
  · exact j_le [some (.ref 159), none] (And.intro rfl True.intro) (v1 x1 h1 p1 c1)
  · exact j_le [some (.ref 159), none] (And.intro rfl True.intro) (v2 x1 h1 p1 c1)
set_option maxRecDepth 100000 in
theorem bX12_readLawAtom_50 {sc : Nat × (Nat → Int32)} {h : jH} {Q : jQ}
    (v1 : WP mX12_readLawAtom Q 55 [some (.ref 159), none] [.int 3] (jG0 sc) h (0, 0)) :
    WP mX12_readLawAtom Q 50 [some (.ref 159), none] [] (jG0 sc) h (0, 0) := by
  refine j_iconst (n := 3) 3 (by decide) dX12_readLawAtom_50 ?_
  refine j_goto (off := 4) 55 dX12_readLawAtom_51 (by decide) ?_
  exact j_le [some (.ref 159), none] (And.intro rfl True.intro) v1
set_option maxRecDepth 100000 in
theorem bX12_readLawAtom_54 {sc : Nat × (Nat → Int32)} {h : jH} {Q : jQ}
    (v1 : WP mX12_readLawAtom Q 55 [some (.ref 159), none] [.int (-1)] (jG0 sc) h (0, 0)) :
    WP mX12_readLawAtom Q 54 [some (.ref 159), none] [] (jG0 sc) h (0, 0) := by
  refine j_iconst (n := (-1)) (-1) (by decide) dX12_readLawAtom_54 ?_
  exact j_le [some (.ref 159), none] (And.intro rfl True.intro) v1
set_option maxRecDepth 100000 in
theorem bX12_readLawAtom_55 {sc : Nat × (Nat → Int32)} {h : jH} {Q : jQ} {s0 : Int32}
    (v1 : 0 ≤ s0 → WP mX12_readLawAtom Q 62 [some (.ref 159), some (.int s0)] [] (jG0 sc) h (0, 0))
    (v2 : ¬ 0 ≤ s0 → WP mX12_readLawAtom Q 60 [some (.ref 159), some (.int s0)] [] (jG0 sc) h (0, 0)) :
    WP mX12_readLawAtom Q 55 [some (.ref 159), none] [.int s0] (jG0 sc) h (0, 0) := by
  refine j_istore_n (i := 1) dX12_readLawAtom_55 (Nat.le_of_ble_eq_true rfl) ?_
  refine j_iload_n (i := 1) rfl dX12_readLawAtom_56 ?_
  refine j_if_ge (off := 5) 62 dX12_readLawAtom_57 (by decide) (fun c1 => ?_) (fun c1 => ?_)
  · exact j_le [some (.ref 159), some (.int s0)] (And.intro rfl (And.intro rfl True.intro)) (v1 c1)
  · exact j_le [some (.ref 159), some (.int s0)] (And.intro rfl (And.intro rfl True.intro)) (v2 c1)
set_option maxRecDepth 100000 in
theorem bX12_readLawAtom_60 {sc : Nat × (Nat → Int32)} {h : jH} {Q : jQ} {l1 : Int32}
    (v1 : Q (.inl (some (.int 0))) (jG0 sc) h) :
    WP mX12_readLawAtom Q 60 [some (.ref 159), some (.int l1)] [] (jG0 sc) h (0, 0) := by
  refine j_iconst (n := 0) 0 (by decide) dX12_readLawAtom_60 ?_
  exact j_iret rfl rfl (Nat.zero_le _) (Nat.zero_le _) dX12_readLawAtom_61 v1
set_option maxRecDepth 100000 in
theorem bX12_readLawAtom_62 {sc : Nat × (Nat → Int32)} {h : jH} {Q : jQ} {l1 : Int32} {P1 : jH → Prop}
    (k1 : JM mX12_emits [.ref 159, .int l1, .int 0] (jG0 sc) h (jvoid sc P1))
    (v1 : ∀ h1 : jH, P1 h1 → Q (.inl (some (.int 1))) (jG0 sc) h1) :
    WP mX12_readLawAtom Q 62 [some (.ref 159), some (.int l1)] [] (jG0 sc) h (0, 0) := by
  refine j_aload_n (i := 0) rfl dX12_readLawAtom_62 ?_
  refine j_iload_n (i := 1) rfl dX12_readLawAtom_63 ?_
  refine j_iconst (n := 0) 0 (by decide) dX12_readLawAtom_64 ?_
  refine j_callV (idx := 173) (As := [.int l1, .int 0]) (ci := 12) (n := 2) k1 jvoid_nt (jlkT (jtb7 50 rfl) rfl) sX12_emits kX12_emits rfl ⟨rfl, by decide +kernel, by decide +kernel, by decide +kernel⟩ rfl ⟨by decide, by decide⟩ (Nat.le_of_ble_eq_true rfl) rfl (Nat.le_of_ble_eq_true rfl) (Nat.le_of_ble_eq_true rfl) ⟨Nat.zero_le _, Nat.zero_le _⟩ dX12_readLawAtom_65 (fun r Γ' h1 q => ?_)
  obtain ⟨q0, rfl, p1⟩ := q; cases q0
  refine j_eqst [] (by rfl) ?_
  refine j_iconst (n := 1) 1 (by decide) dX12_readLawAtom_68 ?_
  exact j_iret rfl rfl (Nat.zero_le _) (Nat.zero_le _) dX12_readLawAtom_69 (v1 h1 p1)
set_option maxRecDepth 100000 in
theorem bX12_readLawAtom_70 {sc : Nat × (Nat → Int32)} {h : jH} {Q : jQ} {P1 : Int32 → jH → Prop}
    (k1 : JM mX12_number [.ref 159, .int 4, .int 0] (jG0 sc) h (jint sc P1))
    (v1 : ∀ (x1 : Int32) (h1 : jH), P1 x1 h1 → 0 ≤ x1 → WP mX12_readLawAtom Q 83 [some (.ref 159), some (.int x1)] [] (jG0 sc) h1 (0, 0))
    (v2 : ∀ (x1 : Int32) (h1 : jH), P1 x1 h1 → ¬ 0 ≤ x1 → WP mX12_readLawAtom Q 81 [some (.ref 159), some (.int x1)] [] (jG0 sc) h1 (0, 0)) :
    WP mX12_readLawAtom Q 70 [some (.ref 159), none] [] (jG0 sc) h (0, 0) := by
  refine j_aload_n (i := 0) rfl dX12_readLawAtom_70 ?_
  refine j_iconst (n := 4) 4 (by decide) dX12_readLawAtom_71 ?_
  refine j_iconst (n := 0) 0 (by decide) dX12_readLawAtom_72 ?_
  refine j_callV (idx := 115) (As := [.int 4, .int 0]) (ci := 12) (n := 2) k1 jint_nt (jlkT (jtb7 0 rfl) rfl) sX12_number kX12_number rfl ⟨rfl, by decide +kernel, by decide +kernel, by decide +kernel⟩ rfl ⟨by decide, by decide⟩ (Nat.le_of_ble_eq_true rfl) rfl (Nat.le_of_ble_eq_true rfl) (Nat.le_of_ble_eq_true rfl) ⟨Nat.zero_le _, Nat.zero_le _⟩ dX12_readLawAtom_73 (fun r Γ' h1 q => ?_)
  obtain ⟨x1, q0, rfl, p1⟩ := q; cases q0
  refine j_eqst [.int x1] (by rfl) ?_
  refine j_istore_n (i := 1) dX12_readLawAtom_76 (Nat.le_of_ble_eq_true rfl) ?_
  refine j_iload_n (i := 1) rfl dX12_readLawAtom_77 ?_
  refine j_if_ge (off := 5) 83 dX12_readLawAtom_78 (by decide) (fun c1 => ?_) (fun c1 => ?_)
  · exact j_le [some (.ref 159), some (.int x1)] (And.intro rfl (And.intro rfl True.intro)) (v1 x1 h1 p1 c1)
  · exact j_le [some (.ref 159), some (.int x1)] (And.intro rfl (And.intro rfl True.intro)) (v2 x1 h1 p1 c1)
set_option maxRecDepth 100000 in
theorem bX12_readLawAtom_81 {sc : Nat × (Nat → Int32)} {h : jH} {Q : jQ} {l1 : Int32}
    (v1 : Q (.inl (some (.int 0))) (jG0 sc) h) :
    WP mX12_readLawAtom Q 81 [some (.ref 159), some (.int l1)] [] (jG0 sc) h (0, 0) := by
  refine j_iconst (n := 0) 0 (by decide) dX12_readLawAtom_81 ?_
  exact j_iret rfl rfl (Nat.zero_le _) (Nat.zero_le _) dX12_readLawAtom_82 v1
set_option maxRecDepth 100000 in
theorem bX12_readLawAtom_83 {sc : Nat × (Nat → Int32)} {h : jH} {Q : jQ} {l1 : Int32} {P1 : jH → Prop}
    (k1 : JM mX12_emits [.ref 159, .int 0, .int l1] (jG0 sc) h (jvoid sc P1))
    (v1 : ∀ h1 : jH, P1 h1 → Q (.inl (some (.int 1))) (jG0 sc) h1) :
    WP mX12_readLawAtom Q 83 [some (.ref 159), some (.int l1)] [] (jG0 sc) h (0, 0) := by
  refine j_aload_n (i := 0) rfl dX12_readLawAtom_83 ?_
  refine j_iconst (n := 0) 0 (by decide) dX12_readLawAtom_84 ?_
  refine j_iload_n (i := 1) rfl dX12_readLawAtom_85 ?_
  refine j_callV (idx := 173) (As := [.int 0, .int l1]) (ci := 12) (n := 2) k1 jvoid_nt (jlkT (jtb7 50 rfl) rfl) sX12_emits kX12_emits rfl ⟨rfl, by decide +kernel, by decide +kernel, by decide +kernel⟩ rfl ⟨by decide, by decide⟩ (Nat.le_of_ble_eq_true rfl) rfl (Nat.le_of_ble_eq_true rfl) (Nat.le_of_ble_eq_true rfl) ⟨Nat.zero_le _, Nat.zero_le _⟩ dX12_readLawAtom_86 (fun r Γ' h1 q => ?_)
  obtain ⟨q0, rfl, p1⟩ := q; cases q0
  refine j_eqst [] (by rfl) ?_
  refine j_iconst (n := 1) 1 (by decide) dX12_readLawAtom_89 ?_
  exact j_iret rfl rfl (Nat.zero_le _) (Nat.zero_le _) dX12_readLawAtom_90 (v1 h1 p1)
set_option maxRecDepth 100000 in
theorem rX12_readLawAtom_0 {sc : Nat × (Nat → Int32)} {h : jH} {Q : jQ} {P1 : jH → Prop} {P2 : Int32 → jH → Prop} {P3 : jH → Prop} {P4 : Int32 → jH → Prop} {P5 : Int32 → jH → Prop} {P6 : Int32 → jH → Prop} {P7 : jH → Prop} {P8 : jH → Prop} {P9 : jH → Prop}
    (k1 : JM mX12_letters [.ref 159] (jG0 sc) h (jvoid sc P1))
    (k2 : ∀ h1 : jH, P1 h1 → (h1 159 6) ≤ (h1 159 8) → JM mX12_number [.ref 159, .int 4, .int 0] (jG0 sc) h1 (jint sc P2))
    (k3 : ∀ h1 : jH, P1 h1 → (h1 159 6) ≤ (h1 159 8) → ∀ (x2 : Int32) (h2 : jH), P2 x2 h2 → 0 ≤ x2 → JM mX12_emits [.ref 159, .int 0, .int x2] (jG0 sc) h2 (jvoid sc P3))
    (v1 : ∀ h1 : jH, P1 h1 → (h1 159 6) ≤ (h1 159 8) → ∀ (x2 : Int32) (h2 : jH), P2 x2 h2 → 0 ≤ x2 → ∀ h3 : jH, P3 h3 → Q (.inl (some (.int 1))) (jG0 sc) h3)
    (v2 : ∀ h1 : jH, P1 h1 → (h1 159 6) ≤ (h1 159 8) → ∀ (x2 : Int32) (h2 : jH), P2 x2 h2 → ¬ 0 ≤ x2 → Q (.inl (some (.int 0))) (jG0 sc) h2)
    (k4 : ∀ h1 : jH, P1 h1 → ¬ (h1 159 6) ≤ (h1 159 8) → JM mX12_isWord [.ref 159, .ref 1018] (jG0 sc) h1 (jint sc P4))
    (k5 : ∀ h1 : jH, P1 h1 → ¬ (h1 159 6) ≤ (h1 159 8) → ∀ (x4 : Int32) (h4 : jH), P4 x4 h4 → x4 = 0 → JM mX12_isWord [.ref 159, .ref 1019] (jG0 sc) h4 (jint sc P5))
    (k6 : ∀ h1 : jH, P1 h1 → ¬ (h1 159 6) ≤ (h1 159 8) → ∀ (x4 : Int32) (h4 : jH), P4 x4 h4 → x4 = 0 → ∀ (x5 : Int32) (h5 : jH), P5 x5 h5 → x5 = 0 → JM mX12_isWord [.ref 159, .ref 1020] (jG0 sc) h5 (jint sc P6))
    (v3 : ∀ h1 : jH, P1 h1 → ¬ (h1 159 6) ≤ (h1 159 8) → ∀ (x4 : Int32) (h4 : jH), P4 x4 h4 → x4 = 0 → ∀ (x5 : Int32) (h5 : jH), P5 x5 h5 → x5 = 0 → ∀ (x6 : Int32) (h6 : jH), P6 x6 h6 → x6 = 0 → Q (.inl (some (.int 0))) (jG0 sc) h6)
    (k7 : ∀ h1 : jH, P1 h1 → ¬ (h1 159 6) ≤ (h1 159 8) → ∀ (x4 : Int32) (h4 : jH), P4 x4 h4 → x4 = 0 → ∀ (x5 : Int32) (h5 : jH), P5 x5 h5 → x5 = 0 → ∀ (x6 : Int32) (h6 : jH), P6 x6 h6 → ¬ x6 = 0 → JM mX12_emits [.ref 159, .int 3, .int 0] (jG0 sc) h6 (jvoid sc P7))
    (v4 : ∀ h1 : jH, P1 h1 → ¬ (h1 159 6) ≤ (h1 159 8) → ∀ (x4 : Int32) (h4 : jH), P4 x4 h4 → x4 = 0 → ∀ (x5 : Int32) (h5 : jH), P5 x5 h5 → x5 = 0 → ∀ (x6 : Int32) (h6 : jH), P6 x6 h6 → ¬ x6 = 0 → ∀ h7 : jH, P7 h7 → Q (.inl (some (.int 1))) (jG0 sc) h7)
    (k8 : ∀ h1 : jH, P1 h1 → ¬ (h1 159 6) ≤ (h1 159 8) → ∀ (x4 : Int32) (h4 : jH), P4 x4 h4 → x4 = 0 → ∀ (x5 : Int32) (h5 : jH), P5 x5 h5 → ¬ x5 = 0 → JM mX12_emits [.ref 159, .int 2, .int 0] (jG0 sc) h5 (jvoid sc P8))
    (v5 : ∀ h1 : jH, P1 h1 → ¬ (h1 159 6) ≤ (h1 159 8) → ∀ (x4 : Int32) (h4 : jH), P4 x4 h4 → x4 = 0 → ∀ (x5 : Int32) (h5 : jH), P5 x5 h5 → ¬ x5 = 0 → ∀ h8 : jH, P8 h8 → Q (.inl (some (.int 1))) (jG0 sc) h8)
    (k9 : ∀ h1 : jH, P1 h1 → ¬ (h1 159 6) ≤ (h1 159 8) → ∀ (x4 : Int32) (h4 : jH), P4 x4 h4 → ¬ x4 = 0 → JM mX12_emits [.ref 159, .int 1, .int 0] (jG0 sc) h4 (jvoid sc P9))
    (v6 : ∀ h1 : jH, P1 h1 → ¬ (h1 159 6) ≤ (h1 159 8) → ∀ (x4 : Int32) (h4 : jH), P4 x4 h4 → ¬ x4 = 0 → ∀ h9 : jH, P9 h9 → Q (.inl (some (.int 1))) (jG0 sc) h9) :
    WP mX12_readLawAtom Q 0 [some (.ref 159), none] [] (jG0 sc) h (0, 0) := by
  exact (bX12_readLawAtom_0 k1 (fun h1 p1 c1 => (bX12_readLawAtom_70 (k2 h1 p1 c1) (fun x2 h2 p2 c2 => (bX12_readLawAtom_83 (k3 h1 p1 c1 x2 h2 p2 c2) (fun h3 p3 => (v1 h1 p1 c1 x2 h2 p2 c2 h3 p3)))) (fun x2 h2 p2 c2 => (bX12_readLawAtom_81 (v2 h1 p1 c1 x2 h2 p2 c2))))) (fun h1 p1 c1 => (bX12_readLawAtom_15 (k4 h1 p1 c1) (fun x4 h4 p4 c3 => (bX12_readLawAtom_28 (k5 h1 p1 c1 x4 h4 p4 c3) (fun x5 h5 p5 c4 => (bX12_readLawAtom_41 (k6 h1 p1 c1 x4 h4 p4 c3 x5 h5 p5 c4) (fun x6 h6 p6 c5 => (bX12_readLawAtom_54 (bX12_readLawAtom_55 (fun q => absurd q (by decide)) (fun _ => (bX12_readLawAtom_60 (v3 h1 p1 c1 x4 h4 p4 c3 x5 h5 p5 c4 x6 h6 p6 c5)))))) (fun x6 h6 p6 c5 => (bX12_readLawAtom_50 (bX12_readLawAtom_55 (fun _ => (bX12_readLawAtom_62 (k7 h1 p1 c1 x4 h4 p4 c3 x5 h5 p5 c4 x6 h6 p6 c5) (fun h7 p7 => (v4 h1 p1 c1 x4 h4 p4 c3 x5 h5 p5 c4 x6 h6 p6 c5 h7 p7)))) (fun q => absurd q (by decide))))))) (fun x5 h5 p5 c4 => (bX12_readLawAtom_37 (bX12_readLawAtom_55 (fun _ => (bX12_readLawAtom_62 (k8 h1 p1 c1 x4 h4 p4 c3 x5 h5 p5 c4) (fun h8 p8 => (v5 h1 p1 c1 x4 h4 p4 c3 x5 h5 p5 c4 h8 p8)))) (fun q => absurd q (by decide))))))) (fun x4 h4 p4 c3 => (bX12_readLawAtom_24 (bX12_readLawAtom_55 (fun _ => (bX12_readLawAtom_62 (k9 h1 p1 c1 x4 h4 p4 c3) (fun h9 p9 => (v6 h1 p1 c1 x4 h4 p4 c3 h9 p9)))) (fun q => absurd q (by decide))))))))
theorem dX12_readItem_0 : decode cX12_readItem 0 = .ok (.aload_n 0, 1) := by decide +kernel
theorem dX12_readItem_1 : decode cX12_readItem 1 = .ok (.bipush 40, 2) := by decide +kernel
theorem dX12_readItem_3 : decode cX12_readItem 3 = .ok (.invokevirtual 122, 3) := by decide +kernel
theorem dX12_readItem_6 : decode cX12_readItem 6 = .ok (.ifCond .eq 50, 3) := by decide +kernel
theorem dX12_readItem_9 : decode cX12_readItem 9 = .ok (.aload_n 0, 1) := by decide +kernel
theorem dX12_readItem_10 : decode cX12_readItem 10 = .ok (.getfield 177, 3) := by decide +kernel
theorem dX12_readItem_13 : decode cX12_readItem 13 = .ok (.bipush 6, 2) := by decide +kernel
theorem dX12_readItem_15 : decode cX12_readItem 15 = .ok (.if_icmp .ne 5, 3) := by decide +kernel
theorem dX12_readItem_18 : decode cX12_readItem 18 = .ok (.iconst 0, 1) := by decide +kernel
theorem dX12_readItem_19 : decode cX12_readItem 19 = .ok (.ireturn, 1) := by decide +kernel
theorem dX12_readItem_20 : decode cX12_readItem 20 = .ok (.aload_n 0, 1) := by decide +kernel
theorem dX12_readItem_21 : decode cX12_readItem 21 = .ok (.dup, 1) := by decide +kernel
theorem dX12_readItem_22 : decode cX12_readItem 22 = .ok (.getfield 177, 3) := by decide +kernel
theorem dX12_readItem_25 : decode cX12_readItem 25 = .ok (.iconst 1, 1) := by decide +kernel
theorem dX12_readItem_26 : decode cX12_readItem 26 = .ok (.iadd, 1) := by decide +kernel
theorem dX12_readItem_27 : decode cX12_readItem 27 = .ok (.putfield 177, 3) := by decide +kernel
theorem dX12_readItem_30 : decode cX12_readItem 30 = .ok (.aload_n 0, 1) := by decide +kernel
theorem dX12_readItem_31 : decode cX12_readItem 31 = .ok (.invokevirtual 180, 3) := by decide +kernel
theorem dX12_readItem_34 : decode cX12_readItem 34 = .ok (.ifCond .ne 5, 3) := by decide +kernel
theorem dX12_readItem_37 : decode cX12_readItem 37 = .ok (.iconst 0, 1) := by decide +kernel
theorem dX12_readItem_38 : decode cX12_readItem 38 = .ok (.ireturn, 1) := by decide +kernel
theorem dX12_readItem_39 : decode cX12_readItem 39 = .ok (.aload_n 0, 1) := by decide +kernel
theorem dX12_readItem_40 : decode cX12_readItem 40 = .ok (.dup, 1) := by decide +kernel
theorem dX12_readItem_41 : decode cX12_readItem 41 = .ok (.getfield 177, 3) := by decide +kernel
theorem dX12_readItem_44 : decode cX12_readItem 44 = .ok (.iconst 1, 1) := by decide +kernel
theorem dX12_readItem_45 : decode cX12_readItem 45 = .ok (.isub, 1) := by decide +kernel
theorem dX12_readItem_46 : decode cX12_readItem 46 = .ok (.putfield 177, 3) := by decide +kernel
theorem dX12_readItem_49 : decode cX12_readItem 49 = .ok (.aload_n 0, 1) := by decide +kernel
theorem dX12_readItem_50 : decode cX12_readItem 50 = .ok (.bipush 41, 2) := by decide +kernel
theorem dX12_readItem_52 : decode cX12_readItem 52 = .ok (.invokevirtual 122, 3) := by decide +kernel
theorem dX12_readItem_55 : decode cX12_readItem 55 = .ok (.ireturn, 1) := by decide +kernel
theorem dX12_readItem_56 : decode cX12_readItem 56 = .ok (.aload_n 0, 1) := by decide +kernel
theorem dX12_readItem_57 : decode cX12_readItem 57 = .ok (.ldc 184, 2) := by decide +kernel
theorem dX12_readItem_59 : decode cX12_readItem 59 = .ok (.invokevirtual 186, 3) := by decide +kernel
theorem dX12_readItem_62 : decode cX12_readItem 62 = .ok (.ifCond .eq 52, 3) := by decide +kernel
theorem dX12_readItem_65 : decode cX12_readItem 65 = .ok (.aload_n 0, 1) := by decide +kernel
theorem dX12_readItem_66 : decode cX12_readItem 66 = .ok (.getfield 177, 3) := by decide +kernel
theorem dX12_readItem_69 : decode cX12_readItem 69 = .ok (.bipush 6, 2) := by decide +kernel
theorem dX12_readItem_71 : decode cX12_readItem 71 = .ok (.if_icmp .ne 5, 3) := by decide +kernel
theorem dX12_readItem_74 : decode cX12_readItem 74 = .ok (.iconst 0, 1) := by decide +kernel
theorem dX12_readItem_75 : decode cX12_readItem 75 = .ok (.ireturn, 1) := by decide +kernel
theorem dX12_readItem_76 : decode cX12_readItem 76 = .ok (.aload_n 0, 1) := by decide +kernel
theorem dX12_readItem_77 : decode cX12_readItem 77 = .ok (.dup, 1) := by decide +kernel
theorem dX12_readItem_78 : decode cX12_readItem 78 = .ok (.getfield 177, 3) := by decide +kernel
theorem dX12_readItem_81 : decode cX12_readItem 81 = .ok (.iconst 1, 1) := by decide +kernel
theorem dX12_readItem_82 : decode cX12_readItem 82 = .ok (.iadd, 1) := by decide +kernel
theorem dX12_readItem_83 : decode cX12_readItem 83 = .ok (.putfield 177, 3) := by decide +kernel
theorem dX12_readItem_86 : decode cX12_readItem 86 = .ok (.aload_n 0, 1) := by decide +kernel
theorem dX12_readItem_87 : decode cX12_readItem 87 = .ok (.invokevirtual 189, 3) := by decide +kernel
theorem dX12_readItem_90 : decode cX12_readItem 90 = .ok (.ifCond .ne 5, 3) := by decide +kernel
theorem dX12_readItem_93 : decode cX12_readItem 93 = .ok (.iconst 0, 1) := by decide +kernel
theorem dX12_readItem_94 : decode cX12_readItem 94 = .ok (.ireturn, 1) := by decide +kernel
theorem dX12_readItem_95 : decode cX12_readItem 95 = .ok (.aload_n 0, 1) := by decide +kernel
theorem dX12_readItem_96 : decode cX12_readItem 96 = .ok (.dup, 1) := by decide +kernel
theorem dX12_readItem_97 : decode cX12_readItem 97 = .ok (.getfield 177, 3) := by decide +kernel
theorem dX12_readItem_100 : decode cX12_readItem 100 = .ok (.iconst 1, 1) := by decide +kernel
theorem dX12_readItem_101 : decode cX12_readItem 101 = .ok (.isub, 1) := by decide +kernel
theorem dX12_readItem_102 : decode cX12_readItem 102 = .ok (.putfield 177, 3) := by decide +kernel
theorem dX12_readItem_105 : decode cX12_readItem 105 = .ok (.aload_n 0, 1) := by decide +kernel
theorem dX12_readItem_106 : decode cX12_readItem 106 = .ok (.bipush 7, 2) := by decide +kernel
theorem dX12_readItem_108 : decode cX12_readItem 108 = .ok (.iconst 0, 1) := by decide +kernel
theorem dX12_readItem_109 : decode cX12_readItem 109 = .ok (.invokevirtual 173, 3) := by decide +kernel
theorem dX12_readItem_112 : decode cX12_readItem 112 = .ok (.iconst 1, 1) := by decide +kernel
theorem dX12_readItem_113 : decode cX12_readItem 113 = .ok (.ireturn, 1) := by decide +kernel
theorem dX12_readItem_114 : decode cX12_readItem 114 = .ok (.aload_n 0, 1) := by decide +kernel
theorem dX12_readItem_115 : decode cX12_readItem 115 = .ok (.invokevirtual 192, 3) := by decide +kernel
theorem dX12_readItem_118 : decode cX12_readItem 118 = .ok (.ifCond .ne 5, 3) := by decide +kernel
theorem dX12_readItem_121 : decode cX12_readItem 121 = .ok (.iconst 0, 1) := by decide +kernel
theorem dX12_readItem_122 : decode cX12_readItem 122 = .ok (.ireturn, 1) := by decide +kernel
theorem dX12_readItem_123 : decode cX12_readItem 123 = .ok (.aload_n 0, 1) := by decide +kernel
theorem dX12_readItem_124 : decode cX12_readItem 124 = .ok (.bipush 60, 2) := by decide +kernel
theorem dX12_readItem_126 : decode cX12_readItem 126 = .ok (.invokevirtual 122, 3) := by decide +kernel
theorem dX12_readItem_129 : decode cX12_readItem 129 = .ok (.ifCond .eq 7, 3) := by decide +kernel
theorem dX12_readItem_132 : decode cX12_readItem 132 = .ok (.iconst 4, 1) := by decide +kernel
theorem dX12_readItem_133 : decode cX12_readItem 133 = .ok (.goto 31, 3) := by decide +kernel
theorem dX12_readItem_136 : decode cX12_readItem 136 = .ok (.aload_n 0, 1) := by decide +kernel
theorem dX12_readItem_137 : decode cX12_readItem 137 = .ok (.bipush 62, 2) := by decide +kernel
theorem dX12_readItem_139 : decode cX12_readItem 139 = .ok (.invokevirtual 122, 3) := by decide +kernel
theorem dX12_readItem_142 : decode cX12_readItem 142 = .ok (.ifCond .eq 7, 3) := by decide +kernel
theorem dX12_readItem_145 : decode cX12_readItem 145 = .ok (.iconst 5, 1) := by decide +kernel
theorem dX12_readItem_146 : decode cX12_readItem 146 = .ok (.goto 18, 3) := by decide +kernel
theorem dX12_readItem_149 : decode cX12_readItem 149 = .ok (.aload_n 0, 1) := by decide +kernel
theorem dX12_readItem_150 : decode cX12_readItem 150 = .ok (.bipush 61, 2) := by decide +kernel
theorem dX12_readItem_152 : decode cX12_readItem 152 = .ok (.invokevirtual 122, 3) := by decide +kernel
theorem dX12_readItem_155 : decode cX12_readItem 155 = .ok (.ifCond .eq 8, 3) := by decide +kernel
theorem dX12_readItem_158 : decode cX12_readItem 158 = .ok (.bipush 6, 2) := by decide +kernel
theorem dX12_readItem_160 : decode cX12_readItem 160 = .ok (.goto 4, 3) := by decide +kernel
theorem dX12_readItem_163 : decode cX12_readItem 163 = .ok (.iconst (-1), 1) := by decide +kernel
theorem dX12_readItem_164 : decode cX12_readItem 164 = .ok (.istore_n 1, 1) := by decide +kernel
theorem dX12_readItem_165 : decode cX12_readItem 165 = .ok (.iload_n 1, 1) := by decide +kernel
theorem dX12_readItem_166 : decode cX12_readItem 166 = .ok (.ifCond .lt 10, 3) := by decide +kernel
theorem dX12_readItem_169 : decode cX12_readItem 169 = .ok (.aload_n 0, 1) := by decide +kernel
theorem dX12_readItem_170 : decode cX12_readItem 170 = .ok (.invokevirtual 192, 3) := by decide +kernel
theorem dX12_readItem_173 : decode cX12_readItem 173 = .ok (.ifCond .ne 5, 3) := by decide +kernel
theorem dX12_readItem_176 : decode cX12_readItem 176 = .ok (.iconst 0, 1) := by decide +kernel
theorem dX12_readItem_177 : decode cX12_readItem 177 = .ok (.ireturn, 1) := by decide +kernel
theorem dX12_readItem_178 : decode cX12_readItem 178 = .ok (.aload_n 0, 1) := by decide +kernel
theorem dX12_readItem_179 : decode cX12_readItem 179 = .ok (.iload_n 1, 1) := by decide +kernel
theorem dX12_readItem_180 : decode cX12_readItem 180 = .ok (.iconst 0, 1) := by decide +kernel
theorem dX12_readItem_181 : decode cX12_readItem 181 = .ok (.invokevirtual 173, 3) := by decide +kernel
theorem dX12_readItem_184 : decode cX12_readItem 184 = .ok (.iconst 1, 1) := by decide +kernel
theorem dX12_readItem_185 : decode cX12_readItem 185 = .ok (.ireturn, 1) := by decide +kernel
set_option maxRecDepth 100000 in
theorem bX12_readItem_0 {sc : Nat × (Nat → Int32)} {h : jH} {Q : jQ} {z z1 : Nat} {P1 : Int32 → jH → Prop} (hz : z1 < z) (zb : 13 ≤ z1)
    (k1 : JM mX12_sign [.ref 159, .int 40] (jG0 sc) h (jint sc P1))
    (v1 : ∀ (x1 : Int32) (h1 : jH), P1 x1 h1 → x1 = 0 → WP (mX12_readItem z) Q 56 [some (.ref 159), none] [] (jG0 sc) h1 (0, 0))
    (v2 : ∀ (x1 : Int32) (h1 : jH), P1 x1 h1 → ¬ x1 = 0 → WP (mX12_readItem z) Q 9 [some (.ref 159), none] [] (jG0 sc) h1 (0, 0)) :
    WP (mX12_readItem z) Q 0 [some (.ref 159), none] [] (jG0 sc) h (0, 0) := by
  refine j_aload_n (i := 0) rfl dX12_readItem_0 ?_
  refine j_bipush (n := 40) 40 (by decide) dX12_readItem_1 ?_
  refine j_callV (idx := 122) (As := [.int 40]) (ci := 12) (n := 1) k1 jint_nt (jlkT (jtb7 4 rfl) rfl) sX12_sign kX12_sign rfl ⟨rfl, (show yX12_sign.cls ≠ "java/lang/invoke/MethodHandle" by decide +kernel), (show yX12_sign.cls ≠ "java/lang/invoke/VarHandle" by decide +kernel), (show (parseMethodDescriptor yX12_sign.desc).map (fun d => d.parameters.length) = some 1 by decide +kernel)⟩ rfl ⟨Nat.lt_trans (Nat.lt_of_lt_of_le (show mH mX12_sign < 13 by decide) zb) hz, by decide⟩ (Nat.le_of_ble_eq_true rfl) rfl (Nat.le_of_ble_eq_true rfl) (Nat.le_of_ble_eq_true rfl) ⟨Nat.zero_le _, Nat.zero_le _⟩ dX12_readItem_3 (fun r Γ' h1 q => ?_)
  obtain ⟨x1, q0, rfl, p1⟩ := q; cases q0
  refine j_eqst [.int x1] (by rfl) ?_
  refine j_if_eq (off := 50) 56 dX12_readItem_6 (by decide) (fun c1 => ?_) (fun c1 => ?_)
  · exact j_le [some (.ref 159), none] (And.intro rfl True.intro) (v1 x1 h1 p1 c1)
  · exact j_le [some (.ref 159), none] (And.intro rfl True.intro) (v2 x1 h1 p1 c1)
set_option maxRecDepth 100000 in
theorem bX12_readItem_9 {sc : Nat × (Nat → Int32)} {h : jH} {Q : jQ} {z z1 : Nat} (hz : z1 < z) (zb : 13 ≤ z1)
    (v1 : ¬ (h 159 9) = 6 → WP (mX12_readItem z) Q 20 [some (.ref 159), none] [] (jG0 sc) h (0, 0))
    (v2 : (h 159 9) = 6 → WP (mX12_readItem z) Q 18 [some (.ref 159), none] [] (jG0 sc) h (0, 0)) :
    WP (mX12_readItem z) Q 9 [some (.ref 159), none] [] (jG0 sc) h (0, 0) := by
  refine j_aload_n (i := 0) rfl dX12_readItem_9 ?_
  refine j_getI (idx := 177) (ci := 12) (k := 9) (nest := false) (show (12, 177, 12, 9, false) ∈ jFT by decide) rfl (Nat.le_of_ble_eq_true rfl) rfl dX12_readItem_10 ?_
  refine j_bipush (n := 6) 6 (by decide) dX12_readItem_13 ?_
  refine j_icmp_ne (off := 5) 20 dX12_readItem_15 (by decide) (fun c1 => ?_) (fun c1 => ?_)
  · exact j_le [some (.ref 159), none] (And.intro rfl True.intro) (v1 c1)
  · exact j_le [some (.ref 159), none] (And.intro rfl True.intro) (v2 c1)
set_option maxRecDepth 100000 in
theorem bX12_readItem_18 {sc : Nat × (Nat → Int32)} {h : jH} {Q : jQ} {z z1 : Nat} (hz : z1 < z) (zb : 13 ≤ z1)
    (v1 : Q (.inl (some (.int 0))) (jG0 sc) h) :
    WP (mX12_readItem z) Q 18 [some (.ref 159), none] [] (jG0 sc) h (0, 0) := by
  refine j_iconst (n := 0) 0 (by decide) dX12_readItem_18 ?_
  exact j_iret rfl rfl (Nat.zero_le _) (Nat.zero_le _) dX12_readItem_19 v1
set_option maxRecDepth 100000 in
theorem bX12_readItem_20 {sc : Nat × (Nat → Int32)} {h : jH} {Q : jQ} {z z1 : Nat} {P1 : Int32 → jH → Prop} (hz : z1 < z) (zb : 13 ≤ z1)
    (k1 : JM (mX12_readCond z1) [.ref 159] (jG0 sc) (jput h 159 9 ((h 159 9) + 1)) (jint sc P1))
    (v1 : ∀ (x1 : Int32) (h1 : jH), P1 x1 h1 → ¬ x1 = 0 → WP (mX12_readItem z) Q 39 [some (.ref 159), none] [] (jG0 sc) h1 (0, 0))
    (v2 : ∀ (x1 : Int32) (h1 : jH), P1 x1 h1 → x1 = 0 → WP (mX12_readItem z) Q 37 [some (.ref 159), none] [] (jG0 sc) h1 (0, 0)) :
    WP (mX12_readItem z) Q 20 [some (.ref 159), none] [] (jG0 sc) h (0, 0) := by
  refine j_aload_n (i := 0) rfl dX12_readItem_20 ?_
  refine j_dup rfl dX12_readItem_21 ?_
  refine j_getI (idx := 177) (ci := 12) (k := 9) (nest := false) (show (12, 177, 12, 9, false) ∈ jFT by decide) rfl (Nat.le_of_ble_eq_true rfl) rfl dX12_readItem_22 ?_
  refine j_iconst (n := 1) 1 (by decide) dX12_readItem_25 ?_
  refine j_iadd dX12_readItem_26 ?_
  refine j_putI (idx := 177) (ci := 12) (k := 9) (nest := false) (show (12, 177, 12, 9, false) ∈ jFT by decide) rfl rfl rfl rfl (Nat.le_of_ble_eq_true rfl) rfl dX12_readItem_27 ?_
  refine j_aload_n (i := 0) rfl dX12_readItem_30 ?_
  refine j_callV (idx := 180) (As := []) (ci := 12) (n := 0) k1 jint_nt (jlkT (jtb7 33 rfl) rfl) sX12_readCond kX12_readCond rfl ⟨rfl, (show yX12_readCond.cls ≠ "java/lang/invoke/MethodHandle" by decide +kernel), (show yX12_readCond.cls ≠ "java/lang/invoke/VarHandle" by decide +kernel), (show (parseMethodDescriptor yX12_readCond.desc).map (fun d => d.parameters.length) = some 0 by decide +kernel)⟩ rfl ⟨hz, Nat.le_of_ble_eq_true rfl⟩ (Nat.le_of_ble_eq_true rfl) rfl (Nat.le_of_ble_eq_true rfl) (Nat.le_of_ble_eq_true rfl) ⟨Nat.zero_le _, Nat.zero_le _⟩ dX12_readItem_31 (fun r Γ' h1 q => ?_)
  obtain ⟨x1, q0, rfl, p1⟩ := q; cases q0
  refine j_eqst [.int x1] (by rfl) ?_
  refine j_if_ne (off := 5) 39 dX12_readItem_34 (by decide) (fun c1 => ?_) (fun c1 => ?_)
  · exact j_le [some (.ref 159), none] (And.intro rfl True.intro) (v1 x1 h1 p1 c1)
  · exact j_le [some (.ref 159), none] (And.intro rfl True.intro) (v2 x1 h1 p1 c1)
set_option maxRecDepth 100000 in
theorem bX12_readItem_37 {sc : Nat × (Nat → Int32)} {h : jH} {Q : jQ} {z z1 : Nat} (hz : z1 < z) (zb : 13 ≤ z1)
    (v1 : Q (.inl (some (.int 0))) (jG0 sc) h) :
    WP (mX12_readItem z) Q 37 [some (.ref 159), none] [] (jG0 sc) h (0, 0) := by
  refine j_iconst (n := 0) 0 (by decide) dX12_readItem_37 ?_
  exact j_iret rfl rfl (Nat.zero_le _) (Nat.zero_le _) dX12_readItem_38 v1
set_option maxRecDepth 100000 in
theorem bX12_readItem_39 {sc : Nat × (Nat → Int32)} {h : jH} {Q : jQ} {z z1 : Nat} {P1 : Int32 → jH → Prop} (hz : z1 < z) (zb : 13 ≤ z1)
    (k1 : JM mX12_sign [.ref 159, .int 41] (jG0 sc) (jput h 159 9 ((h 159 9) - 1)) (jint sc P1))
    (o1 : ∀ (x1 : Int32) (h1 : jH), P1 x1 h1 → x1 = 0 ∨ x1 = 1)
    (v1 : ∀ (x1 : Int32) (h1 : jH), P1 x1 h1 → Q (.inl (some (.int x1))) (jG0 sc) h1) :
    WP (mX12_readItem z) Q 39 [some (.ref 159), none] [] (jG0 sc) h (0, 0) := by
  refine j_aload_n (i := 0) rfl dX12_readItem_39 ?_
  refine j_dup rfl dX12_readItem_40 ?_
  refine j_getI (idx := 177) (ci := 12) (k := 9) (nest := false) (show (12, 177, 12, 9, false) ∈ jFT by decide) rfl (Nat.le_of_ble_eq_true rfl) rfl dX12_readItem_41 ?_
  refine j_iconst (n := 1) 1 (by decide) dX12_readItem_44 ?_
  refine j_isub dX12_readItem_45 ?_
  refine j_putI (idx := 177) (ci := 12) (k := 9) (nest := false) (show (12, 177, 12, 9, false) ∈ jFT by decide) rfl rfl rfl rfl (Nat.le_of_ble_eq_true rfl) rfl dX12_readItem_46 ?_
  refine j_aload_n (i := 0) rfl dX12_readItem_49 ?_
  refine j_bipush (n := 41) 41 (by decide) dX12_readItem_50 ?_
  refine j_callV (idx := 122) (As := [.int 41]) (ci := 12) (n := 1) k1 jint_nt (jlkT (jtb7 4 rfl) rfl) sX12_sign kX12_sign rfl ⟨rfl, (show yX12_sign.cls ≠ "java/lang/invoke/MethodHandle" by decide +kernel), (show yX12_sign.cls ≠ "java/lang/invoke/VarHandle" by decide +kernel), (show (parseMethodDescriptor yX12_sign.desc).map (fun d => d.parameters.length) = some 1 by decide +kernel)⟩ rfl ⟨Nat.lt_trans (Nat.lt_of_lt_of_le (show mH mX12_sign < 13 by decide) zb) hz, by decide⟩ (Nat.le_of_ble_eq_true rfl) rfl (Nat.le_of_ble_eq_true rfl) (Nat.le_of_ble_eq_true rfl) ⟨Nat.zero_le _, Nat.zero_le _⟩ dX12_readItem_52 (fun r Γ' h1 q => ?_)
  obtain ⟨x1, q0, rfl, p1⟩ := q; cases q0
  refine j_eqst [.int x1] (by rfl) ?_
  exact j_iret rfl (jbn (o1 x1 h1 p1)) (Nat.zero_le _) (Nat.zero_le _) dX12_readItem_55 (v1 x1 h1 p1)
set_option maxRecDepth 100000 in
theorem bX12_readItem_56 {sc : Nat × (Nat → Int32)} {h : jH} {Q : jQ} {z z1 : Nat} {P1 : Int32 → jH → Prop} (hz : z1 < z) (zb : 13 ≤ z1)
    (k1 : JM mX12_passes [.ref 159, .ref 1017] (jG0 sc) h (jint sc P1))
    (v1 : ∀ (x1 : Int32) (h1 : jH), P1 x1 h1 → x1 = 0 → WP (mX12_readItem z) Q 114 [some (.ref 159), none] [] (jG0 sc) h1 (0, 0))
    (v2 : ∀ (x1 : Int32) (h1 : jH), P1 x1 h1 → ¬ x1 = 0 → WP (mX12_readItem z) Q 65 [some (.ref 159), none] [] (jG0 sc) h1 (0, 0)) :
    WP (mX12_readItem z) Q 56 [some (.ref 159), none] [] (jG0 sc) h (0, 0) := by
  refine j_aload_n (i := 0) rfl dX12_readItem_56 ?_
  refine j_ldcS (idx := 184) "not" 17 (show ("MendBenchModel", 184, "not", 17) ∈ jStr by decide +kernel) dX12_readItem_57 ?_
  refine j_callV (idx := 186) (As := [.ref 1017]) (ci := 12) (n := 1) k1 jint_nt (jlkT (jtb7 46 rfl) rfl) sX12_passes kX12_passes rfl ⟨rfl, (show yX12_passes.cls ≠ "java/lang/invoke/MethodHandle" by decide +kernel), (show yX12_passes.cls ≠ "java/lang/invoke/VarHandle" by decide +kernel), (show (parseMethodDescriptor yX12_passes.desc).map (fun d => d.parameters.length) = some 1 by decide +kernel)⟩ rfl ⟨Nat.lt_trans (Nat.lt_of_lt_of_le (show mH mX12_passes < 13 by decide) zb) hz, by decide⟩ (Nat.le_of_ble_eq_true rfl) rfl (Nat.le_of_ble_eq_true rfl) (Nat.le_of_ble_eq_true rfl) ⟨Nat.zero_le _, Nat.zero_le _⟩ dX12_readItem_59 (fun r Γ' h1 q => ?_)
  obtain ⟨x1, q0, rfl, p1⟩ := q; cases q0
  refine j_eqst [.int x1] (by rfl) ?_
  refine j_if_eq (off := 52) 114 dX12_readItem_62 (by decide) (fun c1 => ?_) (fun c1 => ?_)
  · exact j_le [some (.ref 159), none] (And.intro rfl True.intro) (v1 x1 h1 p1 c1)
  · exact j_le [some (.ref 159), none] (And.intro rfl True.intro) (v2 x1 h1 p1 c1)
set_option maxRecDepth 100000 in
theorem bX12_readItem_65 {sc : Nat × (Nat → Int32)} {h : jH} {Q : jQ} {z z1 : Nat} (hz : z1 < z) (zb : 13 ≤ z1)
    (v1 : ¬ (h 159 9) = 6 → WP (mX12_readItem z) Q 76 [some (.ref 159), none] [] (jG0 sc) h (0, 0))
    (v2 : (h 159 9) = 6 → WP (mX12_readItem z) Q 74 [some (.ref 159), none] [] (jG0 sc) h (0, 0)) :
    WP (mX12_readItem z) Q 65 [some (.ref 159), none] [] (jG0 sc) h (0, 0) := by
  refine j_aload_n (i := 0) rfl dX12_readItem_65 ?_
  refine j_getI (idx := 177) (ci := 12) (k := 9) (nest := false) (show (12, 177, 12, 9, false) ∈ jFT by decide) rfl (Nat.le_of_ble_eq_true rfl) rfl dX12_readItem_66 ?_
  refine j_bipush (n := 6) 6 (by decide) dX12_readItem_69 ?_
  refine j_icmp_ne (off := 5) 76 dX12_readItem_71 (by decide) (fun c1 => ?_) (fun c1 => ?_)
  · exact j_le [some (.ref 159), none] (And.intro rfl True.intro) (v1 c1)
  · exact j_le [some (.ref 159), none] (And.intro rfl True.intro) (v2 c1)
set_option maxRecDepth 100000 in
theorem bX12_readItem_74 {sc : Nat × (Nat → Int32)} {h : jH} {Q : jQ} {z z1 : Nat} (hz : z1 < z) (zb : 13 ≤ z1)
    (v1 : Q (.inl (some (.int 0))) (jG0 sc) h) :
    WP (mX12_readItem z) Q 74 [some (.ref 159), none] [] (jG0 sc) h (0, 0) := by
  refine j_iconst (n := 0) 0 (by decide) dX12_readItem_74 ?_
  exact j_iret rfl rfl (Nat.zero_le _) (Nat.zero_le _) dX12_readItem_75 v1
set_option maxRecDepth 100000 in
theorem bX12_readItem_76 {sc : Nat × (Nat → Int32)} {h : jH} {Q : jQ} {z z1 : Nat} {P1 : Int32 → jH → Prop} (hz : z1 < z) (zb : 13 ≤ z1)
    (k1 : JM (mX12_readItem z1) [.ref 159] (jG0 sc) (jput h 159 9 ((h 159 9) + 1)) (jint sc P1))
    (v1 : ∀ (x1 : Int32) (h1 : jH), P1 x1 h1 → ¬ x1 = 0 → WP (mX12_readItem z) Q 95 [some (.ref 159), none] [] (jG0 sc) h1 (0, 0))
    (v2 : ∀ (x1 : Int32) (h1 : jH), P1 x1 h1 → x1 = 0 → WP (mX12_readItem z) Q 93 [some (.ref 159), none] [] (jG0 sc) h1 (0, 0)) :
    WP (mX12_readItem z) Q 76 [some (.ref 159), none] [] (jG0 sc) h (0, 0) := by
  refine j_aload_n (i := 0) rfl dX12_readItem_76 ?_
  refine j_dup rfl dX12_readItem_77 ?_
  refine j_getI (idx := 177) (ci := 12) (k := 9) (nest := false) (show (12, 177, 12, 9, false) ∈ jFT by decide) rfl (Nat.le_of_ble_eq_true rfl) rfl dX12_readItem_78 ?_
  refine j_iconst (n := 1) 1 (by decide) dX12_readItem_81 ?_
  refine j_iadd dX12_readItem_82 ?_
  refine j_putI (idx := 177) (ci := 12) (k := 9) (nest := false) (show (12, 177, 12, 9, false) ∈ jFT by decide) rfl rfl rfl rfl (Nat.le_of_ble_eq_true rfl) rfl dX12_readItem_83 ?_
  refine j_aload_n (i := 0) rfl dX12_readItem_86 ?_
  refine j_callV (idx := 189) (As := []) (ci := 12) (n := 0) k1 jint_nt (jlkT (jtb7 41 rfl) rfl) sX12_readItem kX12_readItem rfl ⟨rfl, (show yX12_readItem.cls ≠ "java/lang/invoke/MethodHandle" by decide +kernel), (show yX12_readItem.cls ≠ "java/lang/invoke/VarHandle" by decide +kernel), (show (parseMethodDescriptor yX12_readItem.desc).map (fun d => d.parameters.length) = some 0 by decide +kernel)⟩ rfl ⟨hz, Nat.le_of_ble_eq_true rfl⟩ (Nat.le_of_ble_eq_true rfl) rfl (Nat.le_of_ble_eq_true rfl) (Nat.le_of_ble_eq_true rfl) ⟨Nat.zero_le _, Nat.zero_le _⟩ dX12_readItem_87 (fun r Γ' h1 q => ?_)
  obtain ⟨x1, q0, rfl, p1⟩ := q; cases q0
  refine j_eqst [.int x1] (by rfl) ?_
  refine j_if_ne (off := 5) 95 dX12_readItem_90 (by decide) (fun c1 => ?_) (fun c1 => ?_)
  · exact j_le [some (.ref 159), none] (And.intro rfl True.intro) (v1 x1 h1 p1 c1)
  · exact j_le [some (.ref 159), none] (And.intro rfl True.intro) (v2 x1 h1 p1 c1)
set_option maxRecDepth 100000 in
theorem bX12_readItem_93 {sc : Nat × (Nat → Int32)} {h : jH} {Q : jQ} {z z1 : Nat} (hz : z1 < z) (zb : 13 ≤ z1)
    (v1 : Q (.inl (some (.int 0))) (jG0 sc) h) :
    WP (mX12_readItem z) Q 93 [some (.ref 159), none] [] (jG0 sc) h (0, 0) := by
  refine j_iconst (n := 0) 0 (by decide) dX12_readItem_93 ?_
  exact j_iret rfl rfl (Nat.zero_le _) (Nat.zero_le _) dX12_readItem_94 v1
set_option maxRecDepth 100000 in
theorem bX12_readItem_95 {sc : Nat × (Nat → Int32)} {h : jH} {Q : jQ} {z z1 : Nat} {P1 : jH → Prop} (hz : z1 < z) (zb : 13 ≤ z1)
    (k1 : JM mX12_emits [.ref 159, .int 7, .int 0] (jG0 sc) (jput h 159 9 ((h 159 9) - 1)) (jvoid sc P1))
    (v1 : ∀ h1 : jH, P1 h1 → Q (.inl (some (.int 1))) (jG0 sc) h1) :
    WP (mX12_readItem z) Q 95 [some (.ref 159), none] [] (jG0 sc) h (0, 0) := by
  refine j_aload_n (i := 0) rfl dX12_readItem_95 ?_
  refine j_dup rfl dX12_readItem_96 ?_
  refine j_getI (idx := 177) (ci := 12) (k := 9) (nest := false) (show (12, 177, 12, 9, false) ∈ jFT by decide) rfl (Nat.le_of_ble_eq_true rfl) rfl dX12_readItem_97 ?_
  refine j_iconst (n := 1) 1 (by decide) dX12_readItem_100 ?_
  refine j_isub dX12_readItem_101 ?_
  refine j_putI (idx := 177) (ci := 12) (k := 9) (nest := false) (show (12, 177, 12, 9, false) ∈ jFT by decide) rfl rfl rfl rfl (Nat.le_of_ble_eq_true rfl) rfl dX12_readItem_102 ?_
  refine j_aload_n (i := 0) rfl dX12_readItem_105 ?_
  refine j_bipush (n := 7) 7 (by decide) dX12_readItem_106 ?_
  refine j_iconst (n := 0) 0 (by decide) dX12_readItem_108 ?_
  refine j_callV (idx := 173) (As := [.int 7, .int 0]) (ci := 12) (n := 2) k1 jvoid_nt (jlkT (jtb7 50 rfl) rfl) sX12_emits kX12_emits rfl ⟨rfl, (show yX12_emits.cls ≠ "java/lang/invoke/MethodHandle" by decide +kernel), (show yX12_emits.cls ≠ "java/lang/invoke/VarHandle" by decide +kernel), (show (parseMethodDescriptor yX12_emits.desc).map (fun d => d.parameters.length) = some 2 by decide +kernel)⟩ rfl ⟨Nat.lt_trans (Nat.lt_of_lt_of_le (show mH mX12_emits < 13 by decide) zb) hz, by decide⟩ (Nat.le_of_ble_eq_true rfl) rfl (Nat.le_of_ble_eq_true rfl) (Nat.le_of_ble_eq_true rfl) ⟨Nat.zero_le _, Nat.zero_le _⟩ dX12_readItem_109 (fun r Γ' h1 q => ?_)
  obtain ⟨q0, rfl, p1⟩ := q; cases q0
  refine j_eqst [] (by rfl) ?_
  refine j_iconst (n := 1) 1 (by decide) dX12_readItem_112 ?_
  exact j_iret rfl rfl (Nat.zero_le _) (Nat.zero_le _) dX12_readItem_113 (v1 h1 p1)
set_option maxRecDepth 100000 in
theorem bX12_readItem_114 {sc : Nat × (Nat → Int32)} {h : jH} {Q : jQ} {z z1 : Nat} {P1 : Int32 → jH → Prop} (hz : z1 < z) (zb : 13 ≤ z1)
    (k1 : JM mX12_readLawAtom [.ref 159] (jG0 sc) h (jint sc P1))
    (v1 : ∀ (x1 : Int32) (h1 : jH), P1 x1 h1 → ¬ x1 = 0 → WP (mX12_readItem z) Q 123 [some (.ref 159), none] [] (jG0 sc) h1 (0, 0))
    (v2 : ∀ (x1 : Int32) (h1 : jH), P1 x1 h1 → x1 = 0 → WP (mX12_readItem z) Q 121 [some (.ref 159), none] [] (jG0 sc) h1 (0, 0)) :
    WP (mX12_readItem z) Q 114 [some (.ref 159), none] [] (jG0 sc) h (0, 0) := by
  refine j_aload_n (i := 0) rfl dX12_readItem_114 ?_
  refine j_callV (idx := 192) (As := []) (ci := 12) (n := 0) k1 jint_nt (jlkT (jtb7 54 rfl) rfl) sX12_readLawAtom kX12_readLawAtom rfl ⟨rfl, (show yX12_readLawAtom.cls ≠ "java/lang/invoke/MethodHandle" by decide +kernel), (show yX12_readLawAtom.cls ≠ "java/lang/invoke/VarHandle" by decide +kernel), (show (parseMethodDescriptor yX12_readLawAtom.desc).map (fun d => d.parameters.length) = some 0 by decide +kernel)⟩ rfl ⟨Nat.lt_trans (Nat.lt_of_lt_of_le (show mH mX12_readLawAtom < 13 by decide) zb) hz, by decide⟩ (Nat.le_of_ble_eq_true rfl) rfl (Nat.le_of_ble_eq_true rfl) (Nat.le_of_ble_eq_true rfl) ⟨Nat.zero_le _, Nat.zero_le _⟩ dX12_readItem_115 (fun r Γ' h1 q => ?_)
  obtain ⟨x1, q0, rfl, p1⟩ := q; cases q0
  refine j_eqst [.int x1] (by rfl) ?_
  refine j_if_ne (off := 5) 123 dX12_readItem_118 (by decide) (fun c1 => ?_) (fun c1 => ?_)
  · exact j_le [some (.ref 159), none] (And.intro rfl True.intro) (v1 x1 h1 p1 c1)
  · exact j_le [some (.ref 159), none] (And.intro rfl True.intro) (v2 x1 h1 p1 c1)
set_option maxRecDepth 100000 in
theorem bX12_readItem_121 {sc : Nat × (Nat → Int32)} {h : jH} {Q : jQ} {z z1 : Nat} (hz : z1 < z) (zb : 13 ≤ z1)
    (v1 : Q (.inl (some (.int 0))) (jG0 sc) h) :
    WP (mX12_readItem z) Q 121 [some (.ref 159), none] [] (jG0 sc) h (0, 0) := by
  refine j_iconst (n := 0) 0 (by decide) dX12_readItem_121 ?_
  exact j_iret rfl rfl (Nat.zero_le _) (Nat.zero_le _) dX12_readItem_122 v1
set_option maxRecDepth 100000 in
theorem bX12_readItem_123 {sc : Nat × (Nat → Int32)} {h : jH} {Q : jQ} {z z1 : Nat} {P1 : Int32 → jH → Prop} (hz : z1 < z) (zb : 13 ≤ z1)
    (k1 : JM mX12_sign [.ref 159, .int 60] (jG0 sc) h (jint sc P1))
    (v1 : ∀ (x1 : Int32) (h1 : jH), P1 x1 h1 → x1 = 0 → WP (mX12_readItem z) Q 136 [some (.ref 159), none] [] (jG0 sc) h1 (0, 0))
    (v2 : ∀ (x1 : Int32) (h1 : jH), P1 x1 h1 → ¬ x1 = 0 → WP (mX12_readItem z) Q 132 [some (.ref 159), none] [] (jG0 sc) h1 (0, 0)) :
    WP (mX12_readItem z) Q 123 [some (.ref 159), none] [] (jG0 sc) h (0, 0) := by
  refine j_aload_n (i := 0) rfl dX12_readItem_123 ?_
  refine j_bipush (n := 60) 60 (by decide) dX12_readItem_124 ?_
  refine j_callV (idx := 122) (As := [.int 60]) (ci := 12) (n := 1) k1 jint_nt (jlkT (jtb7 4 rfl) rfl) sX12_sign kX12_sign rfl ⟨rfl, (show yX12_sign.cls ≠ "java/lang/invoke/MethodHandle" by decide +kernel), (show yX12_sign.cls ≠ "java/lang/invoke/VarHandle" by decide +kernel), (show (parseMethodDescriptor yX12_sign.desc).map (fun d => d.parameters.length) = some 1 by decide +kernel)⟩ rfl ⟨Nat.lt_trans (Nat.lt_of_lt_of_le (show mH mX12_sign < 13 by decide) zb) hz, by decide⟩ (Nat.le_of_ble_eq_true rfl) rfl (Nat.le_of_ble_eq_true rfl) (Nat.le_of_ble_eq_true rfl) ⟨Nat.zero_le _, Nat.zero_le _⟩ dX12_readItem_126 (fun r Γ' h1 q => ?_)
  obtain ⟨x1, q0, rfl, p1⟩ := q; cases q0
  refine j_eqst [.int x1] (by rfl) ?_
  refine j_if_eq (off := 7) 136 dX12_readItem_129 (by decide) (fun c1 => ?_) (fun c1 => ?_)
  · exact j_le [some (.ref 159), none] (And.intro rfl True.intro) (v1 x1 h1 p1 c1)
  · exact j_le [some (.ref 159), none] (And.intro rfl True.intro) (v2 x1 h1 p1 c1)
set_option maxRecDepth 100000 in
theorem bX12_readItem_132 {sc : Nat × (Nat → Int32)} {h : jH} {Q : jQ} {z z1 : Nat} (hz : z1 < z) (zb : 13 ≤ z1)
    (v1 : WP (mX12_readItem z) Q 164 [some (.ref 159), none] [.int 4] (jG0 sc) h (0, 0)) :
    WP (mX12_readItem z) Q 132 [some (.ref 159), none] [] (jG0 sc) h (0, 0) := by
  refine j_iconst (n := 4) 4 (by decide) dX12_readItem_132 ?_
  refine j_goto (off := 31) 164 dX12_readItem_133 (by decide) ?_
  exact j_le [some (.ref 159), none] (And.intro rfl True.intro) v1
set_option maxRecDepth 100000 in
theorem bX12_readItem_136 {sc : Nat × (Nat → Int32)} {h : jH} {Q : jQ} {z z1 : Nat} {P1 : Int32 → jH → Prop} (hz : z1 < z) (zb : 13 ≤ z1)
    (k1 : JM mX12_sign [.ref 159, .int 62] (jG0 sc) h (jint sc P1))
    (v1 : ∀ (x1 : Int32) (h1 : jH), P1 x1 h1 → x1 = 0 → WP (mX12_readItem z) Q 149 [some (.ref 159), none] [] (jG0 sc) h1 (0, 0))
    (v2 : ∀ (x1 : Int32) (h1 : jH), P1 x1 h1 → ¬ x1 = 0 → WP (mX12_readItem z) Q 145 [some (.ref 159), none] [] (jG0 sc) h1 (0, 0)) :
    WP (mX12_readItem z) Q 136 [some (.ref 159), none] [] (jG0 sc) h (0, 0) := by
  refine j_aload_n (i := 0) rfl dX12_readItem_136 ?_
  refine j_bipush (n := 62) 62 (by decide) dX12_readItem_137 ?_
  refine j_callV (idx := 122) (As := [.int 62]) (ci := 12) (n := 1) k1 jint_nt (jlkT (jtb7 4 rfl) rfl) sX12_sign kX12_sign rfl ⟨rfl, (show yX12_sign.cls ≠ "java/lang/invoke/MethodHandle" by decide +kernel), (show yX12_sign.cls ≠ "java/lang/invoke/VarHandle" by decide +kernel), (show (parseMethodDescriptor yX12_sign.desc).map (fun d => d.parameters.length) = some 1 by decide +kernel)⟩ rfl ⟨Nat.lt_trans (Nat.lt_of_lt_of_le (show mH mX12_sign < 13 by decide) zb) hz, by decide⟩ (Nat.le_of_ble_eq_true rfl) rfl (Nat.le_of_ble_eq_true rfl) (Nat.le_of_ble_eq_true rfl) ⟨Nat.zero_le _, Nat.zero_le _⟩ dX12_readItem_139 (fun r Γ' h1 q => ?_)
  obtain ⟨x1, q0, rfl, p1⟩ := q; cases q0
  refine j_eqst [.int x1] (by rfl) ?_
  refine j_if_eq (off := 7) 149 dX12_readItem_142 (by decide) (fun c1 => ?_) (fun c1 => ?_)
  · exact j_le [some (.ref 159), none] (And.intro rfl True.intro) (v1 x1 h1 p1 c1)
  · exact j_le [some (.ref 159), none] (And.intro rfl True.intro) (v2 x1 h1 p1 c1)
set_option maxRecDepth 100000 in
theorem bX12_readItem_145 {sc : Nat × (Nat → Int32)} {h : jH} {Q : jQ} {z z1 : Nat} (hz : z1 < z) (zb : 13 ≤ z1)
    (v1 : WP (mX12_readItem z) Q 164 [some (.ref 159), none] [.int 5] (jG0 sc) h (0, 0)) :
    WP (mX12_readItem z) Q 145 [some (.ref 159), none] [] (jG0 sc) h (0, 0) := by
  refine j_iconst (n := 5) 5 (by decide) dX12_readItem_145 ?_
  refine j_goto (off := 18) 164 dX12_readItem_146 (by decide) ?_
  exact j_le [some (.ref 159), none] (And.intro rfl True.intro) v1
set_option maxRecDepth 100000 in
theorem bX12_readItem_149 {sc : Nat × (Nat → Int32)} {h : jH} {Q : jQ} {z z1 : Nat} {P1 : Int32 → jH → Prop} (hz : z1 < z) (zb : 13 ≤ z1)
    (k1 : JM mX12_sign [.ref 159, .int 61] (jG0 sc) h (jint sc P1))
    (v1 : ∀ (x1 : Int32) (h1 : jH), P1 x1 h1 → x1 = 0 → WP (mX12_readItem z) Q 163 [some (.ref 159), none] [] (jG0 sc) h1 (0, 0))
    (v2 : ∀ (x1 : Int32) (h1 : jH), P1 x1 h1 → ¬ x1 = 0 → WP (mX12_readItem z) Q 158 [some (.ref 159), none] [] (jG0 sc) h1 (0, 0)) :
    WP (mX12_readItem z) Q 149 [some (.ref 159), none] [] (jG0 sc) h (0, 0) := by
  refine j_aload_n (i := 0) rfl dX12_readItem_149 ?_
  refine j_bipush (n := 61) 61 (by decide) dX12_readItem_150 ?_
  refine j_callV (idx := 122) (As := [.int 61]) (ci := 12) (n := 1) k1 jint_nt (jlkT (jtb7 4 rfl) rfl) sX12_sign kX12_sign rfl ⟨rfl, (show yX12_sign.cls ≠ "java/lang/invoke/MethodHandle" by decide +kernel), (show yX12_sign.cls ≠ "java/lang/invoke/VarHandle" by decide +kernel), (show (parseMethodDescriptor yX12_sign.desc).map (fun d => d.parameters.length) = some 1 by decide +kernel)⟩ rfl ⟨Nat.lt_trans (Nat.lt_of_lt_of_le (show mH mX12_sign < 13 by decide) zb) hz, by decide⟩ (Nat.le_of_ble_eq_true rfl) rfl (Nat.le_of_ble_eq_true rfl) (Nat.le_of_ble_eq_true rfl) ⟨Nat.zero_le _, Nat.zero_le _⟩ dX12_readItem_152 (fun r Γ' h1 q => ?_)
  obtain ⟨x1, q0, rfl, p1⟩ := q; cases q0
  refine j_eqst [.int x1] (by rfl) ?_
  refine j_if_eq (off := 8) 163 dX12_readItem_155 (by decide) (fun c1 => ?_) (fun c1 => ?_)
  · exact j_le [some (.ref 159), none] (And.intro rfl True.intro) (v1 x1 h1 p1 c1)
  · exact j_le [some (.ref 159), none] (And.intro rfl True.intro) (v2 x1 h1 p1 c1)
set_option maxRecDepth 100000 in
theorem bX12_readItem_158 {sc : Nat × (Nat → Int32)} {h : jH} {Q : jQ} {z z1 : Nat} (hz : z1 < z) (zb : 13 ≤ z1)
    (v1 : WP (mX12_readItem z) Q 164 [some (.ref 159), none] [.int 6] (jG0 sc) h (0, 0)) :
    WP (mX12_readItem z) Q 158 [some (.ref 159), none] [] (jG0 sc) h (0, 0) := by
  refine j_bipush (n := 6) 6 (by decide) dX12_readItem_158 ?_
  refine j_goto (off := 4) 164 dX12_readItem_160 (by decide) ?_
  exact j_le [some (.ref 159), none] (And.intro rfl True.intro) v1
set_option maxRecDepth 100000 in
theorem bX12_readItem_163 {sc : Nat × (Nat → Int32)} {h : jH} {Q : jQ} {z z1 : Nat} (hz : z1 < z) (zb : 13 ≤ z1)
    (v1 : WP (mX12_readItem z) Q 164 [some (.ref 159), none] [.int (-1)] (jG0 sc) h (0, 0)) :
    WP (mX12_readItem z) Q 163 [some (.ref 159), none] [] (jG0 sc) h (0, 0) := by
  refine j_iconst (n := (-1)) (-1) (by decide) dX12_readItem_163 ?_
  exact j_le [some (.ref 159), none] (And.intro rfl True.intro) v1
set_option maxRecDepth 100000 in
theorem bX12_readItem_164 {sc : Nat × (Nat → Int32)} {h : jH} {Q : jQ} {z z1 : Nat} {s0 : Int32} (hz : z1 < z) (zb : 13 ≤ z1)
    (v1 : s0 < 0 → WP (mX12_readItem z) Q 176 [some (.ref 159), some (.int s0)] [] (jG0 sc) h (0, 0))
    (v2 : ¬ s0 < 0 → WP (mX12_readItem z) Q 169 [some (.ref 159), some (.int s0)] [] (jG0 sc) h (0, 0)) :
    WP (mX12_readItem z) Q 164 [some (.ref 159), none] [.int s0] (jG0 sc) h (0, 0) := by
  refine j_istore_n (i := 1) dX12_readItem_164 (Nat.le_of_ble_eq_true rfl) ?_
  refine j_iload_n (i := 1) rfl dX12_readItem_165 ?_
  refine j_if_lt (off := 10) 176 dX12_readItem_166 (by decide) (fun c1 => ?_) (fun c1 => ?_)
  · exact j_le [some (.ref 159), some (.int s0)] (And.intro rfl (And.intro rfl True.intro)) (v1 c1)
  · exact j_le [some (.ref 159), some (.int s0)] (And.intro rfl (And.intro rfl True.intro)) (v2 c1)
set_option maxRecDepth 100000 in
theorem bX12_readItem_169 {sc : Nat × (Nat → Int32)} {h : jH} {Q : jQ} {z z1 : Nat} {l1 : Int32} {P1 : Int32 → jH → Prop} (hz : z1 < z) (zb : 13 ≤ z1)
    (k1 : JM mX12_readLawAtom [.ref 159] (jG0 sc) h (jint sc P1))
    (v1 : ∀ (x1 : Int32) (h1 : jH), P1 x1 h1 → ¬ x1 = 0 → WP (mX12_readItem z) Q 178 [some (.ref 159), some (.int l1)] [] (jG0 sc) h1 (0, 0))
    (v2 : ∀ (x1 : Int32) (h1 : jH), P1 x1 h1 → x1 = 0 → WP (mX12_readItem z) Q 176 [some (.ref 159), some (.int l1)] [] (jG0 sc) h1 (0, 0)) :
    WP (mX12_readItem z) Q 169 [some (.ref 159), some (.int l1)] [] (jG0 sc) h (0, 0) := by
  refine j_aload_n (i := 0) rfl dX12_readItem_169 ?_
  refine j_callV (idx := 192) (As := []) (ci := 12) (n := 0) k1 jint_nt (jlkT (jtb7 54 rfl) rfl) sX12_readLawAtom kX12_readLawAtom rfl ⟨rfl, (show yX12_readLawAtom.cls ≠ "java/lang/invoke/MethodHandle" by decide +kernel), (show yX12_readLawAtom.cls ≠ "java/lang/invoke/VarHandle" by decide +kernel), (show (parseMethodDescriptor yX12_readLawAtom.desc).map (fun d => d.parameters.length) = some 0 by decide +kernel)⟩ rfl ⟨Nat.lt_trans (Nat.lt_of_lt_of_le (show mH mX12_readLawAtom < 13 by decide) zb) hz, by decide⟩ (Nat.le_of_ble_eq_true rfl) rfl (Nat.le_of_ble_eq_true rfl) (Nat.le_of_ble_eq_true rfl) ⟨Nat.zero_le _, Nat.zero_le _⟩ dX12_readItem_170 (fun r Γ' h1 q => ?_)
  obtain ⟨x1, q0, rfl, p1⟩ := q; cases q0
  refine j_eqst [.int x1] (by rfl) ?_
  refine j_if_ne (off := 5) 178 dX12_readItem_173 (by decide) (fun c1 => ?_) (fun c1 => ?_)
  · exact j_le [some (.ref 159), some (.int l1)] (And.intro rfl (And.intro rfl True.intro)) (v1 x1 h1 p1 c1)
  · exact j_le [some (.ref 159), some (.int l1)] (And.intro rfl (And.intro rfl True.intro)) (v2 x1 h1 p1 c1)
set_option maxRecDepth 100000 in
theorem bX12_readItem_176 {sc : Nat × (Nat → Int32)} {h : jH} {Q : jQ} {z z1 : Nat} {l1 : Int32} (hz : z1 < z) (zb : 13 ≤ z1)
    (v1 : Q (.inl (some (.int 0))) (jG0 sc) h) :
    WP (mX12_readItem z) Q 176 [some (.ref 159), some (.int l1)] [] (jG0 sc) h (0, 0) := by
  refine j_iconst (n := 0) 0 (by decide) dX12_readItem_176 ?_
  exact j_iret rfl rfl (Nat.zero_le _) (Nat.zero_le _) dX12_readItem_177 v1
set_option maxRecDepth 100000 in
theorem bX12_readItem_178 {sc : Nat × (Nat → Int32)} {h : jH} {Q : jQ} {z z1 : Nat} {l1 : Int32} {P1 : jH → Prop} (hz : z1 < z) (zb : 13 ≤ z1)
    (k1 : JM mX12_emits [.ref 159, .int l1, .int 0] (jG0 sc) h (jvoid sc P1))
    (v1 : ∀ h1 : jH, P1 h1 → Q (.inl (some (.int 1))) (jG0 sc) h1) :
    WP (mX12_readItem z) Q 178 [some (.ref 159), some (.int l1)] [] (jG0 sc) h (0, 0) := by
  refine j_aload_n (i := 0) rfl dX12_readItem_178 ?_
  refine j_iload_n (i := 1) rfl dX12_readItem_179 ?_
  refine j_iconst (n := 0) 0 (by decide) dX12_readItem_180 ?_
  refine j_callV (idx := 173) (As := [.int l1, .int 0]) (ci := 12) (n := 2) k1 jvoid_nt (jlkT (jtb7 50 rfl) rfl) sX12_emits kX12_emits rfl ⟨rfl, (show yX12_emits.cls ≠ "java/lang/invoke/MethodHandle" by decide +kernel), (show yX12_emits.cls ≠ "java/lang/invoke/VarHandle" by decide +kernel), (show (parseMethodDescriptor yX12_emits.desc).map (fun d => d.parameters.length) = some 2 by decide +kernel)⟩ rfl ⟨Nat.lt_trans (Nat.lt_of_lt_of_le (show mH mX12_emits < 13 by decide) zb) hz, by decide⟩ (Nat.le_of_ble_eq_true rfl) rfl (Nat.le_of_ble_eq_true rfl) (Nat.le_of_ble_eq_true rfl) ⟨Nat.zero_le _, Nat.zero_le _⟩ dX12_readItem_181 (fun r Γ' h1 q => ?_)
  obtain ⟨q0, rfl, p1⟩ := q; cases q0
  refine j_eqst [] (by rfl) ?_
  refine j_iconst (n := 1) 1 (by decide) dX12_readItem_184 ?_
  exact j_iret rfl rfl (Nat.zero_le _) (Nat.zero_le _) dX12_readItem_185 (v1 h1 p1)
set_option maxRecDepth 100000 in
theorem rX12_readItem_0 {sc : Nat × (Nat → Int32)} {h : jH} {Q : jQ} {z z1 : Nat} {P1 : Int32 → jH → Prop} {P2 : Int32 → jH → Prop} {P3 : Int32 → jH → Prop} {P4 : Int32 → jH → Prop} {P5 : Int32 → jH → Prop} {P6 : Int32 → jH → Prop} {P7 : Int32 → jH → Prop} {P8 : jH → Prop} {P9 : Int32 → jH → Prop} {P10 : jH → Prop} {P11 : Int32 → jH → Prop} {P12 : jH → Prop} {P13 : Int32 → jH → Prop} {P14 : jH → Prop} {P15 : Int32 → jH → Prop} {P16 : Int32 → jH → Prop} (hz : z1 < z) (zb : 13 ≤ z1)
    (k1 : JM mX12_sign [.ref 159, .int 40] (jG0 sc) h (jint sc P1))
    (k2 : ∀ (x1 : Int32) (h1 : jH), P1 x1 h1 → x1 = 0 → JM mX12_passes [.ref 159, .ref 1017] (jG0 sc) h1 (jint sc P2))
    (k3 : ∀ (x1 : Int32) (h1 : jH), P1 x1 h1 → x1 = 0 → ∀ (x2 : Int32) (h2 : jH), P2 x2 h2 → x2 = 0 → JM mX12_readLawAtom [.ref 159] (jG0 sc) h2 (jint sc P3))
    (k4 : ∀ (x1 : Int32) (h1 : jH), P1 x1 h1 → x1 = 0 → ∀ (x2 : Int32) (h2 : jH), P2 x2 h2 → x2 = 0 → ∀ (x3 : Int32) (h3 : jH), P3 x3 h3 → ¬ x3 = 0 → JM mX12_sign [.ref 159, .int 60] (jG0 sc) h3 (jint sc P4))
    (k5 : ∀ (x1 : Int32) (h1 : jH), P1 x1 h1 → x1 = 0 → ∀ (x2 : Int32) (h2 : jH), P2 x2 h2 → x2 = 0 → ∀ (x3 : Int32) (h3 : jH), P3 x3 h3 → ¬ x3 = 0 → ∀ (x4 : Int32) (h4 : jH), P4 x4 h4 → x4 = 0 → JM mX12_sign [.ref 159, .int 62] (jG0 sc) h4 (jint sc P5))
    (k6 : ∀ (x1 : Int32) (h1 : jH), P1 x1 h1 → x1 = 0 → ∀ (x2 : Int32) (h2 : jH), P2 x2 h2 → x2 = 0 → ∀ (x3 : Int32) (h3 : jH), P3 x3 h3 → ¬ x3 = 0 → ∀ (x4 : Int32) (h4 : jH), P4 x4 h4 → x4 = 0 → ∀ (x5 : Int32) (h5 : jH), P5 x5 h5 → x5 = 0 → JM mX12_sign [.ref 159, .int 61] (jG0 sc) h5 (jint sc P6))
    (v1 : ∀ (x1 : Int32) (h1 : jH), P1 x1 h1 → x1 = 0 → ∀ (x2 : Int32) (h2 : jH), P2 x2 h2 → x2 = 0 → ∀ (x3 : Int32) (h3 : jH), P3 x3 h3 → ¬ x3 = 0 → ∀ (x4 : Int32) (h4 : jH), P4 x4 h4 → x4 = 0 → ∀ (x5 : Int32) (h5 : jH), P5 x5 h5 → x5 = 0 → ∀ (x6 : Int32) (h6 : jH), P6 x6 h6 → x6 = 0 → Q (.inl (some (.int 0))) (jG0 sc) h6)
    (k7 : ∀ (x1 : Int32) (h1 : jH), P1 x1 h1 → x1 = 0 → ∀ (x2 : Int32) (h2 : jH), P2 x2 h2 → x2 = 0 → ∀ (x3 : Int32) (h3 : jH), P3 x3 h3 → ¬ x3 = 0 → ∀ (x4 : Int32) (h4 : jH), P4 x4 h4 → x4 = 0 → ∀ (x5 : Int32) (h5 : jH), P5 x5 h5 → x5 = 0 → ∀ (x6 : Int32) (h6 : jH), P6 x6 h6 → ¬ x6 = 0 → JM mX12_readLawAtom [.ref 159] (jG0 sc) h6 (jint sc P7))
    (k8 : ∀ (x1 : Int32) (h1 : jH), P1 x1 h1 → x1 = 0 → ∀ (x2 : Int32) (h2 : jH), P2 x2 h2 → x2 = 0 → ∀ (x3 : Int32) (h3 : jH), P3 x3 h3 → ¬ x3 = 0 → ∀ (x4 : Int32) (h4 : jH), P4 x4 h4 → x4 = 0 → ∀ (x5 : Int32) (h5 : jH), P5 x5 h5 → x5 = 0 → ∀ (x6 : Int32) (h6 : jH), P6 x6 h6 → ¬ x6 = 0 → ∀ (x7 : Int32) (h7 : jH), P7 x7 h7 → ¬ x7 = 0 → JM mX12_emits [.ref 159, .int 6, .int 0] (jG0 sc) h7 (jvoid sc P8))
    (v2 : ∀ (x1 : Int32) (h1 : jH), P1 x1 h1 → x1 = 0 → ∀ (x2 : Int32) (h2 : jH), P2 x2 h2 → x2 = 0 → ∀ (x3 : Int32) (h3 : jH), P3 x3 h3 → ¬ x3 = 0 → ∀ (x4 : Int32) (h4 : jH), P4 x4 h4 → x4 = 0 → ∀ (x5 : Int32) (h5 : jH), P5 x5 h5 → x5 = 0 → ∀ (x6 : Int32) (h6 : jH), P6 x6 h6 → ¬ x6 = 0 → ∀ (x7 : Int32) (h7 : jH), P7 x7 h7 → ¬ x7 = 0 → ∀ h8 : jH, P8 h8 → Q (.inl (some (.int 1))) (jG0 sc) h8)
    (v3 : ∀ (x1 : Int32) (h1 : jH), P1 x1 h1 → x1 = 0 → ∀ (x2 : Int32) (h2 : jH), P2 x2 h2 → x2 = 0 → ∀ (x3 : Int32) (h3 : jH), P3 x3 h3 → ¬ x3 = 0 → ∀ (x4 : Int32) (h4 : jH), P4 x4 h4 → x4 = 0 → ∀ (x5 : Int32) (h5 : jH), P5 x5 h5 → x5 = 0 → ∀ (x6 : Int32) (h6 : jH), P6 x6 h6 → ¬ x6 = 0 → ∀ (x7 : Int32) (h7 : jH), P7 x7 h7 → x7 = 0 → Q (.inl (some (.int 0))) (jG0 sc) h7)
    (k9 : ∀ (x1 : Int32) (h1 : jH), P1 x1 h1 → x1 = 0 → ∀ (x2 : Int32) (h2 : jH), P2 x2 h2 → x2 = 0 → ∀ (x3 : Int32) (h3 : jH), P3 x3 h3 → ¬ x3 = 0 → ∀ (x4 : Int32) (h4 : jH), P4 x4 h4 → x4 = 0 → ∀ (x5 : Int32) (h5 : jH), P5 x5 h5 → ¬ x5 = 0 → JM mX12_readLawAtom [.ref 159] (jG0 sc) h5 (jint sc P9))
    (k10 : ∀ (x1 : Int32) (h1 : jH), P1 x1 h1 → x1 = 0 → ∀ (x2 : Int32) (h2 : jH), P2 x2 h2 → x2 = 0 → ∀ (x3 : Int32) (h3 : jH), P3 x3 h3 → ¬ x3 = 0 → ∀ (x4 : Int32) (h4 : jH), P4 x4 h4 → x4 = 0 → ∀ (x5 : Int32) (h5 : jH), P5 x5 h5 → ¬ x5 = 0 → ∀ (x9 : Int32) (h9 : jH), P9 x9 h9 → ¬ x9 = 0 → JM mX12_emits [.ref 159, .int 5, .int 0] (jG0 sc) h9 (jvoid sc P10))
    (v4 : ∀ (x1 : Int32) (h1 : jH), P1 x1 h1 → x1 = 0 → ∀ (x2 : Int32) (h2 : jH), P2 x2 h2 → x2 = 0 → ∀ (x3 : Int32) (h3 : jH), P3 x3 h3 → ¬ x3 = 0 → ∀ (x4 : Int32) (h4 : jH), P4 x4 h4 → x4 = 0 → ∀ (x5 : Int32) (h5 : jH), P5 x5 h5 → ¬ x5 = 0 → ∀ (x9 : Int32) (h9 : jH), P9 x9 h9 → ¬ x9 = 0 → ∀ h10 : jH, P10 h10 → Q (.inl (some (.int 1))) (jG0 sc) h10)
    (v5 : ∀ (x1 : Int32) (h1 : jH), P1 x1 h1 → x1 = 0 → ∀ (x2 : Int32) (h2 : jH), P2 x2 h2 → x2 = 0 → ∀ (x3 : Int32) (h3 : jH), P3 x3 h3 → ¬ x3 = 0 → ∀ (x4 : Int32) (h4 : jH), P4 x4 h4 → x4 = 0 → ∀ (x5 : Int32) (h5 : jH), P5 x5 h5 → ¬ x5 = 0 → ∀ (x9 : Int32) (h9 : jH), P9 x9 h9 → x9 = 0 → Q (.inl (some (.int 0))) (jG0 sc) h9)
    (k11 : ∀ (x1 : Int32) (h1 : jH), P1 x1 h1 → x1 = 0 → ∀ (x2 : Int32) (h2 : jH), P2 x2 h2 → x2 = 0 → ∀ (x3 : Int32) (h3 : jH), P3 x3 h3 → ¬ x3 = 0 → ∀ (x4 : Int32) (h4 : jH), P4 x4 h4 → ¬ x4 = 0 → JM mX12_readLawAtom [.ref 159] (jG0 sc) h4 (jint sc P11))
    (k12 : ∀ (x1 : Int32) (h1 : jH), P1 x1 h1 → x1 = 0 → ∀ (x2 : Int32) (h2 : jH), P2 x2 h2 → x2 = 0 → ∀ (x3 : Int32) (h3 : jH), P3 x3 h3 → ¬ x3 = 0 → ∀ (x4 : Int32) (h4 : jH), P4 x4 h4 → ¬ x4 = 0 → ∀ (x11 : Int32) (h11 : jH), P11 x11 h11 → ¬ x11 = 0 → JM mX12_emits [.ref 159, .int 4, .int 0] (jG0 sc) h11 (jvoid sc P12))
    (v6 : ∀ (x1 : Int32) (h1 : jH), P1 x1 h1 → x1 = 0 → ∀ (x2 : Int32) (h2 : jH), P2 x2 h2 → x2 = 0 → ∀ (x3 : Int32) (h3 : jH), P3 x3 h3 → ¬ x3 = 0 → ∀ (x4 : Int32) (h4 : jH), P4 x4 h4 → ¬ x4 = 0 → ∀ (x11 : Int32) (h11 : jH), P11 x11 h11 → ¬ x11 = 0 → ∀ h12 : jH, P12 h12 → Q (.inl (some (.int 1))) (jG0 sc) h12)
    (v7 : ∀ (x1 : Int32) (h1 : jH), P1 x1 h1 → x1 = 0 → ∀ (x2 : Int32) (h2 : jH), P2 x2 h2 → x2 = 0 → ∀ (x3 : Int32) (h3 : jH), P3 x3 h3 → ¬ x3 = 0 → ∀ (x4 : Int32) (h4 : jH), P4 x4 h4 → ¬ x4 = 0 → ∀ (x11 : Int32) (h11 : jH), P11 x11 h11 → x11 = 0 → Q (.inl (some (.int 0))) (jG0 sc) h11)
    (v8 : ∀ (x1 : Int32) (h1 : jH), P1 x1 h1 → x1 = 0 → ∀ (x2 : Int32) (h2 : jH), P2 x2 h2 → x2 = 0 → ∀ (x3 : Int32) (h3 : jH), P3 x3 h3 → x3 = 0 → Q (.inl (some (.int 0))) (jG0 sc) h3)
    (k13 : ∀ (x1 : Int32) (h1 : jH), P1 x1 h1 → x1 = 0 → ∀ (x2 : Int32) (h2 : jH), P2 x2 h2 → ¬ x2 = 0 → ¬ (h2 159 9) = 6 → JM (mX12_readItem z1) [.ref 159] (jG0 sc) (jput h2 159 9 ((h2 159 9) + 1)) (jint sc P13))
    (k14 : ∀ (x1 : Int32) (h1 : jH), P1 x1 h1 → x1 = 0 → ∀ (x2 : Int32) (h2 : jH), P2 x2 h2 → ¬ x2 = 0 → ¬ (h2 159 9) = 6 → ∀ (x13 : Int32) (h13 : jH), P13 x13 h13 → ¬ x13 = 0 → JM mX12_emits [.ref 159, .int 7, .int 0] (jG0 sc) (jput h13 159 9 ((h13 159 9) - 1)) (jvoid sc P14))
    (v9 : ∀ (x1 : Int32) (h1 : jH), P1 x1 h1 → x1 = 0 → ∀ (x2 : Int32) (h2 : jH), P2 x2 h2 → ¬ x2 = 0 → ¬ (h2 159 9) = 6 → ∀ (x13 : Int32) (h13 : jH), P13 x13 h13 → ¬ x13 = 0 → ∀ h14 : jH, P14 h14 → Q (.inl (some (.int 1))) (jG0 sc) h14)
    (v10 : ∀ (x1 : Int32) (h1 : jH), P1 x1 h1 → x1 = 0 → ∀ (x2 : Int32) (h2 : jH), P2 x2 h2 → ¬ x2 = 0 → ¬ (h2 159 9) = 6 → ∀ (x13 : Int32) (h13 : jH), P13 x13 h13 → x13 = 0 → Q (.inl (some (.int 0))) (jG0 sc) h13)
    (v11 : ∀ (x1 : Int32) (h1 : jH), P1 x1 h1 → x1 = 0 → ∀ (x2 : Int32) (h2 : jH), P2 x2 h2 → ¬ x2 = 0 → (h2 159 9) = 6 → Q (.inl (some (.int 0))) (jG0 sc) h2)
    (k15 : ∀ (x1 : Int32) (h1 : jH), P1 x1 h1 → ¬ x1 = 0 → ¬ (h1 159 9) = 6 → JM (mX12_readCond z1) [.ref 159] (jG0 sc) (jput h1 159 9 ((h1 159 9) + 1)) (jint sc P15))
    (k16 : ∀ (x1 : Int32) (h1 : jH), P1 x1 h1 → ¬ x1 = 0 → ¬ (h1 159 9) = 6 → ∀ (x15 : Int32) (h15 : jH), P15 x15 h15 → ¬ x15 = 0 → JM mX12_sign [.ref 159, .int 41] (jG0 sc) (jput h15 159 9 ((h15 159 9) - 1)) (jint sc P16))
    (o1 : ∀ (x1 : Int32) (h1 : jH), P1 x1 h1 → ¬ x1 = 0 → ¬ (h1 159 9) = 6 → ∀ (x15 : Int32) (h15 : jH), P15 x15 h15 → ¬ x15 = 0 → ∀ (x16 : Int32) (h16 : jH), P16 x16 h16 → x16 = 0 ∨ x16 = 1)
    (v12 : ∀ (x1 : Int32) (h1 : jH), P1 x1 h1 → ¬ x1 = 0 → ¬ (h1 159 9) = 6 → ∀ (x15 : Int32) (h15 : jH), P15 x15 h15 → ¬ x15 = 0 → ∀ (x16 : Int32) (h16 : jH), P16 x16 h16 → Q (.inl (some (.int x16))) (jG0 sc) h16)
    (v13 : ∀ (x1 : Int32) (h1 : jH), P1 x1 h1 → ¬ x1 = 0 → ¬ (h1 159 9) = 6 → ∀ (x15 : Int32) (h15 : jH), P15 x15 h15 → x15 = 0 → Q (.inl (some (.int 0))) (jG0 sc) h15)
    (v14 : ∀ (x1 : Int32) (h1 : jH), P1 x1 h1 → ¬ x1 = 0 → (h1 159 9) = 6 → Q (.inl (some (.int 0))) (jG0 sc) h1) :
    WP (mX12_readItem z) Q 0 [some (.ref 159), none] [] (jG0 sc) h (0, 0) := by
  exact (bX12_readItem_0 hz zb k1 (fun x1 h1 p1 c1 => (bX12_readItem_56 hz zb (k2 x1 h1 p1 c1) (fun x2 h2 p2 c2 => (bX12_readItem_114 hz zb (k3 x1 h1 p1 c1 x2 h2 p2 c2) (fun x3 h3 p3 c3 => (bX12_readItem_123 hz zb (k4 x1 h1 p1 c1 x2 h2 p2 c2 x3 h3 p3 c3) (fun x4 h4 p4 c4 => (bX12_readItem_136 hz zb (k5 x1 h1 p1 c1 x2 h2 p2 c2 x3 h3 p3 c3 x4 h4 p4 c4) (fun x5 h5 p5 c5 => (bX12_readItem_149 hz zb (k6 x1 h1 p1 c1 x2 h2 p2 c2 x3 h3 p3 c3 x4 h4 p4 c4 x5 h5 p5 c5) (fun x6 h6 p6 c6 => (bX12_readItem_163 hz zb (bX12_readItem_164 hz zb (fun _ => (bX12_readItem_176 hz zb (v1 x1 h1 p1 c1 x2 h2 p2 c2 x3 h3 p3 c3 x4 h4 p4 c4 x5 h5 p5 c5 x6 h6 p6 c6))) (fun q => absurd q (by decide))))) (fun x6 h6 p6 c6 => (bX12_readItem_158 hz zb (bX12_readItem_164 hz zb (fun q => absurd q (by decide)) (fun _ => (bX12_readItem_169 hz zb (k7 x1 h1 p1 c1 x2 h2 p2 c2 x3 h3 p3 c3 x4 h4 p4 c4 x5 h5 p5 c5 x6 h6 p6 c6) (fun x7 h7 p7 c7 => (bX12_readItem_178 hz zb (k8 x1 h1 p1 c1 x2 h2 p2 c2 x3 h3 p3 c3 x4 h4 p4 c4 x5 h5 p5 c5 x6 h6 p6 c6 x7 h7 p7 c7) (fun h8 p8 => (v2 x1 h1 p1 c1 x2 h2 p2 c2 x3 h3 p3 c3 x4 h4 p4 c4 x5 h5 p5 c5 x6 h6 p6 c6 x7 h7 p7 c7 h8 p8)))) (fun x7 h7 p7 c7 => (bX12_readItem_176 hz zb (v3 x1 h1 p1 c1 x2 h2 p2 c2 x3 h3 p3 c3 x4 h4 p4 c4 x5 h5 p5 c5 x6 h6 p6 c6 x7 h7 p7 c7)))))))))) (fun x5 h5 p5 c5 => (bX12_readItem_145 hz zb (bX12_readItem_164 hz zb (fun q => absurd q (by decide)) (fun _ => (bX12_readItem_169 hz zb (k9 x1 h1 p1 c1 x2 h2 p2 c2 x3 h3 p3 c3 x4 h4 p4 c4 x5 h5 p5 c5) (fun x9 h9 p9 c8 => (bX12_readItem_178 hz zb (k10 x1 h1 p1 c1 x2 h2 p2 c2 x3 h3 p3 c3 x4 h4 p4 c4 x5 h5 p5 c5 x9 h9 p9 c8) (fun h10 p10 => (v4 x1 h1 p1 c1 x2 h2 p2 c2 x3 h3 p3 c3 x4 h4 p4 c4 x5 h5 p5 c5 x9 h9 p9 c8 h10 p10)))) (fun x9 h9 p9 c8 => (bX12_readItem_176 hz zb (v5 x1 h1 p1 c1 x2 h2 p2 c2 x3 h3 p3 c3 x4 h4 p4 c4 x5 h5 p5 c5 x9 h9 p9 c8)))))))))) (fun x4 h4 p4 c4 => (bX12_readItem_132 hz zb (bX12_readItem_164 hz zb (fun q => absurd q (by decide)) (fun _ => (bX12_readItem_169 hz zb (k11 x1 h1 p1 c1 x2 h2 p2 c2 x3 h3 p3 c3 x4 h4 p4 c4) (fun x11 h11 p11 c9 => (bX12_readItem_178 hz zb (k12 x1 h1 p1 c1 x2 h2 p2 c2 x3 h3 p3 c3 x4 h4 p4 c4 x11 h11 p11 c9) (fun h12 p12 => (v6 x1 h1 p1 c1 x2 h2 p2 c2 x3 h3 p3 c3 x4 h4 p4 c4 x11 h11 p11 c9 h12 p12)))) (fun x11 h11 p11 c9 => (bX12_readItem_176 hz zb (v7 x1 h1 p1 c1 x2 h2 p2 c2 x3 h3 p3 c3 x4 h4 p4 c4 x11 h11 p11 c9)))))))))) (fun x3 h3 p3 c3 => (bX12_readItem_121 hz zb (v8 x1 h1 p1 c1 x2 h2 p2 c2 x3 h3 p3 c3))))) (fun x2 h2 p2 c2 => (bX12_readItem_65 hz zb (fun c10 => (bX12_readItem_76 hz zb (k13 x1 h1 p1 c1 x2 h2 p2 c2 c10) (fun x13 h13 p13 c11 => (bX12_readItem_95 hz zb (k14 x1 h1 p1 c1 x2 h2 p2 c2 c10 x13 h13 p13 c11) (fun h14 p14 => (v9 x1 h1 p1 c1 x2 h2 p2 c2 c10 x13 h13 p13 c11 h14 p14)))) (fun x13 h13 p13 c11 => (bX12_readItem_93 hz zb (v10 x1 h1 p1 c1 x2 h2 p2 c2 c10 x13 h13 p13 c11))))) (fun c10 => (bX12_readItem_74 hz zb (v11 x1 h1 p1 c1 x2 h2 p2 c2 c10))))))) (fun x1 h1 p1 c1 => (bX12_readItem_9 hz zb (fun c12 => (bX12_readItem_20 hz zb (k15 x1 h1 p1 c1 c12) (fun x15 h15 p15 c13 => (bX12_readItem_39 hz zb (k16 x1 h1 p1 c1 c12 x15 h15 p15 c13) (fun x16 h16 p16 => (o1 x1 h1 p1 c1 c12 x15 h15 p15 c13 x16 h16 p16)) (fun x16 h16 p16 => (v12 x1 h1 p1 c1 c12 x15 h15 p15 c13 x16 h16 p16)))) (fun x15 h15 p15 c13 => (bX12_readItem_37 hz zb (v13 x1 h1 p1 c1 c12 x15 h15 p15 c13))))) (fun c12 => (bX12_readItem_18 hz zb (v14 x1 h1 p1 c1 c12))))))
theorem dX12_readAllOf_0 : decode cX12_readAllOf 0 = .ok (.aload_n 0, 1) := by decide +kernel
theorem dX12_readAllOf_1 : decode cX12_readAllOf 1 = .ok (.invokevirtual 189, 3) := by decide +kernel
theorem dX12_readAllOf_4 : decode cX12_readAllOf 4 = .ok (.ifCond .ne 5, 3) := by decide +kernel
theorem dX12_readAllOf_7 : decode cX12_readAllOf 7 = .ok (.iconst 0, 1) := by decide +kernel
theorem dX12_readAllOf_8 : decode cX12_readAllOf 8 = .ok (.ireturn, 1) := by decide +kernel
theorem dX12_readAllOf_9 : decode cX12_readAllOf 9 = .ok (.aload_n 0, 1) := by decide +kernel
theorem dX12_readAllOf_10 : decode cX12_readAllOf 10 = .ok (.ldc 195, 2) := by decide +kernel
theorem dX12_readAllOf_12 : decode cX12_readAllOf 12 = .ok (.invokevirtual 186, 3) := by decide +kernel
theorem dX12_readAllOf_15 : decode cX12_readAllOf 15 = .ok (.ifCond .eq 22, 3) := by decide +kernel
theorem dX12_readAllOf_18 : decode cX12_readAllOf 18 = .ok (.aload_n 0, 1) := by decide +kernel
theorem dX12_readAllOf_19 : decode cX12_readAllOf 19 = .ok (.invokevirtual 189, 3) := by decide +kernel
theorem dX12_readAllOf_22 : decode cX12_readAllOf 22 = .ok (.ifCond .ne 5, 3) := by decide +kernel
theorem dX12_readAllOf_25 : decode cX12_readAllOf 25 = .ok (.iconst 0, 1) := by decide +kernel
theorem dX12_readAllOf_26 : decode cX12_readAllOf 26 = .ok (.ireturn, 1) := by decide +kernel
theorem dX12_readAllOf_27 : decode cX12_readAllOf 27 = .ok (.aload_n 0, 1) := by decide +kernel
theorem dX12_readAllOf_28 : decode cX12_readAllOf 28 = .ok (.bipush 8, 2) := by decide +kernel
theorem dX12_readAllOf_30 : decode cX12_readAllOf 30 = .ok (.iconst 0, 1) := by decide +kernel
theorem dX12_readAllOf_31 : decode cX12_readAllOf 31 = .ok (.invokevirtual 173, 3) := by decide +kernel
theorem dX12_readAllOf_34 : decode cX12_readAllOf 34 = .ok (.goto (-25), 3) := by decide +kernel
theorem dX12_readAllOf_37 : decode cX12_readAllOf 37 = .ok (.iconst 1, 1) := by decide +kernel
theorem dX12_readAllOf_38 : decode cX12_readAllOf 38 = .ok (.ireturn, 1) := by decide +kernel
set_option maxRecDepth 100000 in
theorem bX12_readAllOf_0 {sc : Nat × (Nat → Int32)} {h : jH} {Q : jQ} {z z1 : Nat} {P1 : Int32 → jH → Prop} (hz : z1 < z) (zb : 13 ≤ z1)
    (k1 : JM (mX12_readItem z1) [.ref 159] (jG0 sc) h (jint sc P1))
    (v1 : ∀ (x1 : Int32) (h1 : jH), P1 x1 h1 → ¬ x1 = 0 → WP (mX12_readAllOf z) Q 9 [some (.ref 159)] [] (jG0 sc) h1 (0, 0))
    (v2 : ∀ (x1 : Int32) (h1 : jH), P1 x1 h1 → x1 = 0 → WP (mX12_readAllOf z) Q 7 [some (.ref 159)] [] (jG0 sc) h1 (0, 0)) :
    WP (mX12_readAllOf z) Q 0 [some (.ref 159)] [] (jG0 sc) h (0, 0) := by
  refine j_aload_n (i := 0) rfl dX12_readAllOf_0 ?_
  refine j_callV (idx := 189) (As := []) (ci := 12) (n := 0) k1 jint_nt (jlkT (jtb7 41 rfl) rfl) sX12_readItem kX12_readItem rfl ⟨rfl, (show yX12_readItem.cls ≠ "java/lang/invoke/MethodHandle" by decide +kernel), (show yX12_readItem.cls ≠ "java/lang/invoke/VarHandle" by decide +kernel), (show (parseMethodDescriptor yX12_readItem.desc).map (fun d => d.parameters.length) = some 0 by decide +kernel)⟩ rfl ⟨hz, Nat.le_of_ble_eq_true rfl⟩ (Nat.le_of_ble_eq_true rfl) rfl (Nat.le_of_ble_eq_true rfl) (Nat.le_of_ble_eq_true rfl) ⟨Nat.zero_le _, Nat.zero_le _⟩ dX12_readAllOf_1 (fun r Γ' h1 q => ?_)
  obtain ⟨x1, q0, rfl, p1⟩ := q; cases q0
  refine j_eqst [.int x1] (by rfl) ?_
  refine j_if_ne (off := 5) 9 dX12_readAllOf_4 (by decide) (fun c1 => ?_) (fun c1 => ?_)
  · exact j_le [some (.ref 159)] (And.intro rfl True.intro) (v1 x1 h1 p1 c1)
  · exact j_le [some (.ref 159)] (And.intro rfl True.intro) (v2 x1 h1 p1 c1)
set_option maxRecDepth 100000 in
theorem bX12_readAllOf_7 {sc : Nat × (Nat → Int32)} {h : jH} {Q : jQ} {z z1 : Nat} (hz : z1 < z) (zb : 13 ≤ z1)
    (v1 : Q (.inl (some (.int 0))) (jG0 sc) h) :
    WP (mX12_readAllOf z) Q 7 [some (.ref 159)] [] (jG0 sc) h (0, 0) := by
  refine j_iconst (n := 0) 0 (by decide) dX12_readAllOf_7 ?_
  exact j_iret rfl rfl (Nat.zero_le _) (Nat.zero_le _) dX12_readAllOf_8 v1
set_option maxRecDepth 100000 in
theorem bX12_readAllOf_9 {sc : Nat × (Nat → Int32)} {h : jH} {Q : jQ} {z z1 : Nat} {P1 : Int32 → jH → Prop} (hz : z1 < z) (zb : 13 ≤ z1)
    (k1 : JM mX12_passes [.ref 159, .ref 1021] (jG0 sc) h (jint sc P1))
    (v1 : ∀ (x1 : Int32) (h1 : jH), P1 x1 h1 → x1 = 0 → WP (mX12_readAllOf z) Q 37 [some (.ref 159)] [] (jG0 sc) h1 (0, 0))
    (v2 : ∀ (x1 : Int32) (h1 : jH), P1 x1 h1 → ¬ x1 = 0 → WP (mX12_readAllOf z) Q 18 [some (.ref 159)] [] (jG0 sc) h1 (0, 0)) :
    WP (mX12_readAllOf z) Q 9 [some (.ref 159)] [] (jG0 sc) h (0, 0) := by
  refine j_aload_n (i := 0) rfl dX12_readAllOf_9 ?_
  refine j_ldcS (idx := 195) "and" 21 (show ("MendBenchModel", 195, "and", 21) ∈ jStr by decide +kernel) dX12_readAllOf_10 ?_
  refine j_callV (idx := 186) (As := [.ref 1021]) (ci := 12) (n := 1) k1 jint_nt (jlkT (jtb7 46 rfl) rfl) sX12_passes kX12_passes rfl ⟨rfl, (show yX12_passes.cls ≠ "java/lang/invoke/MethodHandle" by decide +kernel), (show yX12_passes.cls ≠ "java/lang/invoke/VarHandle" by decide +kernel), (show (parseMethodDescriptor yX12_passes.desc).map (fun d => d.parameters.length) = some 1 by decide +kernel)⟩ rfl ⟨Nat.lt_trans (Nat.lt_of_lt_of_le (show mH mX12_passes < 13 by decide) zb) hz, by decide⟩ (Nat.le_of_ble_eq_true rfl) rfl (Nat.le_of_ble_eq_true rfl) (Nat.le_of_ble_eq_true rfl) ⟨Nat.zero_le _, Nat.zero_le _⟩ dX12_readAllOf_12 (fun r Γ' h1 q => ?_)
  obtain ⟨x1, q0, rfl, p1⟩ := q; cases q0
  refine j_eqst [.int x1] (by rfl) ?_
  refine j_if_eq (off := 22) 37 dX12_readAllOf_15 (by decide) (fun c1 => ?_) (fun c1 => ?_)
  · exact j_le [some (.ref 159)] (And.intro rfl True.intro) (v1 x1 h1 p1 c1)
  · exact j_le [some (.ref 159)] (And.intro rfl True.intro) (v2 x1 h1 p1 c1)
set_option maxRecDepth 100000 in
theorem bX12_readAllOf_18 {sc : Nat × (Nat → Int32)} {h : jH} {Q : jQ} {z z1 : Nat} {P1 : Int32 → jH → Prop} (hz : z1 < z) (zb : 13 ≤ z1)
    (k1 : JM (mX12_readItem z1) [.ref 159] (jG0 sc) h (jint sc P1))
    (v1 : ∀ (x1 : Int32) (h1 : jH), P1 x1 h1 → ¬ x1 = 0 → WP (mX12_readAllOf z) Q 27 [some (.ref 159)] [] (jG0 sc) h1 (0, 0))
    (v2 : ∀ (x1 : Int32) (h1 : jH), P1 x1 h1 → x1 = 0 → WP (mX12_readAllOf z) Q 25 [some (.ref 159)] [] (jG0 sc) h1 (0, 0)) :
    WP (mX12_readAllOf z) Q 18 [some (.ref 159)] [] (jG0 sc) h (0, 0) := by
  refine j_aload_n (i := 0) rfl dX12_readAllOf_18 ?_
  refine j_callV (idx := 189) (As := []) (ci := 12) (n := 0) k1 jint_nt (jlkT (jtb7 41 rfl) rfl) sX12_readItem kX12_readItem rfl ⟨rfl, (show yX12_readItem.cls ≠ "java/lang/invoke/MethodHandle" by decide +kernel), (show yX12_readItem.cls ≠ "java/lang/invoke/VarHandle" by decide +kernel), (show (parseMethodDescriptor yX12_readItem.desc).map (fun d => d.parameters.length) = some 0 by decide +kernel)⟩ rfl ⟨hz, Nat.le_of_ble_eq_true rfl⟩ (Nat.le_of_ble_eq_true rfl) rfl (Nat.le_of_ble_eq_true rfl) (Nat.le_of_ble_eq_true rfl) ⟨Nat.zero_le _, Nat.zero_le _⟩ dX12_readAllOf_19 (fun r Γ' h1 q => ?_)
  obtain ⟨x1, q0, rfl, p1⟩ := q; cases q0
  refine j_eqst [.int x1] (by rfl) ?_
  refine j_if_ne (off := 5) 27 dX12_readAllOf_22 (by decide) (fun c1 => ?_) (fun c1 => ?_)
  · exact j_le [some (.ref 159)] (And.intro rfl True.intro) (v1 x1 h1 p1 c1)
  · exact j_le [some (.ref 159)] (And.intro rfl True.intro) (v2 x1 h1 p1 c1)
set_option maxRecDepth 100000 in
theorem bX12_readAllOf_25 {sc : Nat × (Nat → Int32)} {h : jH} {Q : jQ} {z z1 : Nat} (hz : z1 < z) (zb : 13 ≤ z1)
    (v1 : Q (.inl (some (.int 0))) (jG0 sc) h) :
    WP (mX12_readAllOf z) Q 25 [some (.ref 159)] [] (jG0 sc) h (0, 0) := by
  refine j_iconst (n := 0) 0 (by decide) dX12_readAllOf_25 ?_
  exact j_iret rfl rfl (Nat.zero_le _) (Nat.zero_le _) dX12_readAllOf_26 v1
set_option maxRecDepth 100000 in
theorem bX12_readAllOf_27 {sc : Nat × (Nat → Int32)} {h : jH} {Q : jQ} {z z1 : Nat} {P1 : jH → Prop} (hz : z1 < z) (zb : 13 ≤ z1)
    (k1 : JM mX12_emits [.ref 159, .int 8, .int 0] (jG0 sc) h (jvoid sc P1))
    (v1 : ∀ h1 : jH, P1 h1 → WP (mX12_readAllOf z) Q 9 [some (.ref 159)] [] (jG0 sc) h1 (0, 0)) :
    WP (mX12_readAllOf z) Q 27 [some (.ref 159)] [] (jG0 sc) h (0, 0) := by
  refine j_aload_n (i := 0) rfl dX12_readAllOf_27 ?_
  refine j_bipush (n := 8) 8 (by decide) dX12_readAllOf_28 ?_
  refine j_iconst (n := 0) 0 (by decide) dX12_readAllOf_30 ?_
  refine j_callV (idx := 173) (As := [.int 8, .int 0]) (ci := 12) (n := 2) k1 jvoid_nt (jlkT (jtb7 50 rfl) rfl) sX12_emits kX12_emits rfl ⟨rfl, (show yX12_emits.cls ≠ "java/lang/invoke/MethodHandle" by decide +kernel), (show yX12_emits.cls ≠ "java/lang/invoke/VarHandle" by decide +kernel), (show (parseMethodDescriptor yX12_emits.desc).map (fun d => d.parameters.length) = some 2 by decide +kernel)⟩ rfl ⟨Nat.lt_trans (Nat.lt_of_lt_of_le (show mH mX12_emits < 13 by decide) zb) hz, by decide⟩ (Nat.le_of_ble_eq_true rfl) rfl (Nat.le_of_ble_eq_true rfl) (Nat.le_of_ble_eq_true rfl) ⟨Nat.zero_le _, Nat.zero_le _⟩ dX12_readAllOf_31 (fun r Γ' h1 q => ?_)
  obtain ⟨q0, rfl, p1⟩ := q; cases q0
  refine j_eqst [] (by rfl) ?_
  refine j_goto (off := -25) 9 dX12_readAllOf_34 (by decide) ?_
  exact j_le [some (.ref 159)] (And.intro rfl True.intro) (v1 h1 p1)
set_option maxRecDepth 100000 in
theorem bX12_readAllOf_37 {sc : Nat × (Nat → Int32)} {h : jH} {Q : jQ} {z z1 : Nat} (hz : z1 < z) (zb : 13 ≤ z1)
    (v1 : Q (.inl (some (.int 1))) (jG0 sc) h) :
    WP (mX12_readAllOf z) Q 37 [some (.ref 159)] [] (jG0 sc) h (0, 0) := by
  refine j_iconst (n := 1) 1 (by decide) dX12_readAllOf_37 ?_
  exact j_iret rfl rfl (Nat.zero_le _) (Nat.zero_le _) dX12_readAllOf_38 v1
set_option maxRecDepth 100000 in
theorem rX12_readAllOf_0 {sc : Nat × (Nat → Int32)} {h : jH} {Q : jQ} {z z1 : Nat} {P1 : Int32 → jH → Prop} (hz : z1 < z) (zb : 13 ≤ z1)
    (k1 : JM (mX12_readItem z1) [.ref 159] (jG0 sc) h (jint sc P1))
    (v1 : ∀ (x1 : Int32) (h1 : jH), P1 x1 h1 → ¬ x1 = 0 → WP (mX12_readAllOf z) Q 9 [some (.ref 159)] [] (jG0 sc) h1 (0, 0))
    (v2 : ∀ (x1 : Int32) (h1 : jH), P1 x1 h1 → x1 = 0 → Q (.inl (some (.int 0))) (jG0 sc) h1) :
    WP (mX12_readAllOf z) Q 0 [some (.ref 159)] [] (jG0 sc) h (0, 0) := by
  exact (bX12_readAllOf_0 hz zb k1 (fun x1 h1 p1 c1 => (v1 x1 h1 p1 c1)) (fun x1 h1 p1 c1 => (bX12_readAllOf_7 hz zb (v2 x1 h1 p1 c1))))
set_option maxRecDepth 100000 in
theorem rX12_readAllOf_9 {sc : Nat × (Nat → Int32)} {h : jH} {Q : jQ} {z z1 : Nat} {P1 : Int32 → jH → Prop} {P2 : Int32 → jH → Prop} {P3 : jH → Prop} (hz : z1 < z) (zb : 13 ≤ z1)
    (k1 : JM mX12_passes [.ref 159, .ref 1021] (jG0 sc) h (jint sc P1))
    (v1 : ∀ (x1 : Int32) (h1 : jH), P1 x1 h1 → x1 = 0 → Q (.inl (some (.int 1))) (jG0 sc) h1)
    (k2 : ∀ (x1 : Int32) (h1 : jH), P1 x1 h1 → ¬ x1 = 0 → JM (mX12_readItem z1) [.ref 159] (jG0 sc) h1 (jint sc P2))
    (k3 : ∀ (x1 : Int32) (h1 : jH), P1 x1 h1 → ¬ x1 = 0 → ∀ (x2 : Int32) (h2 : jH), P2 x2 h2 → ¬ x2 = 0 → JM mX12_emits [.ref 159, .int 8, .int 0] (jG0 sc) h2 (jvoid sc P3))
    (v2 : ∀ (x1 : Int32) (h1 : jH), P1 x1 h1 → ¬ x1 = 0 → ∀ (x2 : Int32) (h2 : jH), P2 x2 h2 → ¬ x2 = 0 → ∀ h3 : jH, P3 h3 → WP (mX12_readAllOf z) Q 9 [some (.ref 159)] [] (jG0 sc) h3 (0, 0))
    (v3 : ∀ (x1 : Int32) (h1 : jH), P1 x1 h1 → ¬ x1 = 0 → ∀ (x2 : Int32) (h2 : jH), P2 x2 h2 → x2 = 0 → Q (.inl (some (.int 0))) (jG0 sc) h2) :
    WP (mX12_readAllOf z) Q 9 [some (.ref 159)] [] (jG0 sc) h (0, 0) := by
  exact (bX12_readAllOf_9 hz zb k1 (fun x1 h1 p1 c1 => (bX12_readAllOf_37 hz zb (v1 x1 h1 p1 c1))) (fun x1 h1 p1 c1 => (bX12_readAllOf_18 hz zb (k2 x1 h1 p1 c1) (fun x2 h2 p2 c2 => (bX12_readAllOf_27 hz zb (k3 x1 h1 p1 c1 x2 h2 p2 c2) (fun h3 p3 => (v2 x1 h1 p1 c1 x2 h2 p2 c2 h3 p3)))) (fun x2 h2 p2 c2 => (bX12_readAllOf_25 hz zb (v3 x1 h1 p1 c1 x2 h2 p2 c2))))))
theorem dX12_readCond_0 : decode cX12_readCond 0 = .ok (.aload_n 0, 1) := by decide +kernel
theorem dX12_readCond_1 : decode cX12_readCond 1 = .ok (.invokevirtual 197, 3) := by decide +kernel
theorem dX12_readCond_4 : decode cX12_readCond 4 = .ok (.ifCond .ne 5, 3) := by decide +kernel
theorem dX12_readCond_7 : decode cX12_readCond 7 = .ok (.iconst 0, 1) := by decide +kernel
theorem dX12_readCond_8 : decode cX12_readCond 8 = .ok (.ireturn, 1) := by decide +kernel
theorem dX12_readCond_9 : decode cX12_readCond 9 = .ok (.aload_n 0, 1) := by decide +kernel
theorem dX12_readCond_10 : decode cX12_readCond 10 = .ok (.ldc 200, 2) := by decide +kernel
theorem dX12_readCond_12 : decode cX12_readCond 12 = .ok (.invokevirtual 186, 3) := by decide +kernel
theorem dX12_readCond_15 : decode cX12_readCond 15 = .ok (.ifCond .eq 22, 3) := by decide +kernel
theorem dX12_readCond_18 : decode cX12_readCond 18 = .ok (.aload_n 0, 1) := by decide +kernel
theorem dX12_readCond_19 : decode cX12_readCond 19 = .ok (.invokevirtual 197, 3) := by decide +kernel
theorem dX12_readCond_22 : decode cX12_readCond 22 = .ok (.ifCond .ne 5, 3) := by decide +kernel
theorem dX12_readCond_25 : decode cX12_readCond 25 = .ok (.iconst 0, 1) := by decide +kernel
theorem dX12_readCond_26 : decode cX12_readCond 26 = .ok (.ireturn, 1) := by decide +kernel
theorem dX12_readCond_27 : decode cX12_readCond 27 = .ok (.aload_n 0, 1) := by decide +kernel
theorem dX12_readCond_28 : decode cX12_readCond 28 = .ok (.bipush 9, 2) := by decide +kernel
theorem dX12_readCond_30 : decode cX12_readCond 30 = .ok (.iconst 0, 1) := by decide +kernel
theorem dX12_readCond_31 : decode cX12_readCond 31 = .ok (.invokevirtual 173, 3) := by decide +kernel
theorem dX12_readCond_34 : decode cX12_readCond 34 = .ok (.goto (-25), 3) := by decide +kernel
theorem dX12_readCond_37 : decode cX12_readCond 37 = .ok (.iconst 1, 1) := by decide +kernel
theorem dX12_readCond_38 : decode cX12_readCond 38 = .ok (.ireturn, 1) := by decide +kernel
set_option maxRecDepth 100000 in
theorem bX12_readCond_0 {sc : Nat × (Nat → Int32)} {h : jH} {Q : jQ} {z z1 : Nat} {P1 : Int32 → jH → Prop} (hz : z1 < z) (zb : 13 ≤ z1)
    (k1 : JM (mX12_readAllOf z1) [.ref 159] (jG0 sc) h (jint sc P1))
    (v1 : ∀ (x1 : Int32) (h1 : jH), P1 x1 h1 → ¬ x1 = 0 → WP (mX12_readCond z) Q 9 [some (.ref 159)] [] (jG0 sc) h1 (0, 0))
    (v2 : ∀ (x1 : Int32) (h1 : jH), P1 x1 h1 → x1 = 0 → WP (mX12_readCond z) Q 7 [some (.ref 159)] [] (jG0 sc) h1 (0, 0)) :
    WP (mX12_readCond z) Q 0 [some (.ref 159)] [] (jG0 sc) h (0, 0) := by
  refine j_aload_n (i := 0) rfl dX12_readCond_0 ?_
  refine j_callV (idx := 197) (As := []) (ci := 12) (n := 0) k1 jint_nt (jlkT (jtb7 37 rfl) rfl) sX12_readAllOf kX12_readAllOf rfl ⟨rfl, (show yX12_readAllOf.cls ≠ "java/lang/invoke/MethodHandle" by decide +kernel), (show yX12_readAllOf.cls ≠ "java/lang/invoke/VarHandle" by decide +kernel), (show (parseMethodDescriptor yX12_readAllOf.desc).map (fun d => d.parameters.length) = some 0 by decide +kernel)⟩ rfl ⟨hz, Nat.le_of_ble_eq_true rfl⟩ (Nat.le_of_ble_eq_true rfl) rfl (Nat.le_of_ble_eq_true rfl) (Nat.le_of_ble_eq_true rfl) ⟨Nat.zero_le _, Nat.zero_le _⟩ dX12_readCond_1 (fun r Γ' h1 q => ?_)
  obtain ⟨x1, q0, rfl, p1⟩ := q; cases q0
  refine j_eqst [.int x1] (by rfl) ?_
  refine j_if_ne (off := 5) 9 dX12_readCond_4 (by decide) (fun c1 => ?_) (fun c1 => ?_)
  · exact j_le [some (.ref 159)] (And.intro rfl True.intro) (v1 x1 h1 p1 c1)
  · exact j_le [some (.ref 159)] (And.intro rfl True.intro) (v2 x1 h1 p1 c1)
set_option maxRecDepth 100000 in
theorem bX12_readCond_7 {sc : Nat × (Nat → Int32)} {h : jH} {Q : jQ} {z z1 : Nat} (hz : z1 < z) (zb : 13 ≤ z1)
    (v1 : Q (.inl (some (.int 0))) (jG0 sc) h) :
    WP (mX12_readCond z) Q 7 [some (.ref 159)] [] (jG0 sc) h (0, 0) := by
  refine j_iconst (n := 0) 0 (by decide) dX12_readCond_7 ?_
  exact j_iret rfl rfl (Nat.zero_le _) (Nat.zero_le _) dX12_readCond_8 v1
set_option maxRecDepth 100000 in
theorem bX12_readCond_9 {sc : Nat × (Nat → Int32)} {h : jH} {Q : jQ} {z z1 : Nat} {P1 : Int32 → jH → Prop} (hz : z1 < z) (zb : 13 ≤ z1)
    (k1 : JM mX12_passes [.ref 159, .ref 1022] (jG0 sc) h (jint sc P1))
    (v1 : ∀ (x1 : Int32) (h1 : jH), P1 x1 h1 → x1 = 0 → WP (mX12_readCond z) Q 37 [some (.ref 159)] [] (jG0 sc) h1 (0, 0))
    (v2 : ∀ (x1 : Int32) (h1 : jH), P1 x1 h1 → ¬ x1 = 0 → WP (mX12_readCond z) Q 18 [some (.ref 159)] [] (jG0 sc) h1 (0, 0)) :
    WP (mX12_readCond z) Q 9 [some (.ref 159)] [] (jG0 sc) h (0, 0) := by
  refine j_aload_n (i := 0) rfl dX12_readCond_9 ?_
  refine j_ldcS (idx := 200) "o\x72" 22 (show ("MendBenchModel", 200, "o\x72", 22) ∈ jStr by decide +kernel) dX12_readCond_10 ?_
  refine j_callV (idx := 186) (As := [.ref 1022]) (ci := 12) (n := 1) k1 jint_nt (jlkT (jtb7 46 rfl) rfl) sX12_passes kX12_passes rfl ⟨rfl, (show yX12_passes.cls ≠ "java/lang/invoke/MethodHandle" by decide +kernel), (show yX12_passes.cls ≠ "java/lang/invoke/VarHandle" by decide +kernel), (show (parseMethodDescriptor yX12_passes.desc).map (fun d => d.parameters.length) = some 1 by decide +kernel)⟩ rfl ⟨Nat.lt_trans (Nat.lt_of_lt_of_le (show mH mX12_passes < 13 by decide) zb) hz, by decide⟩ (Nat.le_of_ble_eq_true rfl) rfl (Nat.le_of_ble_eq_true rfl) (Nat.le_of_ble_eq_true rfl) ⟨Nat.zero_le _, Nat.zero_le _⟩ dX12_readCond_12 (fun r Γ' h1 q => ?_)
  obtain ⟨x1, q0, rfl, p1⟩ := q; cases q0
  refine j_eqst [.int x1] (by rfl) ?_
  refine j_if_eq (off := 22) 37 dX12_readCond_15 (by decide) (fun c1 => ?_) (fun c1 => ?_)
  · exact j_le [some (.ref 159)] (And.intro rfl True.intro) (v1 x1 h1 p1 c1)
  · exact j_le [some (.ref 159)] (And.intro rfl True.intro) (v2 x1 h1 p1 c1)
set_option maxRecDepth 100000 in
theorem bX12_readCond_18 {sc : Nat × (Nat → Int32)} {h : jH} {Q : jQ} {z z1 : Nat} {P1 : Int32 → jH → Prop} (hz : z1 < z) (zb : 13 ≤ z1)
    (k1 : JM (mX12_readAllOf z1) [.ref 159] (jG0 sc) h (jint sc P1))
    (v1 : ∀ (x1 : Int32) (h1 : jH), P1 x1 h1 → ¬ x1 = 0 → WP (mX12_readCond z) Q 27 [some (.ref 159)] [] (jG0 sc) h1 (0, 0))
    (v2 : ∀ (x1 : Int32) (h1 : jH), P1 x1 h1 → x1 = 0 → WP (mX12_readCond z) Q 25 [some (.ref 159)] [] (jG0 sc) h1 (0, 0)) :
    WP (mX12_readCond z) Q 18 [some (.ref 159)] [] (jG0 sc) h (0, 0) := by
  refine j_aload_n (i := 0) rfl dX12_readCond_18 ?_
  refine j_callV (idx := 197) (As := []) (ci := 12) (n := 0) k1 jint_nt (jlkT (jtb7 37 rfl) rfl) sX12_readAllOf kX12_readAllOf rfl ⟨rfl, (show yX12_readAllOf.cls ≠ "java/lang/invoke/MethodHandle" by decide +kernel), (show yX12_readAllOf.cls ≠ "java/lang/invoke/VarHandle" by decide +kernel), (show (parseMethodDescriptor yX12_readAllOf.desc).map (fun d => d.parameters.length) = some 0 by decide +kernel)⟩ rfl ⟨hz, Nat.le_of_ble_eq_true rfl⟩ (Nat.le_of_ble_eq_true rfl) rfl (Nat.le_of_ble_eq_true rfl) (Nat.le_of_ble_eq_true rfl) ⟨Nat.zero_le _, Nat.zero_le _⟩ dX12_readCond_19 (fun r Γ' h1 q => ?_)
  obtain ⟨x1, q0, rfl, p1⟩ := q; cases q0
  refine j_eqst [.int x1] (by rfl) ?_
  refine j_if_ne (off := 5) 27 dX12_readCond_22 (by decide) (fun c1 => ?_) (fun c1 => ?_)
  · exact j_le [some (.ref 159)] (And.intro rfl True.intro) (v1 x1 h1 p1 c1)
  · exact j_le [some (.ref 159)] (And.intro rfl True.intro) (v2 x1 h1 p1 c1)
set_option maxRecDepth 100000 in
theorem bX12_readCond_25 {sc : Nat × (Nat → Int32)} {h : jH} {Q : jQ} {z z1 : Nat} (hz : z1 < z) (zb : 13 ≤ z1)
    (v1 : Q (.inl (some (.int 0))) (jG0 sc) h) :
    WP (mX12_readCond z) Q 25 [some (.ref 159)] [] (jG0 sc) h (0, 0) := by
  refine j_iconst (n := 0) 0 (by decide) dX12_readCond_25 ?_
  exact j_iret rfl rfl (Nat.zero_le _) (Nat.zero_le _) dX12_readCond_26 v1
set_option maxRecDepth 100000 in
theorem bX12_readCond_27 {sc : Nat × (Nat → Int32)} {h : jH} {Q : jQ} {z z1 : Nat} {P1 : jH → Prop} (hz : z1 < z) (zb : 13 ≤ z1)
    (k1 : JM mX12_emits [.ref 159, .int 9, .int 0] (jG0 sc) h (jvoid sc P1))
    (v1 : ∀ h1 : jH, P1 h1 → WP (mX12_readCond z) Q 9 [some (.ref 159)] [] (jG0 sc) h1 (0, 0)) :
    WP (mX12_readCond z) Q 27 [some (.ref 159)] [] (jG0 sc) h (0, 0) := by
  refine j_aload_n (i := 0) rfl dX12_readCond_27 ?_
  refine j_bipush (n := 9) 9 (by decide) dX12_readCond_28 ?_
  refine j_iconst (n := 0) 0 (by decide) dX12_readCond_30 ?_
  refine j_callV (idx := 173) (As := [.int 9, .int 0]) (ci := 12) (n := 2) k1 jvoid_nt (jlkT (jtb7 50 rfl) rfl) sX12_emits kX12_emits rfl ⟨rfl, (show yX12_emits.cls ≠ "java/lang/invoke/MethodHandle" by decide +kernel), (show yX12_emits.cls ≠ "java/lang/invoke/VarHandle" by decide +kernel), (show (parseMethodDescriptor yX12_emits.desc).map (fun d => d.parameters.length) = some 2 by decide +kernel)⟩ rfl ⟨Nat.lt_trans (Nat.lt_of_lt_of_le (show mH mX12_emits < 13 by decide) zb) hz, by decide⟩ (Nat.le_of_ble_eq_true rfl) rfl (Nat.le_of_ble_eq_true rfl) (Nat.le_of_ble_eq_true rfl) ⟨Nat.zero_le _, Nat.zero_le _⟩ dX12_readCond_31 (fun r Γ' h1 q => ?_)
  obtain ⟨q0, rfl, p1⟩ := q; cases q0
  refine j_eqst [] (by rfl) ?_
  refine j_goto (off := -25) 9 dX12_readCond_34 (by decide) ?_
  exact j_le [some (.ref 159)] (And.intro rfl True.intro) (v1 h1 p1)
set_option maxRecDepth 100000 in
theorem bX12_readCond_37 {sc : Nat × (Nat → Int32)} {h : jH} {Q : jQ} {z z1 : Nat} (hz : z1 < z) (zb : 13 ≤ z1)
    (v1 : Q (.inl (some (.int 1))) (jG0 sc) h) :
    WP (mX12_readCond z) Q 37 [some (.ref 159)] [] (jG0 sc) h (0, 0) := by
  refine j_iconst (n := 1) 1 (by decide) dX12_readCond_37 ?_
  exact j_iret rfl rfl (Nat.zero_le _) (Nat.zero_le _) dX12_readCond_38 v1
set_option maxRecDepth 100000 in
theorem rX12_readCond_0 {sc : Nat × (Nat → Int32)} {h : jH} {Q : jQ} {z z1 : Nat} {P1 : Int32 → jH → Prop} (hz : z1 < z) (zb : 13 ≤ z1)
    (k1 : JM (mX12_readAllOf z1) [.ref 159] (jG0 sc) h (jint sc P1))
    (v1 : ∀ (x1 : Int32) (h1 : jH), P1 x1 h1 → ¬ x1 = 0 → WP (mX12_readCond z) Q 9 [some (.ref 159)] [] (jG0 sc) h1 (0, 0))
    (v2 : ∀ (x1 : Int32) (h1 : jH), P1 x1 h1 → x1 = 0 → Q (.inl (some (.int 0))) (jG0 sc) h1) :
    WP (mX12_readCond z) Q 0 [some (.ref 159)] [] (jG0 sc) h (0, 0) := by
  exact (bX12_readCond_0 hz zb k1 (fun x1 h1 p1 c1 => (v1 x1 h1 p1 c1)) (fun x1 h1 p1 c1 => (bX12_readCond_7 hz zb (v2 x1 h1 p1 c1))))
set_option maxRecDepth 100000 in
theorem rX12_readCond_9 {sc : Nat × (Nat → Int32)} {h : jH} {Q : jQ} {z z1 : Nat} {P1 : Int32 → jH → Prop} {P2 : Int32 → jH → Prop} {P3 : jH → Prop} (hz : z1 < z) (zb : 13 ≤ z1)
    (k1 : JM mX12_passes [.ref 159, .ref 1022] (jG0 sc) h (jint sc P1))
    (v1 : ∀ (x1 : Int32) (h1 : jH), P1 x1 h1 → x1 = 0 → Q (.inl (some (.int 1))) (jG0 sc) h1)
    (k2 : ∀ (x1 : Int32) (h1 : jH), P1 x1 h1 → ¬ x1 = 0 → JM (mX12_readAllOf z1) [.ref 159] (jG0 sc) h1 (jint sc P2))
    (k3 : ∀ (x1 : Int32) (h1 : jH), P1 x1 h1 → ¬ x1 = 0 → ∀ (x2 : Int32) (h2 : jH), P2 x2 h2 → ¬ x2 = 0 → JM mX12_emits [.ref 159, .int 9, .int 0] (jG0 sc) h2 (jvoid sc P3))
    (v2 : ∀ (x1 : Int32) (h1 : jH), P1 x1 h1 → ¬ x1 = 0 → ∀ (x2 : Int32) (h2 : jH), P2 x2 h2 → ¬ x2 = 0 → ∀ h3 : jH, P3 h3 → WP (mX12_readCond z) Q 9 [some (.ref 159)] [] (jG0 sc) h3 (0, 0))
    (v3 : ∀ (x1 : Int32) (h1 : jH), P1 x1 h1 → ¬ x1 = 0 → ∀ (x2 : Int32) (h2 : jH), P2 x2 h2 → x2 = 0 → Q (.inl (some (.int 0))) (jG0 sc) h2) :
    WP (mX12_readCond z) Q 9 [some (.ref 159)] [] (jG0 sc) h (0, 0) := by
  exact (bX12_readCond_9 hz zb k1 (fun x1 h1 p1 c1 => (bX12_readCond_37 hz zb (v1 x1 h1 p1 c1))) (fun x1 h1 p1 c1 => (bX12_readCond_18 hz zb (k2 x1 h1 p1 c1) (fun x2 h2 p2 c2 => (bX12_readCond_27 hz zb (k3 x1 h1 p1 c1 x2 h2 p2 c2) (fun h3 p3 => (v2 x1 h1 p1 c1 x2 h2 p2 c2 h3 p3)))) (fun x2 h2 p2 c2 => (bX12_readCond_25 hz zb (v3 x1 h1 p1 c1 x2 h2 p2 c2))))))
theorem dX12_readLaw_0 : decode (mC mX12_readLaw) 0 = .ok (.aload_n 0, 1) := by decide +kernel
theorem dX12_readLaw_1 : decode (mC mX12_readLaw) 1 = .ok (.iconst 0, 1) := by decide +kernel
theorem dX12_readLaw_2 : decode (mC mX12_readLaw) 2 = .ok (.putfield 164, 3) := by decide +kernel
theorem dX12_readLaw_5 : decode (mC mX12_readLaw) 5 = .ok (.aload_n 0, 1) := by decide +kernel
theorem dX12_readLaw_6 : decode (mC mX12_readLaw) 6 = .ok (.iconst 0, 1) := by decide +kernel
theorem dX12_readLaw_7 : decode (mC mX12_readLaw) 7 = .ok (.putfield 177, 3) := by decide +kernel
theorem dX12_readLaw_10 : decode (mC mX12_readLaw) 10 = .ok (.aload_n 0, 1) := by decide +kernel
theorem dX12_readLaw_11 : decode (mC mX12_readLaw) 11 = .ok (.invokevirtual 180, 3) := by decide +kernel
theorem dX12_readLaw_14 : decode (mC mX12_readLaw) 14 = .ok (.ifCond .ne 5, 3) := by decide +kernel
theorem dX12_readLaw_17 : decode (mC mX12_readLaw) 17 = .ok (.iconst 0, 1) := by decide +kernel
theorem dX12_readLaw_18 : decode (mC mX12_readLaw) 18 = .ok (.ireturn, 1) := by decide +kernel
theorem dX12_readLaw_19 : decode (mC mX12_readLaw) 19 = .ok (.aload_n 0, 1) := by decide +kernel
theorem dX12_readLaw_20 : decode (mC mX12_readLaw) 20 = .ok (.invokevirtual 95, 3) := by decide +kernel
theorem dX12_readLaw_23 : decode (mC mX12_readLaw) 23 = .ok (.aload_n 0, 1) := by decide +kernel
theorem dX12_readLaw_24 : decode (mC mX12_readLaw) 24 = .ok (.getfield 85, 3) := by decide +kernel
theorem dX12_readLaw_27 : decode (mC mX12_readLaw) 27 = .ok (.aload_n 0, 1) := by decide +kernel
theorem dX12_readLaw_28 : decode (mC mX12_readLaw) 28 = .ok (.getfield 82, 3) := by decide +kernel
theorem dX12_readLaw_31 : decode (mC mX12_readLaw) 31 = .ok (.if_icmp .ne 7, 3) := by decide +kernel
theorem dX12_readLaw_34 : decode (mC mX12_readLaw) 34 = .ok (.iconst 1, 1) := by decide +kernel
theorem dX12_readLaw_35 : decode (mC mX12_readLaw) 35 = .ok (.goto 4, 3) := by decide +kernel
theorem dX12_readLaw_38 : decode (mC mX12_readLaw) 38 = .ok (.iconst 0, 1) := by decide +kernel
theorem dX12_readLaw_39 : decode (mC mX12_readLaw) 39 = .ok (.ireturn, 1) := by decide +kernel
set_option maxRecDepth 100000 in
theorem bX12_readLaw_0 {sc : Nat × (Nat → Int32)} {h : jH} {Q : jQ} {P1 : Int32 → jH → Prop}
    (k1 : JM (mX12_readCond 59) [.ref 159] (jG0 sc) (jput (jput h 159 13 0) 159 9 0) (jint sc P1))
    (v1 : ∀ (x1 : Int32) (h1 : jH), P1 x1 h1 → ¬ x1 = 0 → WP mX12_readLaw Q 19 [some (.ref 159)] [] (jG0 sc) h1 (0, 0))
    (v2 : ∀ (x1 : Int32) (h1 : jH), P1 x1 h1 → x1 = 0 → WP mX12_readLaw Q 17 [some (.ref 159)] [] (jG0 sc) h1 (0, 0)) :
    WP mX12_readLaw Q 0 [some (.ref 159)] [] (jG0 sc) h (0, 0) := by
  refine j_aload_n (i := 0) rfl dX12_readLaw_0 ?_
  refine j_iconst (n := 0) 0 (by decide) dX12_readLaw_1 ?_
  refine j_putI (idx := 164) (ci := 12) (k := 13) (nest := false) (show (12, 164, 12, 13, false) ∈ jFT by decide) rfl rfl rfl rfl (Nat.le_of_ble_eq_true rfl) rfl dX12_readLaw_2 ?_
  refine j_aload_n (i := 0) rfl dX12_readLaw_5 ?_
  refine j_iconst (n := 0) 0 (by decide) dX12_readLaw_6 ?_
  refine j_putI (idx := 177) (ci := 12) (k := 9) (nest := false) (show (12, 177, 12, 9, false) ∈ jFT by decide) rfl rfl rfl rfl (Nat.le_of_ble_eq_true rfl) rfl dX12_readLaw_7 ?_
  refine j_aload_n (i := 0) rfl dX12_readLaw_10 ?_
  refine j_callV (idx := 180) (As := []) (ci := 12) (n := 0) k1 jint_nt (jlkT (jtb7 33 rfl) rfl) sX12_readCond kX12_readCond rfl ⟨rfl, (show yX12_readCond.cls ≠ "java/lang/invoke/MethodHandle" by decide +kernel), (show yX12_readCond.cls ≠ "java/lang/invoke/VarHandle" by decide +kernel), (show (parseMethodDescriptor yX12_readCond.desc).map (fun d => d.parameters.length) = some 0 by decide +kernel)⟩ rfl ⟨Nat.le_of_ble_eq_true rfl, Nat.le_of_ble_eq_true rfl⟩ (Nat.le_of_ble_eq_true rfl) rfl (Nat.le_of_ble_eq_true rfl) (Nat.le_of_ble_eq_true rfl) ⟨Nat.zero_le _, Nat.zero_le _⟩ dX12_readLaw_11 (fun r Γ' h1 q => ?_)
  obtain ⟨x1, q0, rfl, p1⟩ := q; cases q0
  refine j_eqst [.int x1] (by rfl) ?_
  refine j_if_ne (off := 5) 19 dX12_readLaw_14 (by decide) (fun c1 => ?_) (fun c1 => ?_)
  · exact j_le [some (.ref 159)] (And.intro rfl True.intro) (v1 x1 h1 p1 c1)
  · exact j_le [some (.ref 159)] (And.intro rfl True.intro) (v2 x1 h1 p1 c1)
set_option maxRecDepth 100000 in
theorem bX12_readLaw_17 {sc : Nat × (Nat → Int32)} {h : jH} {Q : jQ}
    (v1 : Q (.inl (some (.int 0))) (jG0 sc) h) :
    WP mX12_readLaw Q 17 [some (.ref 159)] [] (jG0 sc) h (0, 0) := by
  refine j_iconst (n := 0) 0 (by decide) dX12_readLaw_17 ?_
  exact j_iret rfl rfl (Nat.zero_le _) (Nat.zero_le _) dX12_readLaw_18 v1
set_option maxRecDepth 100000 in
theorem bX12_readLaw_19 {sc : Nat × (Nat → Int32)} {h : jH} {Q : jQ} {P1 : jH → Prop}
    (k1 : JM mX12_blanks [.ref 159] (jG0 sc) h (jvoid sc P1))
    (v1 : ∀ h1 : jH, P1 h1 → ¬ (h1 159 6) = (h1 159 7) → WP mX12_readLaw Q 38 [some (.ref 159)] [] (jG0 sc) h1 (0, 0))
    (v2 : ∀ h1 : jH, P1 h1 → (h1 159 6) = (h1 159 7) → WP mX12_readLaw Q 34 [some (.ref 159)] [] (jG0 sc) h1 (0, 0)) :
    WP mX12_readLaw Q 19 [some (.ref 159)] [] (jG0 sc) h (0, 0) := by
  refine j_aload_n (i := 0) rfl dX12_readLaw_19 ?_
  refine j_callV (idx := 95) (As := []) (ci := 12) (n := 0) k1 jvoid_nt (jlkT (jtb6 211 rfl) rfl) sX12_blanks kX12_blanks rfl ⟨rfl, by decide +kernel, by decide +kernel, by decide +kernel⟩ rfl ⟨by decide, by decide⟩ (Nat.le_of_ble_eq_true rfl) rfl (Nat.le_of_ble_eq_true rfl) (Nat.le_of_ble_eq_true rfl) ⟨Nat.zero_le _, Nat.zero_le _⟩ dX12_readLaw_20 (fun r Γ' h1 q => ?_)
  obtain ⟨q0, rfl, p1⟩ := q; cases q0
  refine j_eqst [] (by rfl) ?_
  refine j_aload_n (i := 0) rfl dX12_readLaw_23 ?_
  refine j_getI (idx := 85) (ci := 12) (k := 6) (nest := false) (show (12, 85, 12, 6, false) ∈ jFT by decide) rfl (Nat.le_of_ble_eq_true rfl) rfl dX12_readLaw_24 ?_
  refine j_aload_n (i := 0) rfl dX12_readLaw_27 ?_
  refine j_getI (idx := 82) (ci := 12) (k := 7) (nest := false) (show (12, 82, 12, 7, false) ∈ jFT by decide) rfl (Nat.le_of_ble_eq_true rfl) rfl dX12_readLaw_28 ?_
  refine j_icmp_ne (off := 7) 38 dX12_readLaw_31 (by decide) (fun c1 => ?_) (fun c1 => ?_)
  · exact j_le [some (.ref 159)] (And.intro rfl True.intro) (v1 h1 p1 c1)
  · exact j_le [some (.ref 159)] (And.intro rfl True.intro) (v2 h1 p1 c1)
set_option maxRecDepth 100000 in
theorem bX12_readLaw_34 {sc : Nat × (Nat → Int32)} {h : jH} {Q : jQ}
    (v1 : WP mX12_readLaw Q 39 [some (.ref 159)] [.int 1] (jG0 sc) h (0, 0)) :
    WP mX12_readLaw Q 34 [some (.ref 159)] [] (jG0 sc) h (0, 0) := by
  refine j_iconst (n := 1) 1 (by decide) dX12_readLaw_34 ?_
  refine j_goto (off := 4) 39 dX12_readLaw_35 (by decide) ?_
  exact j_le [some (.ref 159)] (And.intro rfl True.intro) v1
set_option maxRecDepth 100000 in
theorem bX12_readLaw_38 {sc : Nat × (Nat → Int32)} {h : jH} {Q : jQ}
    (v1 : WP mX12_readLaw Q 39 [some (.ref 159)] [.int 0] (jG0 sc) h (0, 0)) :
    WP mX12_readLaw Q 38 [some (.ref 159)] [] (jG0 sc) h (0, 0) := by
  refine j_iconst (n := 0) 0 (by decide) dX12_readLaw_38 ?_
  exact j_le [some (.ref 159)] (And.intro rfl True.intro) v1
set_option maxRecDepth 100000 in
theorem bX12_readLaw_39 {sc : Nat × (Nat → Int32)} {h : jH} {Q : jQ} {s0 : Int32}
    (o1 : s0 = 0 ∨ s0 = 1)
    (v1 : Q (.inl (some (.int s0))) (jG0 sc) h) :
    WP mX12_readLaw Q 39 [some (.ref 159)] [.int s0] (jG0 sc) h (0, 0) := by
  exact j_iret rfl (jbn o1) (Nat.zero_le _) (Nat.zero_le _) dX12_readLaw_39 v1
set_option maxRecDepth 100000 in
theorem rX12_readLaw_0 {sc : Nat × (Nat → Int32)} {h : jH} {Q : jQ} {P1 : Int32 → jH → Prop} {P2 : jH → Prop}
    (k1 : JM (mX12_readCond 59) [.ref 159] (jG0 sc) (jput (jput h 159 13 0) 159 9 0) (jint sc P1))
    (k2 : ∀ (x1 : Int32) (h1 : jH), P1 x1 h1 → ¬ x1 = 0 → JM mX12_blanks [.ref 159] (jG0 sc) h1 (jvoid sc P2))
    (v1 : ∀ (x1 : Int32) (h1 : jH), P1 x1 h1 → ¬ x1 = 0 → ∀ h2 : jH, P2 h2 → ¬ (h2 159 6) = (h2 159 7) → Q (.inl (some (.int 0))) (jG0 sc) h2)
    (v2 : ∀ (x1 : Int32) (h1 : jH), P1 x1 h1 → ¬ x1 = 0 → ∀ h2 : jH, P2 h2 → (h2 159 6) = (h2 159 7) → Q (.inl (some (.int 1))) (jG0 sc) h2)
    (v3 : ∀ (x1 : Int32) (h1 : jH), P1 x1 h1 → x1 = 0 → Q (.inl (some (.int 0))) (jG0 sc) h1) :
    WP mX12_readLaw Q 0 [some (.ref 159)] [] (jG0 sc) h (0, 0) := by
  exact (bX12_readLaw_0 k1 (fun x1 h1 p1 c1 => (bX12_readLaw_19 (k2 x1 h1 p1 c1) (fun h2 p2 c2 => (bX12_readLaw_38 (bX12_readLaw_39 (by decide) (v1 x1 h1 p1 c1 h2 p2 c2)))) (fun h2 p2 c2 => (bX12_readLaw_34 (bX12_readLaw_39 (by decide) (v2 x1 h1 p1 c1 h2 p2 c2)))))) (fun x1 h1 p1 c1 => (bX12_readLaw_17 (v3 x1 h1 p1 c1))))
theorem dX12_law_0 : decode (mC mX12_law) 0 = .ok (.aload_n 0, 1) := by decide +kernel
theorem dX12_law_1 : decode (mC mX12_law) 1 = .ok (.invokevirtual 151, 3) := by decide +kernel
theorem dX12_law_4 : decode (mC mX12_law) 4 = .ok (.aload_n 0, 1) := by decide +kernel
theorem dX12_law_5 : decode (mC mX12_law) 5 = .ok (.invokevirtual 202, 3) := by decide +kernel
theorem dX12_law_8 : decode (mC mX12_law) 8 = .ok (.istore_n 1, 1) := by decide +kernel
theorem dX12_law_9 : decode (mC mX12_law) 9 = .ok (.aload_n 0, 1) := by decide +kernel
theorem dX12_law_10 : decode (mC mX12_law) 10 = .ok (.iload_n 1, 1) := by decide +kernel
theorem dX12_law_11 : decode (mC mX12_law) 11 = .ok (.ifCond .eq 7, 3) := by decide +kernel
theorem dX12_law_14 : decode (mC mX12_law) 14 = .ok (.iconst (-1), 1) := by decide +kernel
theorem dX12_law_15 : decode (mC mX12_law) 15 = .ok (.goto 7, 3) := by decide +kernel
theorem dX12_law_18 : decode (mC mX12_law) 18 = .ok (.aload_n 0, 1) := by decide +kernel
theorem dX12_law_19 : decode (mC mX12_law) 19 = .ok (.getfield 92, 3) := by decide +kernel
theorem dX12_law_22 : decode (mC mX12_law) 22 = .ok (.putfield 24, 3) := by decide +kernel
theorem dX12_law_25 : decode (mC mX12_law) 25 = .ok (.aload_n 0, 1) := by decide +kernel
theorem dX12_law_26 : decode (mC mX12_law) 26 = .ok (.iload_n 1, 1) := by decide +kernel
theorem dX12_law_27 : decode (mC mX12_law) 27 = .ok (.ifCond .ne 7, 3) := by decide +kernel
theorem dX12_law_30 : decode (mC mX12_law) 30 = .ok (.iconst 1, 1) := by decide +kernel
theorem dX12_law_31 : decode (mC mX12_law) 31 = .ok (.goto 4, 3) := by decide +kernel
theorem dX12_law_34 : decode (mC mX12_law) 34 = .ok (.iconst 0, 1) := by decide +kernel
theorem dX12_law_35 : decode (mC mX12_law) 35 = .ok (.iconst 1, 1) := by decide +kernel
theorem dX12_law_36 : decode (mC mX12_law) 36 = .ok (.invokevirtual 157, 3) := by decide +kernel
theorem dX12_law_39 : decode (mC mX12_law) 39 = .ok (.ifCond .eq 5, 3) := by decide +kernel
theorem dX12_law_42 : decode (mC mX12_law) 42 = .ok (.iconst 0, 1) := by decide +kernel
theorem dX12_law_43 : decode (mC mX12_law) 43 = .ok (.ireturn, 1) := by decide +kernel
theorem dX12_law_44 : decode (mC mX12_law) 44 = .ok (.aload_n 0, 1) := by decide +kernel
theorem dX12_law_45 : decode (mC mX12_law) 45 = .ok (.getfield 13, 3) := by decide +kernel
theorem dX12_law_48 : decode (mC mX12_law) 48 = .ok (.sipush 653, 3) := by decide +kernel
theorem dX12_law_51 : decode (mC mX12_law) 51 = .ok (.aload_n 0, 1) := by decide +kernel
theorem dX12_law_52 : decode (mC mX12_law) 52 = .ok (.getfield 164, 3) := by decide +kernel
theorem dX12_law_55 : decode (mC mX12_law) 55 = .ok (.iastore, 1) := by decide +kernel
theorem dX12_law_56 : decode (mC mX12_law) 56 = .ok (.iconst 0, 1) := by decide +kernel
theorem dX12_law_57 : decode (mC mX12_law) 57 = .ok (.istore_n 2, 1) := by decide +kernel
theorem dX12_law_58 : decode (mC mX12_law) 58 = .ok (.iload_n 2, 1) := by decide +kernel
theorem dX12_law_59 : decode (mC mX12_law) 59 = .ok (.sipush 800, 3) := by decide +kernel
theorem dX12_law_62 : decode (mC mX12_law) 62 = .ok (.if_icmp .ge 25, 3) := by decide +kernel
theorem dX12_law_65 : decode (mC mX12_law) 65 = .ok (.aload_n 0, 1) := by decide +kernel
theorem dX12_law_66 : decode (mC mX12_law) 66 = .ok (.getfield 13, 3) := by decide +kernel
theorem dX12_law_69 : decode (mC mX12_law) 69 = .ok (.sipush 654, 3) := by decide +kernel
theorem dX12_law_72 : decode (mC mX12_law) 72 = .ok (.iload_n 2, 1) := by decide +kernel
theorem dX12_law_73 : decode (mC mX12_law) 73 = .ok (.iadd, 1) := by decide +kernel
theorem dX12_law_74 : decode (mC mX12_law) 74 = .ok (.aload_n 0, 1) := by decide +kernel
theorem dX12_law_75 : decode (mC mX12_law) 75 = .ok (.getfield 33, 3) := by decide +kernel
theorem dX12_law_78 : decode (mC mX12_law) 78 = .ok (.iload_n 2, 1) := by decide +kernel
theorem dX12_law_79 : decode (mC mX12_law) 79 = .ok (.iaload, 1) := by decide +kernel
theorem dX12_law_80 : decode (mC mX12_law) 80 = .ok (.iastore, 1) := by decide +kernel
theorem dX12_law_81 : decode (mC mX12_law) 81 = .ok (.iinc 2 1, 3) := by decide +kernel
theorem dX12_law_84 : decode (mC mX12_law) 84 = .ok (.goto (-26), 3) := by decide +kernel
theorem dX12_law_87 : decode (mC mX12_law) 87 = .ok (.iconst 1, 1) := by decide +kernel
theorem dX12_law_88 : decode (mC mX12_law) 88 = .ok (.ireturn, 1) := by decide +kernel
set_option maxRecDepth 100000 in
theorem bX12_law_0 {sc : Nat × (Nat → Int32)} {h : jH} {Q : jQ} {P1 : jH → Prop} {P2 : Int32 → jH → Prop}
    (k1 : JM mX12_uses [.ref 159] (jG0 sc) h (jvoid sc P1))
    (k2 : ∀ h1 : jH, P1 h1 → JM mX12_readLaw [.ref 159] (jG0 sc) h1 (jint sc P2))
    (v1 : ∀ h1 : jH, P1 h1 → ∀ (x2 : Int32) (h2 : jH), P2 x2 h2 → x2 = 0 → WP mX12_law Q 18 [some (.ref 159), some (.int x2), none] [.ref 159] (jG0 sc) h2 (0, 0))
    (v2 : ∀ h1 : jH, P1 h1 → ∀ (x2 : Int32) (h2 : jH), P2 x2 h2 → ¬ x2 = 0 → WP mX12_law Q 14 [some (.ref 159), some (.int x2), none] [.ref 159] (jG0 sc) h2 (0, 0)) :
    WP mX12_law Q 0 [some (.ref 159), none, none] [] (jG0 sc) h (0, 0) := by
  refine j_aload_n (i := 0) rfl dX12_law_0 ?_
  refine j_callV (idx := 151) (As := []) (ci := 12) (n := 0) k1 jvoid_nt (jlkT (jtb6 195 rfl) rfl) sX12_uses kX12_uses rfl ⟨rfl, by decide +kernel, by decide +kernel, by decide +kernel⟩ rfl ⟨by decide, by decide⟩ (Nat.le_of_ble_eq_true rfl) rfl (Nat.le_of_ble_eq_true rfl) (Nat.le_of_ble_eq_true rfl) ⟨Nat.zero_le _, Nat.zero_le _⟩ dX12_law_1 (fun r Γ' h1 q => ?_)
  obtain ⟨q0, rfl, p1⟩ := q; cases q0
  refine j_eqst [] (by rfl) ?_
  refine j_aload_n (i := 0) rfl dX12_law_4 ?_
  refine j_callV (idx := 202) (As := []) (ci := 12) (n := 0) (k2 h1 p1) jint_nt (jlkT (jtb7 29 rfl) rfl) sX12_readLaw kX12_readLaw rfl ⟨rfl, by decide +kernel, by decide +kernel, by decide +kernel⟩ rfl ⟨by decide, by decide⟩ (Nat.le_of_ble_eq_true rfl) rfl (Nat.le_of_ble_eq_true rfl) (Nat.le_of_ble_eq_true rfl) ⟨Nat.zero_le _, Nat.zero_le _⟩ dX12_law_5 (fun r Γ' h2 q => ?_)
  obtain ⟨x2, q0, rfl, p2⟩ := q; cases q0
  refine j_eqst [.int x2] (by rfl) ?_
  refine j_istore_n (i := 1) dX12_law_8 (Nat.le_of_ble_eq_true rfl) ?_
  refine j_aload_n (i := 0) rfl dX12_law_9 ?_
  refine j_iload_n (i := 1) rfl dX12_law_10 ?_
  refine j_if_eq (off := 7) 18 dX12_law_11 (by decide) (fun c1 => ?_) (fun c1 => ?_)
  · exact j_le [some (.ref 159), some (.int x2), none] (And.intro rfl (And.intro rfl True.intro)) (v1 h1 p1 x2 h2 p2 c1)
  · exact j_le [some (.ref 159), some (.int x2), none] (And.intro rfl (And.intro rfl True.intro)) (v2 h1 p1 x2 h2 p2 c1)
set_option maxRecDepth 100000 in
theorem bX12_law_14 {sc : Nat × (Nat → Int32)} {h : jH} {Q : jQ} {l1 : Int32}
    (v1 : WP mX12_law Q 22 [some (.ref 159), some (.int l1), none] [.int (-1), .ref 159] (jG0 sc) h (0, 0)) :
    WP mX12_law Q 14 [some (.ref 159), some (.int l1), none] [.ref 159] (jG0 sc) h (0, 0) := by
  refine j_iconst (n := (-1)) (-1) (by decide) dX12_law_14 ?_
  refine j_goto (off := 7) 22 dX12_law_15 (by decide) ?_
  exact j_le [some (.ref 159), some (.int l1), none] (And.intro rfl (And.intro rfl True.intro)) v1
set_option maxRecDepth 100000 in
theorem bX12_law_18 {sc : Nat × (Nat → Int32)} {h : jH} {Q : jQ} {l1 : Int32}
    (v1 : WP mX12_law Q 22 [some (.ref 159), some (.int l1), none] [.int (h 159 8), .ref 159] (jG0 sc) h (0, 0)) :
    WP mX12_law Q 18 [some (.ref 159), some (.int l1), none] [.ref 159] (jG0 sc) h (0, 0) := by
  refine j_aload_n (i := 0) rfl dX12_law_18 ?_
  refine j_getI (idx := 92) (ci := 12) (k := 8) (nest := false) (show (12, 92, 12, 8, false) ∈ jFT by decide) rfl (Nat.le_of_ble_eq_true rfl) rfl dX12_law_19 ?_
  exact j_le [some (.ref 159), some (.int l1), none] (And.intro rfl (And.intro rfl True.intro)) v1
set_option maxRecDepth 100000 in
theorem bX12_law_22 {sc : Nat × (Nat → Int32)} {h : jH} {Q : jQ} {l1 s0 : Int32}
    (v1 : ¬ l1 = 0 → WP mX12_law Q 34 [some (.ref 159), some (.int l1), none] [.ref 159] (jG0 sc) (jput h 159 10 s0) (0, 0))
    (v2 : l1 = 0 → WP mX12_law Q 30 [some (.ref 159), some (.int l1), none] [.ref 159] (jG0 sc) (jput h 159 10 s0) (0, 0)) :
    WP mX12_law Q 22 [some (.ref 159), some (.int l1), none] [.int s0, .ref 159] (jG0 sc) h (0, 0) := by
  refine j_putI (idx := 24) (ci := 12) (k := 10) (nest := false) (show (12, 24, 12, 10, false) ∈ jFT by decide) rfl rfl rfl rfl (Nat.le_of_ble_eq_true rfl) rfl dX12_law_22 ?_
  refine j_aload_n (i := 0) rfl dX12_law_25 ?_
  refine j_iload_n (i := 1) rfl dX12_law_26 ?_
  refine j_if_ne (off := 7) 34 dX12_law_27 (by decide) (fun c1 => ?_) (fun c1 => ?_)
  · exact j_le [some (.ref 159), some (.int l1), none] (And.intro rfl (And.intro rfl True.intro)) (v1 c1)
  · exact j_le [some (.ref 159), some (.int l1), none] (And.intro rfl (And.intro rfl True.intro)) (v2 c1)
set_option maxRecDepth 100000 in
theorem bX12_law_30 {sc : Nat × (Nat → Int32)} {h : jH} {Q : jQ} {l1 : Int32}
    (v1 : WP mX12_law Q 35 [some (.ref 159), some (.int l1), none] [.int 1, .ref 159] (jG0 sc) h (0, 0)) :
    WP mX12_law Q 30 [some (.ref 159), some (.int l1), none] [.ref 159] (jG0 sc) h (0, 0) := by
  refine j_iconst (n := 1) 1 (by decide) dX12_law_30 ?_
  refine j_goto (off := 4) 35 dX12_law_31 (by decide) ?_
  exact j_le [some (.ref 159), some (.int l1), none] (And.intro rfl (And.intro rfl True.intro)) v1
set_option maxRecDepth 100000 in
theorem bX12_law_34 {sc : Nat × (Nat → Int32)} {h : jH} {Q : jQ} {l1 : Int32}
    (v1 : WP mX12_law Q 35 [some (.ref 159), some (.int l1), none] [.int 0, .ref 159] (jG0 sc) h (0, 0)) :
    WP mX12_law Q 34 [some (.ref 159), some (.int l1), none] [.ref 159] (jG0 sc) h (0, 0) := by
  refine j_iconst (n := 0) 0 (by decide) dX12_law_34 ?_
  exact j_le [some (.ref 159), some (.int l1), none] (And.intro rfl (And.intro rfl True.intro)) v1
set_option maxRecDepth 100000 in
theorem bX12_law_35 {sc : Nat × (Nat → Int32)} {h : jH} {Q : jQ} {l1 s0 : Int32} {P1 : Int32 → jH → Prop}
    (k1 : JM mX12_throwsIf [.ref 159, .int s0, .int 1] (jG0 sc) h (jint sc P1))
    (v1 : ∀ (x1 : Int32) (h1 : jH), P1 x1 h1 → x1 = 0 → WP mX12_law Q 44 [some (.ref 159), some (.int l1), none] [] (jG0 sc) h1 (0, 0))
    (v2 : ∀ (x1 : Int32) (h1 : jH), P1 x1 h1 → ¬ x1 = 0 → WP mX12_law Q 42 [some (.ref 159), some (.int l1), none] [] (jG0 sc) h1 (0, 0)) :
    WP mX12_law Q 35 [some (.ref 159), some (.int l1), none] [.int s0, .ref 159] (jG0 sc) h (0, 0) := by
  refine j_iconst (n := 1) 1 (by decide) dX12_law_35 ?_
  refine j_callV (idx := 157) (As := [.int s0, .int 1]) (ci := 12) (n := 2) k1 jint_nt (jlkT (jtb7 17 rfl) rfl) sX12_throwsIf kX12_throwsIf rfl ⟨rfl, by decide +kernel, by decide +kernel, by decide +kernel⟩ rfl ⟨by decide, by decide⟩ (Nat.le_of_ble_eq_true rfl) rfl (Nat.le_of_ble_eq_true rfl) (Nat.le_of_ble_eq_true rfl) ⟨Nat.zero_le _, Nat.zero_le _⟩ dX12_law_36 (fun r Γ' h1 q => ?_)
  obtain ⟨x1, q0, rfl, p1⟩ := q; cases q0
  refine j_eqst [.int x1] (by rfl) ?_
  refine j_if_eq (off := 5) 44 dX12_law_39 (by decide) (fun c1 => ?_) (fun c1 => ?_)
  · exact j_le [some (.ref 159), some (.int l1), none] (And.intro rfl (And.intro rfl True.intro)) (v1 x1 h1 p1 c1)
  · exact j_le [some (.ref 159), some (.int l1), none] (And.intro rfl (And.intro rfl True.intro)) (v2 x1 h1 p1 c1)
set_option maxRecDepth 100000 in
theorem bX12_law_42 {sc : Nat × (Nat → Int32)} {h : jH} {Q : jQ} {l1 : Int32}
    (v1 : Q (.inl (some (.int 0))) (jG0 sc) h) :
    WP mX12_law Q 42 [some (.ref 159), some (.int l1), none] [] (jG0 sc) h (0, 0) := by
  refine j_iconst (n := 0) 0 (by decide) dX12_law_42 ?_
  exact j_iret rfl rfl (Nat.zero_le _) (Nat.zero_le _) dX12_law_43 v1
set_option maxRecDepth 100000 in
theorem bX12_law_44 {sc : Nat × (Nat → Int32)} {h : jH} {Q : jQ} {l1 : Int32}
    (v1 : WP mX12_law Q 58 [some (.ref 159), some (.int l1), some (.int 0)] [] (jG0 sc) (jput h 160 653 (h 159 13)) (0, 0)) :
    WP mX12_law Q 44 [some (.ref 159), some (.int l1), none] [] (jG0 sc) h (0, 0) := by
  refine j_aload_n (i := 0) rfl dX12_law_44 ?_
  refine j_getR (idx := 13) (ci := 12) (k := 1) (nest := false) (show (12, 13, 12, 1, false) ∈ jFT by decide) rfl (Nat.le_of_ble_eq_true rfl) rfl (a := 160) rfl dX12_law_45 ?_
  refine j_sipush (n := 653) 653 (by decide) dX12_law_48 ?_
  refine j_aload_n (i := 0) rfl dX12_law_51 ?_
  refine j_getI (idx := 164) (ci := 12) (k := 13) (nest := false) (show (12, 164, 12, 13, false) ∈ jFT by decide) rfl (Nat.le_of_ble_eq_true rfl) rfl dX12_law_52 ?_
  refine j_iast (Nat.le_of_ble_eq_true rfl) rfl (jinl (n := 1454) (by decide)) dX12_law_55 ?_
  refine j_iconst (n := 0) 0 (by decide) dX12_law_56 ?_
  refine j_istore_n (i := 2) dX12_law_57 (Nat.le_of_ble_eq_true rfl) ?_
  exact j_le [some (.ref 159), some (.int l1), some (.int 0)] (And.intro rfl (And.intro rfl (And.intro rfl True.intro))) v1
set_option maxRecDepth 100000 in
theorem bX12_law_58 {sc : Nat × (Nat → Int32)} {h : jH} {Q : jQ} {l1 l2 : Int32}
    (v1 : 800 ≤ l2 → WP mX12_law Q 87 [some (.ref 159), some (.int l1), some (.int l2)] [] (jG0 sc) h (0, 0))
    (v2 : ¬ 800 ≤ l2 → WP mX12_law Q 65 [some (.ref 159), some (.int l1), some (.int l2)] [] (jG0 sc) h (0, 0)) :
    WP mX12_law Q 58 [some (.ref 159), some (.int l1), some (.int l2)] [] (jG0 sc) h (0, 0) := by
  refine j_iload_n (i := 2) rfl dX12_law_58 ?_
  refine j_sipush (n := 800) 800 (by decide) dX12_law_59 ?_
  refine j_icmp_ge (off := 25) 87 dX12_law_62 (by decide) (fun c1 => ?_) (fun c1 => ?_)
  · exact j_le [some (.ref 159), some (.int l1), some (.int l2)] (And.intro rfl (And.intro rfl (And.intro rfl True.intro))) (v1 c1)
  · exact j_le [some (.ref 159), some (.int l1), some (.int l2)] (And.intro rfl (And.intro rfl (And.intro rfl True.intro))) (v2 c1)
set_option maxRecDepth 100000 in
theorem bX12_law_65 {sc : Nat × (Nat → Int32)} {h : jH} {Q : jQ} {l1 l2 : Int32}
    (o1 : vp_in l2 800)
    (o2 : vp_in (654 + l2) 1454)
    (v1 : WP mX12_law Q 58 [some (.ref 159), some (.int l1), some (.int (l2 + 1))] [] (jG0 sc) (jput h 160 ((654 + l2).toNatClampNeg) (h 165 l2.toNatClampNeg)) (0, 0)) :
    WP mX12_law Q 65 [some (.ref 159), some (.int l1), some (.int l2)] [] (jG0 sc) h (0, 0) := by
  refine j_aload_n (i := 0) rfl dX12_law_65 ?_
  refine j_getR (idx := 13) (ci := 12) (k := 1) (nest := false) (show (12, 13, 12, 1, false) ∈ jFT by decide) rfl (Nat.le_of_ble_eq_true rfl) rfl (a := 160) rfl dX12_law_66 ?_
  refine j_sipush (n := 654) 654 (by decide) dX12_law_69 ?_
  refine j_iload_n (i := 2) rfl dX12_law_72 ?_
  refine j_iadd dX12_law_73 ?_
  refine j_aload_n (i := 0) rfl dX12_law_74 ?_
  refine j_getR (idx := 33) (ci := 12) (k := 14) (nest := false) (show (12, 33, 12, 14, false) ∈ jFT by decide) rfl (Nat.le_of_ble_eq_true rfl) rfl (a := 165) rfl dX12_law_75 ?_
  refine j_iload_n (i := 2) rfl dX12_law_78 ?_
  refine j_iald (Nat.le_of_ble_eq_true rfl) rfl o1 dX12_law_79 ?_
  refine j_iast (Nat.le_of_ble_eq_true rfl) rfl o2 dX12_law_80 ?_
  refine j_iinc (i := 2) (n := 1) rfl dX12_law_81 (Nat.le_of_ble_eq_true rfl) ?_
  refine j_eqlv [some (.ref 159), some (.int l1), some (.int (l2 + 1))] rfl ?_
  refine j_goto (off := -26) 58 dX12_law_84 (by decide) ?_
  exact j_le [some (.ref 159), some (.int l1), some (.int (l2 + 1))] (And.intro rfl (And.intro rfl (And.intro rfl True.intro))) v1
set_option maxRecDepth 100000 in
theorem bX12_law_87 {sc : Nat × (Nat → Int32)} {h : jH} {Q : jQ} {l1 l2 : Int32}
    (v1 : Q (.inl (some (.int 1))) (jG0 sc) h) :
    WP mX12_law Q 87 [some (.ref 159), some (.int l1), some (.int l2)] [] (jG0 sc) h (0, 0) := by
  refine j_iconst (n := 1) 1 (by decide) dX12_law_87 ?_
  exact j_iret rfl rfl (Nat.zero_le _) (Nat.zero_le _) dX12_law_88 v1
set_option maxRecDepth 100000 in
theorem rX12_law_0 {sc : Nat × (Nat → Int32)} {h : jH} {Q : jQ} {P1 : jH → Prop} {P2 : Int32 → jH → Prop} {P3 : Int32 → jH → Prop} {P4 : Int32 → jH → Prop} {P5 : Int32 → jH → Prop} {P6 : Int32 → jH → Prop}
    (k1 : JM mX12_uses [.ref 159] (jG0 sc) h (jvoid sc P1))
    (k2 : ∀ h1 : jH, P1 h1 → JM mX12_readLaw [.ref 159] (jG0 sc) h1 (jint sc P2))
    (k3 : ∀ h1 : jH, P1 h1 → ∀ (x2 : Int32) (h2 : jH), P2 x2 h2 → x2 = 0 → ¬ x2 = 0 → JM mX12_throwsIf [.ref 159, .int 0, .int 1] (jG0 sc) (jput h2 159 10 (h2 159 8)) (jint sc P3))
    (v1 : ∀ h1 : jH, P1 h1 → ∀ (x2 : Int32) (h2 : jH), P2 x2 h2 → x2 = 0 → ¬ x2 = 0 → ∀ (x3 : Int32) (h3 : jH), P3 x3 h3 → x3 = 0 → WP mX12_law Q 58 [some (.ref 159), some (.int x2), some (.int 0)] [] (jG0 sc) (jput h3 160 653 (h3 159 13)) (0, 0))
    (v2 : ∀ h1 : jH, P1 h1 → ∀ (x2 : Int32) (h2 : jH), P2 x2 h2 → x2 = 0 → ¬ x2 = 0 → ∀ (x3 : Int32) (h3 : jH), P3 x3 h3 → ¬ x3 = 0 → Q (.inl (some (.int 0))) (jG0 sc) h3)
    (k4 : ∀ h1 : jH, P1 h1 → ∀ (x2 : Int32) (h2 : jH), P2 x2 h2 → x2 = 0 → x2 = 0 → JM mX12_throwsIf [.ref 159, .int 1, .int 1] (jG0 sc) (jput h2 159 10 (h2 159 8)) (jint sc P4))
    (v3 : ∀ h1 : jH, P1 h1 → ∀ (x2 : Int32) (h2 : jH), P2 x2 h2 → x2 = 0 → x2 = 0 → ∀ (x4 : Int32) (h4 : jH), P4 x4 h4 → x4 = 0 → WP mX12_law Q 58 [some (.ref 159), some (.int x2), some (.int 0)] [] (jG0 sc) (jput h4 160 653 (h4 159 13)) (0, 0))
    (v4 : ∀ h1 : jH, P1 h1 → ∀ (x2 : Int32) (h2 : jH), P2 x2 h2 → x2 = 0 → x2 = 0 → ∀ (x4 : Int32) (h4 : jH), P4 x4 h4 → ¬ x4 = 0 → Q (.inl (some (.int 0))) (jG0 sc) h4)
    (k5 : ∀ h1 : jH, P1 h1 → ∀ (x2 : Int32) (h2 : jH), P2 x2 h2 → ¬ x2 = 0 → ¬ x2 = 0 → JM mX12_throwsIf [.ref 159, .int 0, .int 1] (jG0 sc) (jput h2 159 10 (-1)) (jint sc P5))
    (v5 : ∀ h1 : jH, P1 h1 → ∀ (x2 : Int32) (h2 : jH), P2 x2 h2 → ¬ x2 = 0 → ¬ x2 = 0 → ∀ (x5 : Int32) (h5 : jH), P5 x5 h5 → x5 = 0 → WP mX12_law Q 58 [some (.ref 159), some (.int x2), some (.int 0)] [] (jG0 sc) (jput h5 160 653 (h5 159 13)) (0, 0))
    (v6 : ∀ h1 : jH, P1 h1 → ∀ (x2 : Int32) (h2 : jH), P2 x2 h2 → ¬ x2 = 0 → ¬ x2 = 0 → ∀ (x5 : Int32) (h5 : jH), P5 x5 h5 → ¬ x5 = 0 → Q (.inl (some (.int 0))) (jG0 sc) h5)
    (k6 : ∀ h1 : jH, P1 h1 → ∀ (x2 : Int32) (h2 : jH), P2 x2 h2 → ¬ x2 = 0 → x2 = 0 → JM mX12_throwsIf [.ref 159, .int 1, .int 1] (jG0 sc) (jput h2 159 10 (-1)) (jint sc P6))
    (v7 : ∀ h1 : jH, P1 h1 → ∀ (x2 : Int32) (h2 : jH), P2 x2 h2 → ¬ x2 = 0 → x2 = 0 → ∀ (x6 : Int32) (h6 : jH), P6 x6 h6 → x6 = 0 → WP mX12_law Q 58 [some (.ref 159), some (.int x2), some (.int 0)] [] (jG0 sc) (jput h6 160 653 (h6 159 13)) (0, 0))
    (v8 : ∀ h1 : jH, P1 h1 → ∀ (x2 : Int32) (h2 : jH), P2 x2 h2 → ¬ x2 = 0 → x2 = 0 → ∀ (x6 : Int32) (h6 : jH), P6 x6 h6 → ¬ x6 = 0 → Q (.inl (some (.int 0))) (jG0 sc) h6) :
    WP mX12_law Q 0 [some (.ref 159), none, none] [] (jG0 sc) h (0, 0) := by
  exact (bX12_law_0 k1 (fun h1 p1 => (k2 h1 p1)) (fun h1 p1 x2 h2 p2 c1 => (bX12_law_18 (bX12_law_22 (fun c2 => (bX12_law_34 (bX12_law_35 (k3 h1 p1 x2 h2 p2 c1 c2) (fun x3 h3 p3 c3 => (bX12_law_44 (v1 h1 p1 x2 h2 p2 c1 c2 x3 h3 p3 c3))) (fun x3 h3 p3 c3 => (bX12_law_42 (v2 h1 p1 x2 h2 p2 c1 c2 x3 h3 p3 c3)))))) (fun c2 => (bX12_law_30 (bX12_law_35 (k4 h1 p1 x2 h2 p2 c1 c2) (fun x4 h4 p4 c4 => (bX12_law_44 (v3 h1 p1 x2 h2 p2 c1 c2 x4 h4 p4 c4))) (fun x4 h4 p4 c4 => (bX12_law_42 (v4 h1 p1 x2 h2 p2 c1 c2 x4 h4 p4 c4))))))))) (fun h1 p1 x2 h2 p2 c1 => (bX12_law_14 (bX12_law_22 (fun c5 => (bX12_law_34 (bX12_law_35 (k5 h1 p1 x2 h2 p2 c1 c5) (fun x5 h5 p5 c6 => (bX12_law_44 (v5 h1 p1 x2 h2 p2 c1 c5 x5 h5 p5 c6))) (fun x5 h5 p5 c6 => (bX12_law_42 (v6 h1 p1 x2 h2 p2 c1 c5 x5 h5 p5 c6)))))) (fun c5 => (bX12_law_30 (bX12_law_35 (k6 h1 p1 x2 h2 p2 c1 c5) (fun x6 h6 p6 c7 => (bX12_law_44 (v7 h1 p1 x2 h2 p2 c1 c5 x6 h6 p6 c7))) (fun x6 h6 p6 c7 => (bX12_law_42 (v8 h1 p1 x2 h2 p2 c1 c5 x6 h6 p6 c7))))))))))
set_option maxRecDepth 100000 in
theorem rX12_law_58 {sc : Nat × (Nat → Int32)} {h : jH} {Q : jQ} {l1 l2 : Int32}
    (v1 : 800 ≤ l2 → Q (.inl (some (.int 1))) (jG0 sc) h)
    (o1 : ¬ 800 ≤ l2 → vp_in l2 800)
    (o2 : ¬ 800 ≤ l2 → vp_in (654 + l2) 1454)
    (v2 : ¬ 800 ≤ l2 → WP mX12_law Q 58 [some (.ref 159), some (.int l1), some (.int (l2 + 1))] [] (jG0 sc) (jput h 160 ((654 + l2).toNatClampNeg) (h 165 l2.toNatClampNeg)) (0, 0)) :
    WP mX12_law Q 58 [some (.ref 159), some (.int l1), some (.int l2)] [] (jG0 sc) h (0, 0) := by
  exact (bX12_law_58 (fun c1 => (bX12_law_87 (v1 c1))) (fun c1 => (bX12_law_65 (o1 c1) (o2 c1) (v2 c1))))
theorem dX12_keeps_0 : decode (mC mX12_keeps) 0 = .ok (.iload_n 1, 1) := by decide +kernel
theorem dX12_keeps_1 : decode (mC mX12_keeps) 1 = .ok (.ldc 205, 2) := by decide +kernel
theorem dX12_keeps_3 : decode (mC mX12_keeps) 3 = .ok (.if_icmp .le 5, 3) := by decide +kernel
theorem dX12_keeps_6 : decode (mC mX12_keeps) 6 = .ok (.iconst 0, 1) := by decide +kernel
theorem dX12_keeps_7 : decode (mC mX12_keeps) 7 = .ok (.ireturn, 1) := by decide +kernel
theorem dX12_keeps_8 : decode (mC mX12_keeps) 8 = .ok (.iconst 0, 1) := by decide +kernel
theorem dX12_keeps_9 : decode (mC mX12_keeps) 9 = .ok (.istore 4, 2) := by decide +kernel
theorem dX12_keeps_11 : decode (mC mX12_keeps) 11 = .ok (.iconst 0, 1) := by decide +kernel
theorem dX12_keeps_12 : decode (mC mX12_keeps) 12 = .ok (.istore 5, 2) := by decide +kernel
theorem dX12_keeps_14 : decode (mC mX12_keeps) 14 = .ok (.iload 5, 2) := by decide +kernel
theorem dX12_keeps_16 : decode (mC mX12_keeps) 16 = .ok (.aload_n 0, 1) := by decide +kernel
theorem dX12_keeps_17 : decode (mC mX12_keeps) 17 = .ok (.getfield 13, 3) := by decide +kernel
theorem dX12_keeps_20 : decode (mC mX12_keeps) 20 = .ok (.sipush 653, 3) := by decide +kernel
theorem dX12_keeps_23 : decode (mC mX12_keeps) 23 = .ok (.iaload, 1) := by decide +kernel
theorem dX12_keeps_24 : decode (mC mX12_keeps) 24 = .ok (.if_icmp .ge 262, 3) := by decide +kernel
theorem dX12_keeps_27 : decode (mC mX12_keeps) 27 = .ok (.aload_n 0, 1) := by decide +kernel
theorem dX12_keeps_28 : decode (mC mX12_keeps) 28 = .ok (.getfield 13, 3) := by decide +kernel
theorem dX12_keeps_31 : decode (mC mX12_keeps) 31 = .ok (.sipush 654, 3) := by decide +kernel
theorem dX12_keeps_34 : decode (mC mX12_keeps) 34 = .ok (.iconst 2, 1) := by decide +kernel
theorem dX12_keeps_35 : decode (mC mX12_keeps) 35 = .ok (.iload 5, 2) := by decide +kernel
theorem dX12_keeps_37 : decode (mC mX12_keeps) 37 = .ok (.imul, 1) := by decide +kernel
theorem dX12_keeps_38 : decode (mC mX12_keeps) 38 = .ok (.iadd, 1) := by decide +kernel
theorem dX12_keeps_39 : decode (mC mX12_keeps) 39 = .ok (.iaload, 1) := by decide +kernel
theorem dX12_keeps_40 : decode (mC mX12_keeps) 40 = .ok (.istore 6, 2) := by decide +kernel
theorem dX12_keeps_42 : decode (mC mX12_keeps) 42 = .ok (.iload 6, 2) := by decide +kernel
theorem dX12_keeps_44 : decode (mC mX12_keeps) 44 = .ok (.iconst 3, 1) := by decide +kernel
theorem dX12_keeps_45 : decode (mC mX12_keeps) 45 = .ok (.if_icmp .gt 60, 3) := by decide +kernel
theorem dX12_keeps_48 : decode (mC mX12_keeps) 48 = .ok (.aload_n 0, 1) := by decide +kernel
theorem dX12_keeps_49 : decode (mC mX12_keeps) 49 = .ok (.getfield 36, 3) := by decide +kernel
theorem dX12_keeps_52 : decode (mC mX12_keeps) 52 = .ok (.iload 4, 2) := by decide +kernel
theorem dX12_keeps_54 : decode (mC mX12_keeps) 54 = .ok (.iload 6, 2) := by decide +kernel
theorem dX12_keeps_56 : decode (mC mX12_keeps) 56 = .ok (.ifCond .ne 21, 3) := by decide +kernel
theorem dX12_keeps_59 : decode (mC mX12_keeps) 59 = .ok (.aload_n 0, 1) := by decide +kernel
theorem dX12_keeps_60 : decode (mC mX12_keeps) 60 = .ok (.getfield 13, 3) := by decide +kernel
theorem dX12_keeps_63 : decode (mC mX12_keeps) 63 = .ok (.sipush 654, 3) := by decide +kernel
theorem dX12_keeps_66 : decode (mC mX12_keeps) 66 = .ok (.iconst 2, 1) := by decide +kernel
theorem dX12_keeps_67 : decode (mC mX12_keeps) 67 = .ok (.iload 5, 2) := by decide +kernel
theorem dX12_keeps_69 : decode (mC mX12_keeps) 69 = .ok (.imul, 1) := by decide +kernel
theorem dX12_keeps_70 : decode (mC mX12_keeps) 70 = .ok (.iadd, 1) := by decide +kernel
theorem dX12_keeps_71 : decode (mC mX12_keeps) 71 = .ok (.iconst 1, 1) := by decide +kernel
theorem dX12_keeps_72 : decode (mC mX12_keeps) 72 = .ok (.iadd, 1) := by decide +kernel
theorem dX12_keeps_73 : decode (mC mX12_keeps) 73 = .ok (.iaload, 1) := by decide +kernel
theorem dX12_keeps_74 : decode (mC mX12_keeps) 74 = .ok (.goto 24, 3) := by decide +kernel
theorem dX12_keeps_77 : decode (mC mX12_keeps) 77 = .ok (.iload 6, 2) := by decide +kernel
theorem dX12_keeps_79 : decode (mC mX12_keeps) 79 = .ok (.iconst 1, 1) := by decide +kernel
theorem dX12_keeps_80 : decode (mC mX12_keeps) 80 = .ok (.if_icmp .ne 7, 3) := by decide +kernel
theorem dX12_keeps_83 : decode (mC mX12_keeps) 83 = .ok (.iload_n 1, 1) := by decide +kernel
theorem dX12_keeps_84 : decode (mC mX12_keeps) 84 = .ok (.goto 14, 3) := by decide +kernel
theorem dX12_keeps_87 : decode (mC mX12_keeps) 87 = .ok (.iload 6, 2) := by decide +kernel
theorem dX12_keeps_89 : decode (mC mX12_keeps) 89 = .ok (.iconst 2, 1) := by decide +kernel
theorem dX12_keeps_90 : decode (mC mX12_keeps) 90 = .ok (.if_icmp .ne 7, 3) := by decide +kernel
theorem dX12_keeps_93 : decode (mC mX12_keeps) 93 = .ok (.iload_n 2, 1) := by decide +kernel
theorem dX12_keeps_94 : decode (mC mX12_keeps) 94 = .ok (.goto 4, 3) := by decide +kernel
theorem dX12_keeps_97 : decode (mC mX12_keeps) 97 = .ok (.iload_n 3, 1) := by decide +kernel
theorem dX12_keeps_98 : decode (mC mX12_keeps) 98 = .ok (.iastore, 1) := by decide +kernel
theorem dX12_keeps_99 : decode (mC mX12_keeps) 99 = .ok (.iinc 4 1, 3) := by decide +kernel
theorem dX12_keeps_102 : decode (mC mX12_keeps) 102 = .ok (.goto 178, 3) := by decide +kernel
theorem dX12_keeps_105 : decode (mC mX12_keeps) 105 = .ok (.iload 6, 2) := by decide +kernel
theorem dX12_keeps_107 : decode (mC mX12_keeps) 107 = .ok (.bipush 7, 2) := by decide +kernel
theorem dX12_keeps_109 : decode (mC mX12_keeps) 109 = .ok (.if_icmp .ne 26, 3) := by decide +kernel
theorem dX12_keeps_112 : decode (mC mX12_keeps) 112 = .ok (.aload_n 0, 1) := by decide +kernel
theorem dX12_keeps_113 : decode (mC mX12_keeps) 113 = .ok (.getfield 36, 3) := by decide +kernel
theorem dX12_keeps_116 : decode (mC mX12_keeps) 116 = .ok (.iload 4, 2) := by decide +kernel
theorem dX12_keeps_118 : decode (mC mX12_keeps) 118 = .ok (.iconst 1, 1) := by decide +kernel
theorem dX12_keeps_119 : decode (mC mX12_keeps) 119 = .ok (.isub, 1) := by decide +kernel
theorem dX12_keeps_120 : decode (mC mX12_keeps) 120 = .ok (.iconst 1, 1) := by decide +kernel
theorem dX12_keeps_121 : decode (mC mX12_keeps) 121 = .ok (.aload_n 0, 1) := by decide +kernel
theorem dX12_keeps_122 : decode (mC mX12_keeps) 122 = .ok (.getfield 36, 3) := by decide +kernel
theorem dX12_keeps_125 : decode (mC mX12_keeps) 125 = .ok (.iload 4, 2) := by decide +kernel
theorem dX12_keeps_127 : decode (mC mX12_keeps) 127 = .ok (.iconst 1, 1) := by decide +kernel
theorem dX12_keeps_128 : decode (mC mX12_keeps) 128 = .ok (.isub, 1) := by decide +kernel
theorem dX12_keeps_129 : decode (mC mX12_keeps) 129 = .ok (.iaload, 1) := by decide +kernel
theorem dX12_keeps_130 : decode (mC mX12_keeps) 130 = .ok (.isub, 1) := by decide +kernel
theorem dX12_keeps_131 : decode (mC mX12_keeps) 131 = .ok (.iastore, 1) := by decide +kernel
theorem dX12_keeps_132 : decode (mC mX12_keeps) 132 = .ok (.goto 148, 3) := by decide +kernel
theorem dX12_keeps_135 : decode (mC mX12_keeps) 135 = .ok (.iinc 4 (-1), 3) := by decide +kernel
theorem dX12_keeps_138 : decode (mC mX12_keeps) 138 = .ok (.aload_n 0, 1) := by decide +kernel
theorem dX12_keeps_139 : decode (mC mX12_keeps) 139 = .ok (.getfield 36, 3) := by decide +kernel
theorem dX12_keeps_142 : decode (mC mX12_keeps) 142 = .ok (.iload 4, 2) := by decide +kernel
theorem dX12_keeps_144 : decode (mC mX12_keeps) 144 = .ok (.iconst 1, 1) := by decide +kernel
theorem dX12_keeps_145 : decode (mC mX12_keeps) 145 = .ok (.isub, 1) := by decide +kernel
theorem dX12_keeps_146 : decode (mC mX12_keeps) 146 = .ok (.iaload, 1) := by decide +kernel
theorem dX12_keeps_147 : decode (mC mX12_keeps) 147 = .ok (.istore 7, 2) := by decide +kernel
theorem dX12_keeps_149 : decode (mC mX12_keeps) 149 = .ok (.aload_n 0, 1) := by decide +kernel
theorem dX12_keeps_150 : decode (mC mX12_keeps) 150 = .ok (.getfield 36, 3) := by decide +kernel
theorem dX12_keeps_153 : decode (mC mX12_keeps) 153 = .ok (.iload 4, 2) := by decide +kernel
theorem dX12_keeps_155 : decode (mC mX12_keeps) 155 = .ok (.iaload, 1) := by decide +kernel
theorem dX12_keeps_156 : decode (mC mX12_keeps) 156 = .ok (.istore 8, 2) := by decide +kernel
theorem dX12_keeps_158 : decode (mC mX12_keeps) 158 = .ok (.iload 6, 2) := by decide +kernel
theorem dX12_keeps_160 : decode (mC mX12_keeps) 160 = .ok (.iconst 4, 1) := by decide +kernel
theorem dX12_keeps_161 : decode (mC mX12_keeps) 161 = .ok (.if_icmp .ne 18, 3) := by decide +kernel
theorem dX12_keeps_164 : decode (mC mX12_keeps) 164 = .ok (.iload 7, 2) := by decide +kernel
theorem dX12_keeps_166 : decode (mC mX12_keeps) 166 = .ok (.iload 8, 2) := by decide +kernel
theorem dX12_keeps_168 : decode (mC mX12_keeps) 168 = .ok (.if_icmp .ge 7, 3) := by decide +kernel
theorem dX12_keeps_171 : decode (mC mX12_keeps) 171 = .ok (.iconst 1, 1) := by decide +kernel
theorem dX12_keeps_172 : decode (mC mX12_keeps) 172 = .ok (.goto 87, 3) := by decide +kernel
theorem dX12_keeps_175 : decode (mC mX12_keeps) 175 = .ok (.iconst 0, 1) := by decide +kernel
theorem dX12_keeps_176 : decode (mC mX12_keeps) 176 = .ok (.goto 83, 3) := by decide +kernel
theorem dX12_keeps_179 : decode (mC mX12_keeps) 179 = .ok (.iload 6, 2) := by decide +kernel
theorem dX12_keeps_181 : decode (mC mX12_keeps) 181 = .ok (.iconst 5, 1) := by decide +kernel
theorem dX12_keeps_182 : decode (mC mX12_keeps) 182 = .ok (.if_icmp .ne 18, 3) := by decide +kernel
theorem dX12_keeps_185 : decode (mC mX12_keeps) 185 = .ok (.iload 7, 2) := by decide +kernel
theorem dX12_keeps_187 : decode (mC mX12_keeps) 187 = .ok (.iload 8, 2) := by decide +kernel
theorem dX12_keeps_189 : decode (mC mX12_keeps) 189 = .ok (.if_icmp .le 7, 3) := by decide +kernel
theorem dX12_keeps_192 : decode (mC mX12_keeps) 192 = .ok (.iconst 1, 1) := by decide +kernel
theorem dX12_keeps_193 : decode (mC mX12_keeps) 193 = .ok (.goto 66, 3) := by decide +kernel
theorem dX12_keeps_196 : decode (mC mX12_keeps) 196 = .ok (.iconst 0, 1) := by decide +kernel
theorem dX12_keeps_197 : decode (mC mX12_keeps) 197 = .ok (.goto 62, 3) := by decide +kernel
theorem dX12_keeps_200 : decode (mC mX12_keeps) 200 = .ok (.iload 6, 2) := by decide +kernel
theorem dX12_keeps_202 : decode (mC mX12_keeps) 202 = .ok (.bipush 6, 2) := by decide +kernel
theorem dX12_keeps_204 : decode (mC mX12_keeps) 204 = .ok (.if_icmp .ne 18, 3) := by decide +kernel
theorem dX12_keeps_207 : decode (mC mX12_keeps) 207 = .ok (.iload 7, 2) := by decide +kernel
theorem dX12_keeps_209 : decode (mC mX12_keeps) 209 = .ok (.iload 8, 2) := by decide +kernel
theorem dX12_keeps_211 : decode (mC mX12_keeps) 211 = .ok (.if_icmp .ne 7, 3) := by decide +kernel
theorem dX12_keeps_214 : decode (mC mX12_keeps) 214 = .ok (.iconst 1, 1) := by decide +kernel
theorem dX12_keeps_215 : decode (mC mX12_keeps) 215 = .ok (.goto 44, 3) := by decide +kernel
theorem dX12_keeps_218 : decode (mC mX12_keeps) 218 = .ok (.iconst 0, 1) := by decide +kernel
theorem dX12_keeps_219 : decode (mC mX12_keeps) 219 = .ok (.goto 40, 3) := by decide +kernel
theorem dX12_keeps_222 : decode (mC mX12_keeps) 222 = .ok (.iload 6, 2) := by decide +kernel
theorem dX12_keeps_224 : decode (mC mX12_keeps) 224 = .ok (.bipush 8, 2) := by decide +kernel
theorem dX12_keeps_226 : decode (mC mX12_keeps) 226 = .ok (.if_icmp .ne 20, 3) := by decide +kernel
theorem dX12_keeps_229 : decode (mC mX12_keeps) 229 = .ok (.iload 7, 2) := by decide +kernel
theorem dX12_keeps_231 : decode (mC mX12_keeps) 231 = .ok (.iload 8, 2) := by decide +kernel
theorem dX12_keeps_233 : decode (mC mX12_keeps) 233 = .ok (.iadd, 1) := by decide +kernel
theorem dX12_keeps_234 : decode (mC mX12_keeps) 234 = .ok (.iconst 2, 1) := by decide +kernel
theorem dX12_keeps_235 : decode (mC mX12_keeps) 235 = .ok (.if_icmp .ne 7, 3) := by decide +kernel
theorem dX12_keeps_238 : decode (mC mX12_keeps) 238 = .ok (.iconst 1, 1) := by decide +kernel
theorem dX12_keeps_239 : decode (mC mX12_keeps) 239 = .ok (.goto 20, 3) := by decide +kernel
theorem dX12_keeps_242 : decode (mC mX12_keeps) 242 = .ok (.iconst 0, 1) := by decide +kernel
theorem dX12_keeps_243 : decode (mC mX12_keeps) 243 = .ok (.goto 16, 3) := by decide +kernel
theorem dX12_keeps_246 : decode (mC mX12_keeps) 246 = .ok (.iload 7, 2) := by decide +kernel
theorem dX12_keeps_248 : decode (mC mX12_keeps) 248 = .ok (.iload 8, 2) := by decide +kernel
theorem dX12_keeps_250 : decode (mC mX12_keeps) 250 = .ok (.iadd, 1) := by decide +kernel
theorem dX12_keeps_251 : decode (mC mX12_keeps) 251 = .ok (.ifCond .le 7, 3) := by decide +kernel
theorem dX12_keeps_254 : decode (mC mX12_keeps) 254 = .ok (.iconst 1, 1) := by decide +kernel
theorem dX12_keeps_255 : decode (mC mX12_keeps) 255 = .ok (.goto 4, 3) := by decide +kernel
theorem dX12_keeps_258 : decode (mC mX12_keeps) 258 = .ok (.iconst 0, 1) := by decide +kernel
theorem dX12_keeps_259 : decode (mC mX12_keeps) 259 = .ok (.istore 9, 2) := by decide +kernel
theorem dX12_keeps_261 : decode (mC mX12_keeps) 261 = .ok (.aload_n 0, 1) := by decide +kernel
theorem dX12_keeps_262 : decode (mC mX12_keeps) 262 = .ok (.getfield 36, 3) := by decide +kernel
theorem dX12_keeps_265 : decode (mC mX12_keeps) 265 = .ok (.iload 4, 2) := by decide +kernel
theorem dX12_keeps_267 : decode (mC mX12_keeps) 267 = .ok (.iconst 1, 1) := by decide +kernel
theorem dX12_keeps_268 : decode (mC mX12_keeps) 268 = .ok (.isub, 1) := by decide +kernel
theorem dX12_keeps_269 : decode (mC mX12_keeps) 269 = .ok (.iload 9, 2) := by decide +kernel
theorem dX12_keeps_271 : decode (mC mX12_keeps) 271 = .ok (.ifCond .eq 7, 3) := by decide +kernel
theorem dX12_keeps_274 : decode (mC mX12_keeps) 274 = .ok (.iconst 1, 1) := by decide +kernel
theorem dX12_keeps_275 : decode (mC mX12_keeps) 275 = .ok (.goto 4, 3) := by decide +kernel
theorem dX12_keeps_278 : decode (mC mX12_keeps) 278 = .ok (.iconst 0, 1) := by decide +kernel
theorem dX12_keeps_279 : decode (mC mX12_keeps) 279 = .ok (.iastore, 1) := by decide +kernel
theorem dX12_keeps_280 : decode (mC mX12_keeps) 280 = .ok (.iinc 5 1, 3) := by decide +kernel
theorem dX12_keeps_283 : decode (mC mX12_keeps) 283 = .ok (.goto (-269), 3) := by decide +kernel
theorem dX12_keeps_286 : decode (mC mX12_keeps) 286 = .ok (.aload_n 0, 1) := by decide +kernel
theorem dX12_keeps_287 : decode (mC mX12_keeps) 287 = .ok (.getfield 36, 3) := by decide +kernel
theorem dX12_keeps_290 : decode (mC mX12_keeps) 290 = .ok (.iconst 0, 1) := by decide +kernel
theorem dX12_keeps_291 : decode (mC mX12_keeps) 291 = .ok (.iaload, 1) := by decide +kernel
theorem dX12_keeps_292 : decode (mC mX12_keeps) 292 = .ok (.iconst 1, 1) := by decide +kernel
theorem dX12_keeps_293 : decode (mC mX12_keeps) 293 = .ok (.if_icmp .ne 7, 3) := by decide +kernel
theorem dX12_keeps_296 : decode (mC mX12_keeps) 296 = .ok (.iconst 1, 1) := by decide +kernel
theorem dX12_keeps_297 : decode (mC mX12_keeps) 297 = .ok (.goto 4, 3) := by decide +kernel
theorem dX12_keeps_300 : decode (mC mX12_keeps) 300 = .ok (.iconst 0, 1) := by decide +kernel
theorem dX12_keeps_301 : decode (mC mX12_keeps) 301 = .ok (.ireturn, 1) := by decide +kernel
set_option maxRecDepth 100000 in
theorem bX12_keeps_0 {sc : Nat × (Nat → Int32)} {h : jH} {Q : jQ} {l1 l2 l3 : Int32}
    (v1 : l1 ≤ 999999 → WP mX12_keeps Q 8 [some (.ref 159), some (.int l1), some (.int l2), some (.int l3), none, none, none, none, none, none] [] (jG0 sc) h (0, 0))
    (v2 : ¬ l1 ≤ 999999 → WP mX12_keeps Q 6 [some (.ref 159), some (.int l1), some (.int l2), some (.int l3), none, none, none, none, none, none] [] (jG0 sc) h (0, 0)) :
    WP mX12_keeps Q 0 [some (.ref 159), some (.int l1), some (.int l2), some (.int l3), none, none, none, none, none, none] [] (jG0 sc) h (0, 0) := by
  refine j_iload_n (i := 1) rfl dX12_keeps_0 ?_
  refine j_ldc (idx := 205) 999999 (show (jCn 12, 205, 999999) ∈ jCT by decide) dX12_keeps_1 ?_
  refine j_icmp_le (off := 5) 8 dX12_keeps_3 (by decide) (fun c1 => ?_) (fun c1 => ?_)
  · exact j_le [some (.ref 159), some (.int l1), some (.int l2), some (.int l3), none, none, none, none, none, none] (And.intro rfl (And.intro rfl (And.intro rfl (And.intro rfl True.intro)))) (v1 c1)
  · exact j_le [some (.ref 159), some (.int l1), some (.int l2), some (.int l3), none, none, none, none, none, none] (And.intro rfl (And.intro rfl (And.intro rfl (And.intro rfl True.intro)))) (v2 c1)
set_option maxRecDepth 100000 in
theorem bX12_keeps_6 {sc : Nat × (Nat → Int32)} {h : jH} {Q : jQ} {l1 l2 l3 : Int32}
    (v1 : Q (.inl (some (.int 0))) (jG0 sc) h) :
    WP mX12_keeps Q 6 [some (.ref 159), some (.int l1), some (.int l2), some (.int l3), none, none, none, none, none, none] [] (jG0 sc) h (0, 0) := by
  refine j_iconst (n := 0) 0 (by decide) dX12_keeps_6 ?_
  exact j_iret rfl rfl (Nat.zero_le _) (Nat.zero_le _) dX12_keeps_7 v1
set_option maxRecDepth 100000 in
theorem bX12_keeps_8 {sc : Nat × (Nat → Int32)} {h : jH} {Q : jQ} {l1 l2 l3 : Int32}
    (v1 : WP mX12_keeps Q 14 [some (.ref 159), some (.int l1), some (.int l2), some (.int l3), some (.int 0), some (.int 0), none, none, none, none] [] (jG0 sc) h (0, 0)) :
    WP mX12_keeps Q 8 [some (.ref 159), some (.int l1), some (.int l2), some (.int l3), none, none, none, none, none, none] [] (jG0 sc) h (0, 0) := by
  refine j_iconst (n := 0) 0 (by decide) dX12_keeps_8 ?_
  refine j_istore (i := 4) dX12_keeps_9 (Nat.le_of_ble_eq_true rfl) ?_
  refine j_iconst (n := 0) 0 (by decide) dX12_keeps_11 ?_
  refine j_istore (i := 5) dX12_keeps_12 (Nat.le_of_ble_eq_true rfl) ?_
  exact j_le [some (.ref 159), some (.int l1), some (.int l2), some (.int l3), some (.int 0), some (.int 0), none, none, none, none] (And.intro rfl (And.intro rfl (And.intro rfl (And.intro rfl (And.intro rfl (And.intro rfl True.intro)))))) v1
set_option maxRecDepth 100000 in
theorem bX12_keeps_14 {sc : Nat × (Nat → Int32)} {h : jH} {Q : jQ} {l1 l2 l3 l4 l5 : Int32}
    (v1 : (h 160 653) ≤ l5 → WP mX12_keeps Q 286 [some (.ref 159), some (.int l1), some (.int l2), some (.int l3), some (.int l4), some (.int l5), none, none, none, none] [] (jG0 sc) h (0, 0))
    (v2 : ¬ (h 160 653) ≤ l5 → WP mX12_keeps Q 27 [some (.ref 159), some (.int l1), some (.int l2), some (.int l3), some (.int l4), some (.int l5), none, none, none, none] [] (jG0 sc) h (0, 0)) :
    WP mX12_keeps Q 14 [some (.ref 159), some (.int l1), some (.int l2), some (.int l3), some (.int l4), some (.int l5), none, none, none, none] [] (jG0 sc) h (0, 0) := by
  refine j_iload (i := 5) rfl dX12_keeps_14 ?_
  refine j_aload_n (i := 0) rfl dX12_keeps_16 ?_
  refine j_getR (idx := 13) (ci := 12) (k := 1) (nest := false) (show (12, 13, 12, 1, false) ∈ jFT by decide) rfl (Nat.le_of_ble_eq_true rfl) rfl (a := 160) rfl dX12_keeps_17 ?_
  refine j_sipush (n := 653) 653 (by decide) dX12_keeps_20 ?_
  refine j_iald (Nat.le_of_ble_eq_true rfl) rfl (jinl (n := 1454) (by decide)) dX12_keeps_23 ?_
  refine j_eqst [.int (h 160 653), .int l5] (by rfl) ?_
  refine j_icmp_ge (off := 262) 286 dX12_keeps_24 (by decide) (fun c1 => ?_) (fun c1 => ?_)
  · exact j_le [some (.ref 159), some (.int l1), some (.int l2), some (.int l3), some (.int l4), some (.int l5), none, none, none, none] (And.intro rfl (And.intro rfl (And.intro rfl (And.intro rfl (And.intro rfl (And.intro rfl True.intro)))))) (v1 c1)
  · exact j_le [some (.ref 159), some (.int l1), some (.int l2), some (.int l3), some (.int l4), some (.int l5), none, none, none, none] (And.intro rfl (And.intro rfl (And.intro rfl (And.intro rfl (And.intro rfl (And.intro rfl True.intro)))))) (v2 c1)
set_option maxRecDepth 100000 in
theorem bX12_keeps_27 {sc : Nat × (Nat → Int32)} {h : jH} {Q : jQ} {l1 l2 l3 l4 l5 : Int32}
    (o1 : vp_in (654 + (2 * l5)) 1454)
    (v1 : 3 < (h 160 ((654 + (2 * l5)).toNatClampNeg)) → WP mX12_keeps Q 105 [some (.ref 159), some (.int l1), some (.int l2), some (.int l3), some (.int l4), some (.int l5), some (.int (h 160 ((654 + (2 * l5)).toNatClampNeg))), none, none, none] [] (jG0 sc) h (0, 0))
    (v2 : ¬ 3 < (h 160 ((654 + (2 * l5)).toNatClampNeg)) → WP mX12_keeps Q 48 [some (.ref 159), some (.int l1), some (.int l2), some (.int l3), some (.int l4), some (.int l5), some (.int (h 160 ((654 + (2 * l5)).toNatClampNeg))), none, none, none] [] (jG0 sc) h (0, 0)) :
    WP mX12_keeps Q 27 [some (.ref 159), some (.int l1), some (.int l2), some (.int l3), some (.int l4), some (.int l5), none, none, none, none] [] (jG0 sc) h (0, 0) := by
  refine j_aload_n (i := 0) rfl dX12_keeps_27 ?_
  refine j_getR (idx := 13) (ci := 12) (k := 1) (nest := false) (show (12, 13, 12, 1, false) ∈ jFT by decide) rfl (Nat.le_of_ble_eq_true rfl) rfl (a := 160) rfl dX12_keeps_28 ?_
  refine j_sipush (n := 654) 654 (by decide) dX12_keeps_31 ?_
  refine j_iconst (n := 2) 2 (by decide) dX12_keeps_34 ?_
  refine j_iload (i := 5) rfl dX12_keeps_35 ?_
  refine j_imul dX12_keeps_37 ?_
  refine j_iadd dX12_keeps_38 ?_
  refine j_iald (Nat.le_of_ble_eq_true rfl) rfl o1 dX12_keeps_39 ?_
  refine j_istore (i := 6) dX12_keeps_40 (Nat.le_of_ble_eq_true rfl) ?_
  refine j_iload (i := 6) rfl dX12_keeps_42 ?_
  refine j_iconst (n := 3) 3 (by decide) dX12_keeps_44 ?_
  refine j_icmp_gt (off := 60) 105 dX12_keeps_45 (by decide) (fun c1 => ?_) (fun c1 => ?_)
  · exact j_le [some (.ref 159), some (.int l1), some (.int l2), some (.int l3), some (.int l4), some (.int l5), some (.int (h 160 ((654 + (2 * l5)).toNatClampNeg))), none, none, none] (And.intro rfl (And.intro rfl (And.intro rfl (And.intro rfl (And.intro rfl (And.intro rfl (And.intro rfl True.intro))))))) (v1 c1)
  · exact j_le [some (.ref 159), some (.int l1), some (.int l2), some (.int l3), some (.int l4), some (.int l5), some (.int (h 160 ((654 + (2 * l5)).toNatClampNeg))), none, none, none] (And.intro rfl (And.intro rfl (And.intro rfl (And.intro rfl (And.intro rfl (And.intro rfl (And.intro rfl True.intro))))))) (v2 c1)
set_option maxRecDepth 100000 in
theorem bX12_keeps_48 {sc : Nat × (Nat → Int32)} {h : jH} {Q : jQ} {l1 l2 l3 l4 l5 l6 : Int32}
    (v1 : ¬ l6 = 0 → WP mX12_keeps Q 77 [some (.ref 159), some (.int l1), some (.int l2), some (.int l3), some (.int l4), some (.int l5), some (.int l6), none, none, none] [.int l4, .ref 166] (jG0 sc) h (0, 0))
    (v2 : l6 = 0 → WP mX12_keeps Q 59 [some (.ref 159), some (.int l1), some (.int l2), some (.int l3), some (.int l4), some (.int l5), some (.int l6), none, none, none] [.int l4, .ref 166] (jG0 sc) h (0, 0)) :
    WP mX12_keeps Q 48 [some (.ref 159), some (.int l1), some (.int l2), some (.int l3), some (.int l4), some (.int l5), some (.int l6), none, none, none] [] (jG0 sc) h (0, 0) := by
  refine j_aload_n (i := 0) rfl dX12_keeps_48 ?_
  refine j_getR (idx := 36) (ci := 12) (k := 15) (nest := false) (show (12, 36, 12, 15, false) ∈ jFT by decide) rfl (Nat.le_of_ble_eq_true rfl) rfl (a := 166) rfl dX12_keeps_49 ?_
  refine j_iload (i := 4) rfl dX12_keeps_52 ?_
  refine j_iload (i := 6) rfl dX12_keeps_54 ?_
  refine j_if_ne (off := 21) 77 dX12_keeps_56 (by decide) (fun c1 => ?_) (fun c1 => ?_)
  · exact j_le [some (.ref 159), some (.int l1), some (.int l2), some (.int l3), some (.int l4), some (.int l5), some (.int l6), none, none, none] (And.intro rfl (And.intro rfl (And.intro rfl (And.intro rfl (And.intro rfl (And.intro rfl (And.intro rfl True.intro))))))) (v1 c1)
  · exact j_le [some (.ref 159), some (.int l1), some (.int l2), some (.int l3), some (.int l4), some (.int l5), some (.int l6), none, none, none] (And.intro rfl (And.intro rfl (And.intro rfl (And.intro rfl (And.intro rfl (And.intro rfl (And.intro rfl True.intro))))))) (v2 c1)
set_option maxRecDepth 100000 in
theorem bX12_keeps_59 {sc : Nat × (Nat → Int32)} {h : jH} {Q : jQ} {l1 l2 l3 l4 l5 l6 s0 : Int32}
    (o1 : vp_in ((654 + (2 * l5)) + 1) 1454)
    (v1 : WP mX12_keeps Q 98 [some (.ref 159), some (.int l1), some (.int l2), some (.int l3), some (.int l4), some (.int l5), some (.int l6), none, none, none] [.int (h 160 (((654 + (2 * l5)) + 1).toNatClampNeg)), .int s0, .ref 166] (jG0 sc) h (0, 0)) :
    WP mX12_keeps Q 59 [some (.ref 159), some (.int l1), some (.int l2), some (.int l3), some (.int l4), some (.int l5), some (.int l6), none, none, none] [.int s0, .ref 166] (jG0 sc) h (0, 0) := by
  refine j_aload_n (i := 0) rfl dX12_keeps_59 ?_
  refine j_getR (idx := 13) (ci := 12) (k := 1) (nest := false) (show (12, 13, 12, 1, false) ∈ jFT by decide) rfl (Nat.le_of_ble_eq_true rfl) rfl (a := 160) rfl dX12_keeps_60 ?_
  refine j_sipush (n := 654) 654 (by decide) dX12_keeps_63 ?_
  refine j_iconst (n := 2) 2 (by decide) dX12_keeps_66 ?_
  refine j_iload (i := 5) rfl dX12_keeps_67 ?_
  refine j_imul dX12_keeps_69 ?_
  refine j_iadd dX12_keeps_70 ?_
  refine j_iconst (n := 1) 1 (by decide) dX12_keeps_71 ?_
  refine j_iadd dX12_keeps_72 ?_
  refine j_iald (Nat.le_of_ble_eq_true rfl) rfl o1 dX12_keeps_73 ?_
  refine j_goto (off := 24) 98 dX12_keeps_74 (by decide) ?_
  exact j_le [some (.ref 159), some (.int l1), some (.int l2), some (.int l3), some (.int l4), some (.int l5), some (.int l6), none, none, none] (And.intro rfl (And.intro rfl (And.intro rfl (And.intro rfl (And.intro rfl (And.intro rfl (And.intro rfl True.intro))))))) v1
set_option maxRecDepth 100000 in
theorem bX12_keeps_77 {sc : Nat × (Nat → Int32)} {h : jH} {Q : jQ} {l1 l2 l3 l4 l5 l6 s0 : Int32}
    (v1 : ¬ l6 = 1 → WP mX12_keeps Q 87 [some (.ref 159), some (.int l1), some (.int l2), some (.int l3), some (.int l4), some (.int l5), some (.int l6), none, none, none] [.int s0, .ref 166] (jG0 sc) h (0, 0))
    (v2 : l6 = 1 → WP mX12_keeps Q 83 [some (.ref 159), some (.int l1), some (.int l2), some (.int l3), some (.int l4), some (.int l5), some (.int l6), none, none, none] [.int s0, .ref 166] (jG0 sc) h (0, 0)) :
    WP mX12_keeps Q 77 [some (.ref 159), some (.int l1), some (.int l2), some (.int l3), some (.int l4), some (.int l5), some (.int l6), none, none, none] [.int s0, .ref 166] (jG0 sc) h (0, 0) := by
  refine j_iload (i := 6) rfl dX12_keeps_77 ?_
  refine j_iconst (n := 1) 1 (by decide) dX12_keeps_79 ?_
  refine j_icmp_ne (off := 7) 87 dX12_keeps_80 (by decide) (fun c1 => ?_) (fun c1 => ?_)
  · exact j_le [some (.ref 159), some (.int l1), some (.int l2), some (.int l3), some (.int l4), some (.int l5), some (.int l6), none, none, none] (And.intro rfl (And.intro rfl (And.intro rfl (And.intro rfl (And.intro rfl (And.intro rfl (And.intro rfl True.intro))))))) (v1 c1)
  · exact j_le [some (.ref 159), some (.int l1), some (.int l2), some (.int l3), some (.int l4), some (.int l5), some (.int l6), none, none, none] (And.intro rfl (And.intro rfl (And.intro rfl (And.intro rfl (And.intro rfl (And.intro rfl (And.intro rfl True.intro))))))) (v2 c1)
set_option maxRecDepth 100000 in
theorem bX12_keeps_83 {sc : Nat × (Nat → Int32)} {h : jH} {Q : jQ} {l1 l2 l3 l4 l5 l6 s0 : Int32}
    (v1 : WP mX12_keeps Q 98 [some (.ref 159), some (.int l1), some (.int l2), some (.int l3), some (.int l4), some (.int l5), some (.int l6), none, none, none] [.int l1, .int s0, .ref 166] (jG0 sc) h (0, 0)) :
    WP mX12_keeps Q 83 [some (.ref 159), some (.int l1), some (.int l2), some (.int l3), some (.int l4), some (.int l5), some (.int l6), none, none, none] [.int s0, .ref 166] (jG0 sc) h (0, 0) := by
  refine j_iload_n (i := 1) rfl dX12_keeps_83 ?_
  refine j_goto (off := 14) 98 dX12_keeps_84 (by decide) ?_
  exact j_le [some (.ref 159), some (.int l1), some (.int l2), some (.int l3), some (.int l4), some (.int l5), some (.int l6), none, none, none] (And.intro rfl (And.intro rfl (And.intro rfl (And.intro rfl (And.intro rfl (And.intro rfl (And.intro rfl True.intro))))))) v1
set_option maxRecDepth 100000 in
theorem bX12_keeps_87 {sc : Nat × (Nat → Int32)} {h : jH} {Q : jQ} {l1 l2 l3 l4 l5 l6 s0 : Int32}
    (v1 : ¬ l6 = 2 → WP mX12_keeps Q 97 [some (.ref 159), some (.int l1), some (.int l2), some (.int l3), some (.int l4), some (.int l5), some (.int l6), none, none, none] [.int s0, .ref 166] (jG0 sc) h (0, 0))
    (v2 : l6 = 2 → WP mX12_keeps Q 93 [some (.ref 159), some (.int l1), some (.int l2), some (.int l3), some (.int l4), some (.int l5), some (.int l6), none, none, none] [.int s0, .ref 166] (jG0 sc) h (0, 0)) :
    WP mX12_keeps Q 87 [some (.ref 159), some (.int l1), some (.int l2), some (.int l3), some (.int l4), some (.int l5), some (.int l6), none, none, none] [.int s0, .ref 166] (jG0 sc) h (0, 0) := by
  refine j_iload (i := 6) rfl dX12_keeps_87 ?_
  refine j_iconst (n := 2) 2 (by decide) dX12_keeps_89 ?_
  refine j_icmp_ne (off := 7) 97 dX12_keeps_90 (by decide) (fun c1 => ?_) (fun c1 => ?_)
  · exact j_le [some (.ref 159), some (.int l1), some (.int l2), some (.int l3), some (.int l4), some (.int l5), some (.int l6), none, none, none] (And.intro rfl (And.intro rfl (And.intro rfl (And.intro rfl (And.intro rfl (And.intro rfl (And.intro rfl True.intro))))))) (v1 c1)
  · exact j_le [some (.ref 159), some (.int l1), some (.int l2), some (.int l3), some (.int l4), some (.int l5), some (.int l6), none, none, none] (And.intro rfl (And.intro rfl (And.intro rfl (And.intro rfl (And.intro rfl (And.intro rfl (And.intro rfl True.intro))))))) (v2 c1)
set_option maxRecDepth 100000 in
theorem bX12_keeps_93 {sc : Nat × (Nat → Int32)} {h : jH} {Q : jQ} {l1 l2 l3 l4 l5 l6 s0 : Int32}
    (v1 : WP mX12_keeps Q 98 [some (.ref 159), some (.int l1), some (.int l2), some (.int l3), some (.int l4), some (.int l5), some (.int l6), none, none, none] [.int l2, .int s0, .ref 166] (jG0 sc) h (0, 0)) :
    WP mX12_keeps Q 93 [some (.ref 159), some (.int l1), some (.int l2), some (.int l3), some (.int l4), some (.int l5), some (.int l6), none, none, none] [.int s0, .ref 166] (jG0 sc) h (0, 0) := by
  refine j_iload_n (i := 2) rfl dX12_keeps_93 ?_
  refine j_goto (off := 4) 98 dX12_keeps_94 (by decide) ?_
  exact j_le [some (.ref 159), some (.int l1), some (.int l2), some (.int l3), some (.int l4), some (.int l5), some (.int l6), none, none, none] (And.intro rfl (And.intro rfl (And.intro rfl (And.intro rfl (And.intro rfl (And.intro rfl (And.intro rfl True.intro))))))) v1
set_option maxRecDepth 100000 in
theorem bX12_keeps_97 {sc : Nat × (Nat → Int32)} {h : jH} {Q : jQ} {l1 l2 l3 l4 l5 l6 s0 : Int32}
    (v1 : WP mX12_keeps Q 98 [some (.ref 159), some (.int l1), some (.int l2), some (.int l3), some (.int l4), some (.int l5), some (.int l6), none, none, none] [.int l3, .int s0, .ref 166] (jG0 sc) h (0, 0)) :
    WP mX12_keeps Q 97 [some (.ref 159), some (.int l1), some (.int l2), some (.int l3), some (.int l4), some (.int l5), some (.int l6), none, none, none] [.int s0, .ref 166] (jG0 sc) h (0, 0) := by
  refine j_iload_n (i := 3) rfl dX12_keeps_97 ?_
  exact j_le [some (.ref 159), some (.int l1), some (.int l2), some (.int l3), some (.int l4), some (.int l5), some (.int l6), none, none, none] (And.intro rfl (And.intro rfl (And.intro rfl (And.intro rfl (And.intro rfl (And.intro rfl (And.intro rfl True.intro))))))) v1
set_option maxRecDepth 100000 in
theorem bX12_keeps_98 {sc : Nat × (Nat → Int32)} {h : jH} {Q : jQ} {l1 l2 l3 l4 l5 l6 s0 s1 : Int32}
    (o1 : vp_in s1 400)
    (v1 : WP mX12_keeps Q 280 [some (.ref 159), some (.int l1), some (.int l2), some (.int l3), some (.int (l4 + 1)), some (.int l5), some (.int l6), none, none, none] [] (jG0 sc) (jput h 166 s1.toNatClampNeg s0) (0, 0)) :
    WP mX12_keeps Q 98 [some (.ref 159), some (.int l1), some (.int l2), some (.int l3), some (.int l4), some (.int l5), some (.int l6), none, none, none] [.int s0, .int s1, .ref 166] (jG0 sc) h (0, 0) := by
  refine j_iast (Nat.le_of_ble_eq_true rfl) rfl o1 dX12_keeps_98 ?_
  refine j_iinc (i := 4) (n := 1) rfl dX12_keeps_99 (Nat.le_of_ble_eq_true rfl) ?_
  refine j_eqlv [some (.ref 159), some (.int l1), some (.int l2), some (.int l3), some (.int (l4 + 1)), some (.int l5), some (.int l6), none, none, none] rfl ?_
  refine j_goto (off := 178) 280 dX12_keeps_102 (by decide) ?_
  exact j_le [some (.ref 159), some (.int l1), some (.int l2), some (.int l3), some (.int (l4 + 1)), some (.int l5), some (.int l6), none, none, none] (And.intro rfl (And.intro rfl (And.intro rfl (And.intro rfl (And.intro rfl (And.intro rfl (And.intro rfl True.intro))))))) v1
set_option maxRecDepth 100000 in
theorem bX12_keeps_105 {sc : Nat × (Nat → Int32)} {h : jH} {Q : jQ} {l1 l2 l3 l4 l5 l6 : Int32}
    (v1 : ¬ l6 = 7 → WP mX12_keeps Q 135 [some (.ref 159), some (.int l1), some (.int l2), some (.int l3), some (.int l4), some (.int l5), some (.int l6), none, none, none] [] (jG0 sc) h (0, 0))
    (v2 : l6 = 7 → WP mX12_keeps Q 112 [some (.ref 159), some (.int l1), some (.int l2), some (.int l3), some (.int l4), some (.int l5), some (.int l6), none, none, none] [] (jG0 sc) h (0, 0)) :
    WP mX12_keeps Q 105 [some (.ref 159), some (.int l1), some (.int l2), some (.int l3), some (.int l4), some (.int l5), some (.int l6), none, none, none] [] (jG0 sc) h (0, 0) := by
  refine j_iload (i := 6) rfl dX12_keeps_105 ?_
  refine j_bipush (n := 7) 7 (by decide) dX12_keeps_107 ?_
  refine j_icmp_ne (off := 26) 135 dX12_keeps_109 (by decide) (fun c1 => ?_) (fun c1 => ?_)
  · exact j_le [some (.ref 159), some (.int l1), some (.int l2), some (.int l3), some (.int l4), some (.int l5), some (.int l6), none, none, none] (And.intro rfl (And.intro rfl (And.intro rfl (And.intro rfl (And.intro rfl (And.intro rfl (And.intro rfl True.intro))))))) (v1 c1)
  · exact j_le [some (.ref 159), some (.int l1), some (.int l2), some (.int l3), some (.int l4), some (.int l5), some (.int l6), none, none, none] (And.intro rfl (And.intro rfl (And.intro rfl (And.intro rfl (And.intro rfl (And.intro rfl (And.intro rfl True.intro))))))) (v2 c1)
set_option maxRecDepth 100000 in
theorem bX12_keeps_112 {sc : Nat × (Nat → Int32)} {h : jH} {Q : jQ} {l1 l2 l3 l4 l5 l6 : Int32}
    (o1 : vp_in (l4 - 1) 400)
    (o2 : vp_in (l4 - 1) 400)
    (v1 : WP mX12_keeps Q 280 [some (.ref 159), some (.int l1), some (.int l2), some (.int l3), some (.int l4), some (.int l5), some (.int l6), none, none, none] [] (jG0 sc) (jput h 166 ((l4 - 1).toNatClampNeg) (1 - (h 166 ((l4 - 1).toNatClampNeg)))) (0, 0)) :
    WP mX12_keeps Q 112 [some (.ref 159), some (.int l1), some (.int l2), some (.int l3), some (.int l4), some (.int l5), some (.int l6), none, none, none] [] (jG0 sc) h (0, 0) := by
  refine j_aload_n (i := 0) rfl dX12_keeps_112 ?_
  refine j_getR (idx := 36) (ci := 12) (k := 15) (nest := false) (show (12, 36, 12, 15, false) ∈ jFT by decide) rfl (Nat.le_of_ble_eq_true rfl) rfl (a := 166) rfl dX12_keeps_113 ?_
  refine j_iload (i := 4) rfl dX12_keeps_116 ?_
  refine j_iconst (n := 1) 1 (by decide) dX12_keeps_118 ?_
  refine j_isub dX12_keeps_119 ?_
  refine j_iconst (n := 1) 1 (by decide) dX12_keeps_120 ?_
  refine j_aload_n (i := 0) rfl dX12_keeps_121 ?_
  refine j_getR (idx := 36) (ci := 12) (k := 15) (nest := false) (show (12, 36, 12, 15, false) ∈ jFT by decide) rfl (Nat.le_of_ble_eq_true rfl) rfl (a := 166) rfl dX12_keeps_122 ?_
  refine j_iload (i := 4) rfl dX12_keeps_125 ?_
  refine j_iconst (n := 1) 1 (by decide) dX12_keeps_127 ?_
  refine j_isub dX12_keeps_128 ?_
  refine j_iald (Nat.le_of_ble_eq_true rfl) rfl o1 dX12_keeps_129 ?_
  refine j_isub dX12_keeps_130 ?_
  refine j_iast (Nat.le_of_ble_eq_true rfl) rfl o2 dX12_keeps_131 ?_
  refine j_goto (off := 148) 280 dX12_keeps_132 (by decide) ?_
  exact j_le [some (.ref 159), some (.int l1), some (.int l2), some (.int l3), some (.int l4), some (.int l5), some (.int l6), none, none, none] (And.intro rfl (And.intro rfl (And.intro rfl (And.intro rfl (And.intro rfl (And.intro rfl (And.intro rfl True.intro))))))) v1
set_option maxRecDepth 100000 in
theorem bX12_keeps_135 {sc : Nat × (Nat → Int32)} {h : jH} {Q : jQ} {l1 l2 l3 l4 l5 l6 : Int32}
    (o1 : vp_in ((l4 + (-1)) - 1) 400)
    (o2 : vp_in (l4 + (-1)) 400)
    (v1 : ¬ l6 = 4 → WP mX12_keeps Q 179 [some (.ref 159), some (.int l1), some (.int l2), some (.int l3), some (.int (l4 + (-1))), some (.int l5), some (.int l6), some (.int (h 166 (((l4 + (-1)) - 1).toNatClampNeg))), some (.int (h 166 ((l4 + (-1)).toNatClampNeg))), none] [] (jG0 sc) h (0, 0))
    (v2 : l6 = 4 → WP mX12_keeps Q 164 [some (.ref 159), some (.int l1), some (.int l2), some (.int l3), some (.int (l4 + (-1))), some (.int l5), some (.int l6), some (.int (h 166 (((l4 + (-1)) - 1).toNatClampNeg))), some (.int (h 166 ((l4 + (-1)).toNatClampNeg))), none] [] (jG0 sc) h (0, 0)) :
    WP mX12_keeps Q 135 [some (.ref 159), some (.int l1), some (.int l2), some (.int l3), some (.int l4), some (.int l5), some (.int l6), none, none, none] [] (jG0 sc) h (0, 0) := by
  refine j_iinc (i := 4) (n := -1) rfl dX12_keeps_135 (Nat.le_of_ble_eq_true rfl) ?_
  refine j_eqlv [some (.ref 159), some (.int l1), some (.int l2), some (.int l3), some (.int (l4 + (-1))), some (.int l5), some (.int l6), none, none, none] rfl ?_
  refine j_aload_n (i := 0) rfl dX12_keeps_138 ?_
  refine j_getR (idx := 36) (ci := 12) (k := 15) (nest := false) (show (12, 36, 12, 15, false) ∈ jFT by decide) rfl (Nat.le_of_ble_eq_true rfl) rfl (a := 166) rfl dX12_keeps_139 ?_
  refine j_iload (i := 4) rfl dX12_keeps_142 ?_
  refine j_iconst (n := 1) 1 (by decide) dX12_keeps_144 ?_
  refine j_isub dX12_keeps_145 ?_
  refine j_iald (Nat.le_of_ble_eq_true rfl) rfl o1 dX12_keeps_146 ?_
  refine j_istore (i := 7) dX12_keeps_147 (Nat.le_of_ble_eq_true rfl) ?_
  refine j_aload_n (i := 0) rfl dX12_keeps_149 ?_
  refine j_getR (idx := 36) (ci := 12) (k := 15) (nest := false) (show (12, 36, 12, 15, false) ∈ jFT by decide) rfl (Nat.le_of_ble_eq_true rfl) rfl (a := 166) rfl dX12_keeps_150 ?_
  refine j_iload (i := 4) rfl dX12_keeps_153 ?_
  refine j_iald (Nat.le_of_ble_eq_true rfl) rfl o2 dX12_keeps_155 ?_
  refine j_istore (i := 8) dX12_keeps_156 (Nat.le_of_ble_eq_true rfl) ?_
  refine j_iload (i := 6) rfl dX12_keeps_158 ?_
  refine j_iconst (n := 4) 4 (by decide) dX12_keeps_160 ?_
  refine j_icmp_ne (off := 18) 179 dX12_keeps_161 (by decide) (fun c1 => ?_) (fun c1 => ?_)
  · exact j_le [some (.ref 159), some (.int l1), some (.int l2), some (.int l3), some (.int (l4 + (-1))), some (.int l5), some (.int l6), some (.int (h 166 (((l4 + (-1)) - 1).toNatClampNeg))), some (.int (h 166 ((l4 + (-1)).toNatClampNeg))), none] (And.intro rfl (And.intro rfl (And.intro rfl (And.intro rfl (And.intro rfl (And.intro rfl (And.intro rfl (And.intro rfl (And.intro rfl True.intro))))))))) (v1 c1)
  · exact j_le [some (.ref 159), some (.int l1), some (.int l2), some (.int l3), some (.int (l4 + (-1))), some (.int l5), some (.int l6), some (.int (h 166 (((l4 + (-1)) - 1).toNatClampNeg))), some (.int (h 166 ((l4 + (-1)).toNatClampNeg))), none] (And.intro rfl (And.intro rfl (And.intro rfl (And.intro rfl (And.intro rfl (And.intro rfl (And.intro rfl (And.intro rfl (And.intro rfl True.intro))))))))) (v2 c1)
set_option maxRecDepth 100000 in
theorem bX12_keeps_164 {sc : Nat × (Nat → Int32)} {h : jH} {Q : jQ} {l1 l2 l3 l4 l5 l6 l7 l8 : Int32}
    (v1 : l8 ≤ l7 → WP mX12_keeps Q 175 [some (.ref 159), some (.int l1), some (.int l2), some (.int l3), some (.int l4), some (.int l5), some (.int l6), some (.int l7), some (.int l8), none] [] (jG0 sc) h (0, 0))
    (v2 : ¬ l8 ≤ l7 → WP mX12_keeps Q 171 [some (.ref 159), some (.int l1), some (.int l2), some (.int l3), some (.int l4), some (.int l5), some (.int l6), some (.int l7), some (.int l8), none] [] (jG0 sc) h (0, 0)) :
    WP mX12_keeps Q 164 [some (.ref 159), some (.int l1), some (.int l2), some (.int l3), some (.int l4), some (.int l5), some (.int l6), some (.int l7), some (.int l8), none] [] (jG0 sc) h (0, 0) := by
  refine j_iload (i := 7) rfl dX12_keeps_164 ?_
  refine j_iload (i := 8) rfl dX12_keeps_166 ?_
  refine j_icmp_ge (off := 7) 175 dX12_keeps_168 (by decide) (fun c1 => ?_) (fun c1 => ?_)
  · exact j_le [some (.ref 159), some (.int l1), some (.int l2), some (.int l3), some (.int l4), some (.int l5), some (.int l6), some (.int l7), some (.int l8), none] (And.intro rfl (And.intro rfl (And.intro rfl (And.intro rfl (And.intro rfl (And.intro rfl (And.intro rfl (And.intro rfl (And.intro rfl True.intro))))))))) (v1 c1)
  · exact j_le [some (.ref 159), some (.int l1), some (.int l2), some (.int l3), some (.int l4), some (.int l5), some (.int l6), some (.int l7), some (.int l8), none] (And.intro rfl (And.intro rfl (And.intro rfl (And.intro rfl (And.intro rfl (And.intro rfl (And.intro rfl (And.intro rfl (And.intro rfl True.intro))))))))) (v2 c1)
set_option maxRecDepth 100000 in
theorem bX12_keeps_171 {sc : Nat × (Nat → Int32)} {h : jH} {Q : jQ} {l1 l2 l3 l4 l5 l6 l7 l8 : Int32}
    (v1 : WP mX12_keeps Q 259 [some (.ref 159), some (.int l1), some (.int l2), some (.int l3), some (.int l4), some (.int l5), some (.int l6), some (.int l7), some (.int l8), none] [.int 1] (jG0 sc) h (0, 0)) :
    WP mX12_keeps Q 171 [some (.ref 159), some (.int l1), some (.int l2), some (.int l3), some (.int l4), some (.int l5), some (.int l6), some (.int l7), some (.int l8), none] [] (jG0 sc) h (0, 0) := by
  refine j_iconst (n := 1) 1 (by decide) dX12_keeps_171 ?_
  refine j_goto (off := 87) 259 dX12_keeps_172 (by decide) ?_
  exact j_le [some (.ref 159), some (.int l1), some (.int l2), some (.int l3), some (.int l4), some (.int l5), some (.int l6), some (.int l7), some (.int l8), none] (And.intro rfl (And.intro rfl (And.intro rfl (And.intro rfl (And.intro rfl (And.intro rfl (And.intro rfl (And.intro rfl (And.intro rfl True.intro))))))))) v1
set_option maxRecDepth 100000 in
theorem bX12_keeps_175 {sc : Nat × (Nat → Int32)} {h : jH} {Q : jQ} {l1 l2 l3 l4 l5 l6 l7 l8 : Int32}
    (v1 : WP mX12_keeps Q 259 [some (.ref 159), some (.int l1), some (.int l2), some (.int l3), some (.int l4), some (.int l5), some (.int l6), some (.int l7), some (.int l8), none] [.int 0] (jG0 sc) h (0, 0)) :
    WP mX12_keeps Q 175 [some (.ref 159), some (.int l1), some (.int l2), some (.int l3), some (.int l4), some (.int l5), some (.int l6), some (.int l7), some (.int l8), none] [] (jG0 sc) h (0, 0) := by
  refine j_iconst (n := 0) 0 (by decide) dX12_keeps_175 ?_
  refine j_goto (off := 83) 259 dX12_keeps_176 (by decide) ?_
  exact j_le [some (.ref 159), some (.int l1), some (.int l2), some (.int l3), some (.int l4), some (.int l5), some (.int l6), some (.int l7), some (.int l8), none] (And.intro rfl (And.intro rfl (And.intro rfl (And.intro rfl (And.intro rfl (And.intro rfl (And.intro rfl (And.intro rfl (And.intro rfl True.intro))))))))) v1
set_option maxRecDepth 100000 in
theorem bX12_keeps_179 {sc : Nat × (Nat → Int32)} {h : jH} {Q : jQ} {l1 l2 l3 l4 l5 l6 l7 l8 : Int32}
    (v1 : ¬ l6 = 5 → WP mX12_keeps Q 200 [some (.ref 159), some (.int l1), some (.int l2), some (.int l3), some (.int l4), some (.int l5), some (.int l6), some (.int l7), some (.int l8), none] [] (jG0 sc) h (0, 0))
    (v2 : l6 = 5 → WP mX12_keeps Q 185 [some (.ref 159), some (.int l1), some (.int l2), some (.int l3), some (.int l4), some (.int l5), some (.int l6), some (.int l7), some (.int l8), none] [] (jG0 sc) h (0, 0)) :
    WP mX12_keeps Q 179 [some (.ref 159), some (.int l1), some (.int l2), some (.int l3), some (.int l4), some (.int l5), some (.int l6), some (.int l7), some (.int l8), none] [] (jG0 sc) h (0, 0) := by
  refine j_iload (i := 6) rfl dX12_keeps_179 ?_
  refine j_iconst (n := 5) 5 (by decide) dX12_keeps_181 ?_
  refine j_icmp_ne (off := 18) 200 dX12_keeps_182 (by decide) (fun c1 => ?_) (fun c1 => ?_)
  · exact j_le [some (.ref 159), some (.int l1), some (.int l2), some (.int l3), some (.int l4), some (.int l5), some (.int l6), some (.int l7), some (.int l8), none] (And.intro rfl (And.intro rfl (And.intro rfl (And.intro rfl (And.intro rfl (And.intro rfl (And.intro rfl (And.intro rfl (And.intro rfl True.intro))))))))) (v1 c1)
  · exact j_le [some (.ref 159), some (.int l1), some (.int l2), some (.int l3), some (.int l4), some (.int l5), some (.int l6), some (.int l7), some (.int l8), none] (And.intro rfl (And.intro rfl (And.intro rfl (And.intro rfl (And.intro rfl (And.intro rfl (And.intro rfl (And.intro rfl (And.intro rfl True.intro))))))))) (v2 c1)
set_option maxRecDepth 100000 in
theorem bX12_keeps_185 {sc : Nat × (Nat → Int32)} {h : jH} {Q : jQ} {l1 l2 l3 l4 l5 l6 l7 l8 : Int32}
    (v1 : l7 ≤ l8 → WP mX12_keeps Q 196 [some (.ref 159), some (.int l1), some (.int l2), some (.int l3), some (.int l4), some (.int l5), some (.int l6), some (.int l7), some (.int l8), none] [] (jG0 sc) h (0, 0))
    (v2 : ¬ l7 ≤ l8 → WP mX12_keeps Q 192 [some (.ref 159), some (.int l1), some (.int l2), some (.int l3), some (.int l4), some (.int l5), some (.int l6), some (.int l7), some (.int l8), none] [] (jG0 sc) h (0, 0)) :
    WP mX12_keeps Q 185 [some (.ref 159), some (.int l1), some (.int l2), some (.int l3), some (.int l4), some (.int l5), some (.int l6), some (.int l7), some (.int l8), none] [] (jG0 sc) h (0, 0) := by
  refine j_iload (i := 7) rfl dX12_keeps_185 ?_
  refine j_iload (i := 8) rfl dX12_keeps_187 ?_
  refine j_icmp_le (off := 7) 196 dX12_keeps_189 (by decide) (fun c1 => ?_) (fun c1 => ?_)
  · exact j_le [some (.ref 159), some (.int l1), some (.int l2), some (.int l3), some (.int l4), some (.int l5), some (.int l6), some (.int l7), some (.int l8), none] (And.intro rfl (And.intro rfl (And.intro rfl (And.intro rfl (And.intro rfl (And.intro rfl (And.intro rfl (And.intro rfl (And.intro rfl True.intro))))))))) (v1 c1)
  · exact j_le [some (.ref 159), some (.int l1), some (.int l2), some (.int l3), some (.int l4), some (.int l5), some (.int l6), some (.int l7), some (.int l8), none] (And.intro rfl (And.intro rfl (And.intro rfl (And.intro rfl (And.intro rfl (And.intro rfl (And.intro rfl (And.intro rfl (And.intro rfl True.intro))))))))) (v2 c1)
set_option maxRecDepth 100000 in
theorem bX12_keeps_192 {sc : Nat × (Nat → Int32)} {h : jH} {Q : jQ} {l1 l2 l3 l4 l5 l6 l7 l8 : Int32}
    (v1 : WP mX12_keeps Q 259 [some (.ref 159), some (.int l1), some (.int l2), some (.int l3), some (.int l4), some (.int l5), some (.int l6), some (.int l7), some (.int l8), none] [.int 1] (jG0 sc) h (0, 0)) :
    WP mX12_keeps Q 192 [some (.ref 159), some (.int l1), some (.int l2), some (.int l3), some (.int l4), some (.int l5), some (.int l6), some (.int l7), some (.int l8), none] [] (jG0 sc) h (0, 0) := by
  refine j_iconst (n := 1) 1 (by decide) dX12_keeps_192 ?_
  refine j_goto (off := 66) 259 dX12_keeps_193 (by decide) ?_
  exact j_le [some (.ref 159), some (.int l1), some (.int l2), some (.int l3), some (.int l4), some (.int l5), some (.int l6), some (.int l7), some (.int l8), none] (And.intro rfl (And.intro rfl (And.intro rfl (And.intro rfl (And.intro rfl (And.intro rfl (And.intro rfl (And.intro rfl (And.intro rfl True.intro))))))))) v1
set_option maxRecDepth 100000 in
theorem bX12_keeps_196 {sc : Nat × (Nat → Int32)} {h : jH} {Q : jQ} {l1 l2 l3 l4 l5 l6 l7 l8 : Int32}
    (v1 : WP mX12_keeps Q 259 [some (.ref 159), some (.int l1), some (.int l2), some (.int l3), some (.int l4), some (.int l5), some (.int l6), some (.int l7), some (.int l8), none] [.int 0] (jG0 sc) h (0, 0)) :
    WP mX12_keeps Q 196 [some (.ref 159), some (.int l1), some (.int l2), some (.int l3), some (.int l4), some (.int l5), some (.int l6), some (.int l7), some (.int l8), none] [] (jG0 sc) h (0, 0) := by
  refine j_iconst (n := 0) 0 (by decide) dX12_keeps_196 ?_
  refine j_goto (off := 62) 259 dX12_keeps_197 (by decide) ?_
  exact j_le [some (.ref 159), some (.int l1), some (.int l2), some (.int l3), some (.int l4), some (.int l5), some (.int l6), some (.int l7), some (.int l8), none] (And.intro rfl (And.intro rfl (And.intro rfl (And.intro rfl (And.intro rfl (And.intro rfl (And.intro rfl (And.intro rfl (And.intro rfl True.intro))))))))) v1
set_option maxRecDepth 100000 in
theorem bX12_keeps_200 {sc : Nat × (Nat → Int32)} {h : jH} {Q : jQ} {l1 l2 l3 l4 l5 l6 l7 l8 : Int32}
    (v1 : ¬ l6 = 6 → WP mX12_keeps Q 222 [some (.ref 159), some (.int l1), some (.int l2), some (.int l3), some (.int l4), some (.int l5), some (.int l6), some (.int l7), some (.int l8), none] [] (jG0 sc) h (0, 0))
    (v2 : l6 = 6 → WP mX12_keeps Q 207 [some (.ref 159), some (.int l1), some (.int l2), some (.int l3), some (.int l4), some (.int l5), some (.int l6), some (.int l7), some (.int l8), none] [] (jG0 sc) h (0, 0)) :
    WP mX12_keeps Q 200 [some (.ref 159), some (.int l1), some (.int l2), some (.int l3), some (.int l4), some (.int l5), some (.int l6), some (.int l7), some (.int l8), none] [] (jG0 sc) h (0, 0) := by
  refine j_iload (i := 6) rfl dX12_keeps_200 ?_
  refine j_bipush (n := 6) 6 (by decide) dX12_keeps_202 ?_
  refine j_icmp_ne (off := 18) 222 dX12_keeps_204 (by decide) (fun c1 => ?_) (fun c1 => ?_)
  · exact j_le [some (.ref 159), some (.int l1), some (.int l2), some (.int l3), some (.int l4), some (.int l5), some (.int l6), some (.int l7), some (.int l8), none] (And.intro rfl (And.intro rfl (And.intro rfl (And.intro rfl (And.intro rfl (And.intro rfl (And.intro rfl (And.intro rfl (And.intro rfl True.intro))))))))) (v1 c1)
  · exact j_le [some (.ref 159), some (.int l1), some (.int l2), some (.int l3), some (.int l4), some (.int l5), some (.int l6), some (.int l7), some (.int l8), none] (And.intro rfl (And.intro rfl (And.intro rfl (And.intro rfl (And.intro rfl (And.intro rfl (And.intro rfl (And.intro rfl (And.intro rfl True.intro))))))))) (v2 c1)
set_option maxRecDepth 100000 in
theorem bX12_keeps_207 {sc : Nat × (Nat → Int32)} {h : jH} {Q : jQ} {l1 l2 l3 l4 l5 l6 l7 l8 : Int32}
    (v1 : ¬ l7 = l8 → WP mX12_keeps Q 218 [some (.ref 159), some (.int l1), some (.int l2), some (.int l3), some (.int l4), some (.int l5), some (.int l6), some (.int l7), some (.int l8), none] [] (jG0 sc) h (0, 0))
    (v2 : l7 = l8 → WP mX12_keeps Q 214 [some (.ref 159), some (.int l1), some (.int l2), some (.int l3), some (.int l4), some (.int l5), some (.int l6), some (.int l7), some (.int l8), none] [] (jG0 sc) h (0, 0)) :
    WP mX12_keeps Q 207 [some (.ref 159), some (.int l1), some (.int l2), some (.int l3), some (.int l4), some (.int l5), some (.int l6), some (.int l7), some (.int l8), none] [] (jG0 sc) h (0, 0) := by
  refine j_iload (i := 7) rfl dX12_keeps_207 ?_
  refine j_iload (i := 8) rfl dX12_keeps_209 ?_
  refine j_icmp_ne (off := 7) 218 dX12_keeps_211 (by decide) (fun c1 => ?_) (fun c1 => ?_)
  · exact j_le [some (.ref 159), some (.int l1), some (.int l2), some (.int l3), some (.int l4), some (.int l5), some (.int l6), some (.int l7), some (.int l8), none] (And.intro rfl (And.intro rfl (And.intro rfl (And.intro rfl (And.intro rfl (And.intro rfl (And.intro rfl (And.intro rfl (And.intro rfl True.intro))))))))) (v1 c1)
  · exact j_le [some (.ref 159), some (.int l1), some (.int l2), some (.int l3), some (.int l4), some (.int l5), some (.int l6), some (.int l7), some (.int l8), none] (And.intro rfl (And.intro rfl (And.intro rfl (And.intro rfl (And.intro rfl (And.intro rfl (And.intro rfl (And.intro rfl (And.intro rfl True.intro))))))))) (v2 c1)
set_option maxRecDepth 100000 in
theorem bX12_keeps_214 {sc : Nat × (Nat → Int32)} {h : jH} {Q : jQ} {l1 l2 l3 l4 l5 l6 l7 l8 : Int32}
    (v1 : WP mX12_keeps Q 259 [some (.ref 159), some (.int l1), some (.int l2), some (.int l3), some (.int l4), some (.int l5), some (.int l6), some (.int l7), some (.int l8), none] [.int 1] (jG0 sc) h (0, 0)) :
    WP mX12_keeps Q 214 [some (.ref 159), some (.int l1), some (.int l2), some (.int l3), some (.int l4), some (.int l5), some (.int l6), some (.int l7), some (.int l8), none] [] (jG0 sc) h (0, 0) := by
  refine j_iconst (n := 1) 1 (by decide) dX12_keeps_214 ?_
  refine j_goto (off := 44) 259 dX12_keeps_215 (by decide) ?_
  exact j_le [some (.ref 159), some (.int l1), some (.int l2), some (.int l3), some (.int l4), some (.int l5), some (.int l6), some (.int l7), some (.int l8), none] (And.intro rfl (And.intro rfl (And.intro rfl (And.intro rfl (And.intro rfl (And.intro rfl (And.intro rfl (And.intro rfl (And.intro rfl True.intro))))))))) v1
set_option maxRecDepth 100000 in
theorem bX12_keeps_218 {sc : Nat × (Nat → Int32)} {h : jH} {Q : jQ} {l1 l2 l3 l4 l5 l6 l7 l8 : Int32}
    (v1 : WP mX12_keeps Q 259 [some (.ref 159), some (.int l1), some (.int l2), some (.int l3), some (.int l4), some (.int l5), some (.int l6), some (.int l7), some (.int l8), none] [.int 0] (jG0 sc) h (0, 0)) :
    WP mX12_keeps Q 218 [some (.ref 159), some (.int l1), some (.int l2), some (.int l3), some (.int l4), some (.int l5), some (.int l6), some (.int l7), some (.int l8), none] [] (jG0 sc) h (0, 0) := by
  refine j_iconst (n := 0) 0 (by decide) dX12_keeps_218 ?_
  refine j_goto (off := 40) 259 dX12_keeps_219 (by decide) ?_
  exact j_le [some (.ref 159), some (.int l1), some (.int l2), some (.int l3), some (.int l4), some (.int l5), some (.int l6), some (.int l7), some (.int l8), none] (And.intro rfl (And.intro rfl (And.intro rfl (And.intro rfl (And.intro rfl (And.intro rfl (And.intro rfl (And.intro rfl (And.intro rfl True.intro))))))))) v1
set_option maxRecDepth 100000 in
theorem bX12_keeps_222 {sc : Nat × (Nat → Int32)} {h : jH} {Q : jQ} {l1 l2 l3 l4 l5 l6 l7 l8 : Int32}
    (v1 : ¬ l6 = 8 → WP mX12_keeps Q 246 [some (.ref 159), some (.int l1), some (.int l2), some (.int l3), some (.int l4), some (.int l5), some (.int l6), some (.int l7), some (.int l8), none] [] (jG0 sc) h (0, 0))
    (v2 : l6 = 8 → WP mX12_keeps Q 229 [some (.ref 159), some (.int l1), some (.int l2), some (.int l3), some (.int l4), some (.int l5), some (.int l6), some (.int l7), some (.int l8), none] [] (jG0 sc) h (0, 0)) :
    WP mX12_keeps Q 222 [some (.ref 159), some (.int l1), some (.int l2), some (.int l3), some (.int l4), some (.int l5), some (.int l6), some (.int l7), some (.int l8), none] [] (jG0 sc) h (0, 0) := by
  refine j_iload (i := 6) rfl dX12_keeps_222 ?_
  refine j_bipush (n := 8) 8 (by decide) dX12_keeps_224 ?_
  refine j_icmp_ne (off := 20) 246 dX12_keeps_226 (by decide) (fun c1 => ?_) (fun c1 => ?_)
  · exact j_le [some (.ref 159), some (.int l1), some (.int l2), some (.int l3), some (.int l4), some (.int l5), some (.int l6), some (.int l7), some (.int l8), none] (And.intro rfl (And.intro rfl (And.intro rfl (And.intro rfl (And.intro rfl (And.intro rfl (And.intro rfl (And.intro rfl (And.intro rfl True.intro))))))))) (v1 c1)
  · exact j_le [some (.ref 159), some (.int l1), some (.int l2), some (.int l3), some (.int l4), some (.int l5), some (.int l6), some (.int l7), some (.int l8), none] (And.intro rfl (And.intro rfl (And.intro rfl (And.intro rfl (And.intro rfl (And.intro rfl (And.intro rfl (And.intro rfl (And.intro rfl True.intro))))))))) (v2 c1)
set_option maxRecDepth 100000 in
theorem bX12_keeps_229 {sc : Nat × (Nat → Int32)} {h : jH} {Q : jQ} {l1 l2 l3 l4 l5 l6 l7 l8 : Int32}
    (v1 : ¬ (l7 + l8) = 2 → WP mX12_keeps Q 242 [some (.ref 159), some (.int l1), some (.int l2), some (.int l3), some (.int l4), some (.int l5), some (.int l6), some (.int l7), some (.int l8), none] [] (jG0 sc) h (0, 0))
    (v2 : (l7 + l8) = 2 → WP mX12_keeps Q 238 [some (.ref 159), some (.int l1), some (.int l2), some (.int l3), some (.int l4), some (.int l5), some (.int l6), some (.int l7), some (.int l8), none] [] (jG0 sc) h (0, 0)) :
    WP mX12_keeps Q 229 [some (.ref 159), some (.int l1), some (.int l2), some (.int l3), some (.int l4), some (.int l5), some (.int l6), some (.int l7), some (.int l8), none] [] (jG0 sc) h (0, 0) := by
  refine j_iload (i := 7) rfl dX12_keeps_229 ?_
  refine j_iload (i := 8) rfl dX12_keeps_231 ?_
  refine j_iadd dX12_keeps_233 ?_
  refine j_iconst (n := 2) 2 (by decide) dX12_keeps_234 ?_
  refine j_icmp_ne (off := 7) 242 dX12_keeps_235 (by decide) (fun c1 => ?_) (fun c1 => ?_)
  · exact j_le [some (.ref 159), some (.int l1), some (.int l2), some (.int l3), some (.int l4), some (.int l5), some (.int l6), some (.int l7), some (.int l8), none] (And.intro rfl (And.intro rfl (And.intro rfl (And.intro rfl (And.intro rfl (And.intro rfl (And.intro rfl (And.intro rfl (And.intro rfl True.intro))))))))) (v1 c1)
  · exact j_le [some (.ref 159), some (.int l1), some (.int l2), some (.int l3), some (.int l4), some (.int l5), some (.int l6), some (.int l7), some (.int l8), none] (And.intro rfl (And.intro rfl (And.intro rfl (And.intro rfl (And.intro rfl (And.intro rfl (And.intro rfl (And.intro rfl (And.intro rfl True.intro))))))))) (v2 c1)
set_option maxRecDepth 100000 in
theorem bX12_keeps_238 {sc : Nat × (Nat → Int32)} {h : jH} {Q : jQ} {l1 l2 l3 l4 l5 l6 l7 l8 : Int32}
    (v1 : WP mX12_keeps Q 259 [some (.ref 159), some (.int l1), some (.int l2), some (.int l3), some (.int l4), some (.int l5), some (.int l6), some (.int l7), some (.int l8), none] [.int 1] (jG0 sc) h (0, 0)) :
    WP mX12_keeps Q 238 [some (.ref 159), some (.int l1), some (.int l2), some (.int l3), some (.int l4), some (.int l5), some (.int l6), some (.int l7), some (.int l8), none] [] (jG0 sc) h (0, 0) := by
  refine j_iconst (n := 1) 1 (by decide) dX12_keeps_238 ?_
  refine j_goto (off := 20) 259 dX12_keeps_239 (by decide) ?_
  exact j_le [some (.ref 159), some (.int l1), some (.int l2), some (.int l3), some (.int l4), some (.int l5), some (.int l6), some (.int l7), some (.int l8), none] (And.intro rfl (And.intro rfl (And.intro rfl (And.intro rfl (And.intro rfl (And.intro rfl (And.intro rfl (And.intro rfl (And.intro rfl True.intro))))))))) v1
set_option maxRecDepth 100000 in
theorem bX12_keeps_242 {sc : Nat × (Nat → Int32)} {h : jH} {Q : jQ} {l1 l2 l3 l4 l5 l6 l7 l8 : Int32}
    (v1 : WP mX12_keeps Q 259 [some (.ref 159), some (.int l1), some (.int l2), some (.int l3), some (.int l4), some (.int l5), some (.int l6), some (.int l7), some (.int l8), none] [.int 0] (jG0 sc) h (0, 0)) :
    WP mX12_keeps Q 242 [some (.ref 159), some (.int l1), some (.int l2), some (.int l3), some (.int l4), some (.int l5), some (.int l6), some (.int l7), some (.int l8), none] [] (jG0 sc) h (0, 0) := by
  refine j_iconst (n := 0) 0 (by decide) dX12_keeps_242 ?_
  refine j_goto (off := 16) 259 dX12_keeps_243 (by decide) ?_
  exact j_le [some (.ref 159), some (.int l1), some (.int l2), some (.int l3), some (.int l4), some (.int l5), some (.int l6), some (.int l7), some (.int l8), none] (And.intro rfl (And.intro rfl (And.intro rfl (And.intro rfl (And.intro rfl (And.intro rfl (And.intro rfl (And.intro rfl (And.intro rfl True.intro))))))))) v1
set_option maxRecDepth 100000 in
theorem bX12_keeps_246 {sc : Nat × (Nat → Int32)} {h : jH} {Q : jQ} {l1 l2 l3 l4 l5 l6 l7 l8 : Int32}
    (v1 : (l7 + l8) ≤ 0 → WP mX12_keeps Q 258 [some (.ref 159), some (.int l1), some (.int l2), some (.int l3), some (.int l4), some (.int l5), some (.int l6), some (.int l7), some (.int l8), none] [] (jG0 sc) h (0, 0))
    (v2 : ¬ (l7 + l8) ≤ 0 → WP mX12_keeps Q 254 [some (.ref 159), some (.int l1), some (.int l2), some (.int l3), some (.int l4), some (.int l5), some (.int l6), some (.int l7), some (.int l8), none] [] (jG0 sc) h (0, 0)) :
    WP mX12_keeps Q 246 [some (.ref 159), some (.int l1), some (.int l2), some (.int l3), some (.int l4), some (.int l5), some (.int l6), some (.int l7), some (.int l8), none] [] (jG0 sc) h (0, 0) := by
  refine j_iload (i := 7) rfl dX12_keeps_246 ?_
  refine j_iload (i := 8) rfl dX12_keeps_248 ?_
  refine j_iadd dX12_keeps_250 ?_
  refine j_if_le (off := 7) 258 dX12_keeps_251 (by decide) (fun c1 => ?_) (fun c1 => ?_)
  · exact j_le [some (.ref 159), some (.int l1), some (.int l2), some (.int l3), some (.int l4), some (.int l5), some (.int l6), some (.int l7), some (.int l8), none] (And.intro rfl (And.intro rfl (And.intro rfl (And.intro rfl (And.intro rfl (And.intro rfl (And.intro rfl (And.intro rfl (And.intro rfl True.intro))))))))) (v1 c1)
  · exact j_le [some (.ref 159), some (.int l1), some (.int l2), some (.int l3), some (.int l4), some (.int l5), some (.int l6), some (.int l7), some (.int l8), none] (And.intro rfl (And.intro rfl (And.intro rfl (And.intro rfl (And.intro rfl (And.intro rfl (And.intro rfl (And.intro rfl (And.intro rfl True.intro))))))))) (v2 c1)
set_option maxRecDepth 100000 in
theorem bX12_keeps_254 {sc : Nat × (Nat → Int32)} {h : jH} {Q : jQ} {l1 l2 l3 l4 l5 l6 l7 l8 : Int32}
    (v1 : WP mX12_keeps Q 259 [some (.ref 159), some (.int l1), some (.int l2), some (.int l3), some (.int l4), some (.int l5), some (.int l6), some (.int l7), some (.int l8), none] [.int 1] (jG0 sc) h (0, 0)) :
    WP mX12_keeps Q 254 [some (.ref 159), some (.int l1), some (.int l2), some (.int l3), some (.int l4), some (.int l5), some (.int l6), some (.int l7), some (.int l8), none] [] (jG0 sc) h (0, 0) := by
  refine j_iconst (n := 1) 1 (by decide) dX12_keeps_254 ?_
  refine j_goto (off := 4) 259 dX12_keeps_255 (by decide) ?_
  exact j_le [some (.ref 159), some (.int l1), some (.int l2), some (.int l3), some (.int l4), some (.int l5), some (.int l6), some (.int l7), some (.int l8), none] (And.intro rfl (And.intro rfl (And.intro rfl (And.intro rfl (And.intro rfl (And.intro rfl (And.intro rfl (And.intro rfl (And.intro rfl True.intro))))))))) v1
set_option maxRecDepth 100000 in
theorem bX12_keeps_258 {sc : Nat × (Nat → Int32)} {h : jH} {Q : jQ} {l1 l2 l3 l4 l5 l6 l7 l8 : Int32}
    (v1 : WP mX12_keeps Q 259 [some (.ref 159), some (.int l1), some (.int l2), some (.int l3), some (.int l4), some (.int l5), some (.int l6), some (.int l7), some (.int l8), none] [.int 0] (jG0 sc) h (0, 0)) :
    WP mX12_keeps Q 258 [some (.ref 159), some (.int l1), some (.int l2), some (.int l3), some (.int l4), some (.int l5), some (.int l6), some (.int l7), some (.int l8), none] [] (jG0 sc) h (0, 0) := by
  refine j_iconst (n := 0) 0 (by decide) dX12_keeps_258 ?_
  exact j_le [some (.ref 159), some (.int l1), some (.int l2), some (.int l3), some (.int l4), some (.int l5), some (.int l6), some (.int l7), some (.int l8), none] (And.intro rfl (And.intro rfl (And.intro rfl (And.intro rfl (And.intro rfl (And.intro rfl (And.intro rfl (And.intro rfl (And.intro rfl True.intro))))))))) v1
set_option maxRecDepth 100000 in
theorem bX12_keeps_259 {sc : Nat × (Nat → Int32)} {h : jH} {Q : jQ} {l1 l2 l3 l4 l5 l6 l7 l8 s0 : Int32}
    (v1 : s0 = 0 → WP mX12_keeps Q 278 [some (.ref 159), some (.int l1), some (.int l2), some (.int l3), some (.int l4), some (.int l5), some (.int l6), some (.int l7), some (.int l8), some (.int s0)] [.int (l4 - 1), .ref 166] (jG0 sc) h (0, 0))
    (v2 : ¬ s0 = 0 → WP mX12_keeps Q 274 [some (.ref 159), some (.int l1), some (.int l2), some (.int l3), some (.int l4), some (.int l5), some (.int l6), some (.int l7), some (.int l8), some (.int s0)] [.int (l4 - 1), .ref 166] (jG0 sc) h (0, 0)) :
    WP mX12_keeps Q 259 [some (.ref 159), some (.int l1), some (.int l2), some (.int l3), some (.int l4), some (.int l5), some (.int l6), some (.int l7), some (.int l8), none] [.int s0] (jG0 sc) h (0, 0) := by
  refine j_istore (i := 9) dX12_keeps_259 (Nat.le_of_ble_eq_true rfl) ?_
  refine j_aload_n (i := 0) rfl dX12_keeps_261 ?_
  refine j_getR (idx := 36) (ci := 12) (k := 15) (nest := false) (show (12, 36, 12, 15, false) ∈ jFT by decide) rfl (Nat.le_of_ble_eq_true rfl) rfl (a := 166) rfl dX12_keeps_262 ?_
  refine j_iload (i := 4) rfl dX12_keeps_265 ?_
  refine j_iconst (n := 1) 1 (by decide) dX12_keeps_267 ?_
  refine j_isub dX12_keeps_268 ?_
  refine j_iload (i := 9) rfl dX12_keeps_269 ?_
  refine j_if_eq (off := 7) 278 dX12_keeps_271 (by decide) (fun c1 => ?_) (fun c1 => ?_)
  · exact j_le [some (.ref 159), some (.int l1), some (.int l2), some (.int l3), some (.int l4), some (.int l5), some (.int l6), some (.int l7), some (.int l8), some (.int s0)] (And.intro rfl (And.intro rfl (And.intro rfl (And.intro rfl (And.intro rfl (And.intro rfl (And.intro rfl (And.intro rfl (And.intro rfl (And.intro rfl True.intro)))))))))) (v1 c1)
  · exact j_le [some (.ref 159), some (.int l1), some (.int l2), some (.int l3), some (.int l4), some (.int l5), some (.int l6), some (.int l7), some (.int l8), some (.int s0)] (And.intro rfl (And.intro rfl (And.intro rfl (And.intro rfl (And.intro rfl (And.intro rfl (And.intro rfl (And.intro rfl (And.intro rfl (And.intro rfl True.intro)))))))))) (v2 c1)
set_option maxRecDepth 100000 in
theorem bX12_keeps_274 {sc : Nat × (Nat → Int32)} {h : jH} {Q : jQ} {l1 l2 l3 l4 l5 l6 l7 l8 l9 s0 : Int32}
    (v1 : WP mX12_keeps Q 279 [some (.ref 159), some (.int l1), some (.int l2), some (.int l3), some (.int l4), some (.int l5), some (.int l6), some (.int l7), some (.int l8), some (.int l9)] [.int 1, .int s0, .ref 166] (jG0 sc) h (0, 0)) :
    WP mX12_keeps Q 274 [some (.ref 159), some (.int l1), some (.int l2), some (.int l3), some (.int l4), some (.int l5), some (.int l6), some (.int l7), some (.int l8), some (.int l9)] [.int s0, .ref 166] (jG0 sc) h (0, 0) := by
  refine j_iconst (n := 1) 1 (by decide) dX12_keeps_274 ?_
  refine j_goto (off := 4) 279 dX12_keeps_275 (by decide) ?_
  exact j_le [some (.ref 159), some (.int l1), some (.int l2), some (.int l3), some (.int l4), some (.int l5), some (.int l6), some (.int l7), some (.int l8), some (.int l9)] (And.intro rfl (And.intro rfl (And.intro rfl (And.intro rfl (And.intro rfl (And.intro rfl (And.intro rfl (And.intro rfl (And.intro rfl (And.intro rfl True.intro)))))))))) v1
set_option maxRecDepth 100000 in
theorem bX12_keeps_278 {sc : Nat × (Nat → Int32)} {h : jH} {Q : jQ} {l1 l2 l3 l4 l5 l6 l7 l8 l9 s0 : Int32}
    (v1 : WP mX12_keeps Q 279 [some (.ref 159), some (.int l1), some (.int l2), some (.int l3), some (.int l4), some (.int l5), some (.int l6), some (.int l7), some (.int l8), some (.int l9)] [.int 0, .int s0, .ref 166] (jG0 sc) h (0, 0)) :
    WP mX12_keeps Q 278 [some (.ref 159), some (.int l1), some (.int l2), some (.int l3), some (.int l4), some (.int l5), some (.int l6), some (.int l7), some (.int l8), some (.int l9)] [.int s0, .ref 166] (jG0 sc) h (0, 0) := by
  refine j_iconst (n := 0) 0 (by decide) dX12_keeps_278 ?_
  exact j_le [some (.ref 159), some (.int l1), some (.int l2), some (.int l3), some (.int l4), some (.int l5), some (.int l6), some (.int l7), some (.int l8), some (.int l9)] (And.intro rfl (And.intro rfl (And.intro rfl (And.intro rfl (And.intro rfl (And.intro rfl (And.intro rfl (And.intro rfl (And.intro rfl (And.intro rfl True.intro)))))))))) v1
set_option maxRecDepth 100000 in
theorem bX12_keeps_279 {sc : Nat × (Nat → Int32)} {h : jH} {Q : jQ} {l1 l2 l3 l4 l5 l6 l7 l8 l9 s0 s1 : Int32}
    (o1 : vp_in s1 400)
    (v1 : WP mX12_keeps Q 280 [some (.ref 159), some (.int l1), some (.int l2), some (.int l3), some (.int l4), some (.int l5), some (.int l6), none, none, none] [] (jG0 sc) (jput h 166 s1.toNatClampNeg s0) (0, 0)) :
    WP mX12_keeps Q 279 [some (.ref 159), some (.int l1), some (.int l2), some (.int l3), some (.int l4), some (.int l5), some (.int l6), some (.int l7), some (.int l8), some (.int l9)] [.int s0, .int s1, .ref 166] (jG0 sc) h (0, 0) := by
  refine j_iast (Nat.le_of_ble_eq_true rfl) rfl o1 dX12_keeps_279 ?_
  exact j_le [some (.ref 159), some (.int l1), some (.int l2), some (.int l3), some (.int l4), some (.int l5), some (.int l6), none, none, none] (And.intro rfl (And.intro rfl (And.intro rfl (And.intro rfl (And.intro rfl (And.intro rfl (And.intro rfl True.intro))))))) v1
set_option maxRecDepth 100000 in
theorem bX12_keeps_280 {sc : Nat × (Nat → Int32)} {h : jH} {Q : jQ} {l1 l2 l3 l4 l5 l6 : Int32}
    (v1 : WP mX12_keeps Q 14 [some (.ref 159), some (.int l1), some (.int l2), some (.int l3), some (.int l4), some (.int (l5 + 1)), none, none, none, none] [] (jG0 sc) h (0, 0)) :
    WP mX12_keeps Q 280 [some (.ref 159), some (.int l1), some (.int l2), some (.int l3), some (.int l4), some (.int l5), some (.int l6), none, none, none] [] (jG0 sc) h (0, 0) := by
  refine j_iinc (i := 5) (n := 1) rfl dX12_keeps_280 (Nat.le_of_ble_eq_true rfl) ?_
  refine j_eqlv [some (.ref 159), some (.int l1), some (.int l2), some (.int l3), some (.int l4), some (.int (l5 + 1)), some (.int l6), none, none, none] rfl ?_
  refine j_goto (off := -269) 14 dX12_keeps_283 (by decide) ?_
  exact j_le [some (.ref 159), some (.int l1), some (.int l2), some (.int l3), some (.int l4), some (.int (l5 + 1)), none, none, none, none] (And.intro rfl (And.intro rfl (And.intro rfl (And.intro rfl (And.intro rfl (And.intro rfl True.intro)))))) v1
set_option maxRecDepth 100000 in
theorem bX12_keeps_286 {sc : Nat × (Nat → Int32)} {h : jH} {Q : jQ} {l1 l2 l3 l4 l5 : Int32}
    (v1 : ¬ (h 166 0) = 1 → WP mX12_keeps Q 300 [some (.ref 159), some (.int l1), some (.int l2), some (.int l3), some (.int l4), some (.int l5), none, none, none, none] [] (jG0 sc) h (0, 0))
    (v2 : (h 166 0) = 1 → WP mX12_keeps Q 296 [some (.ref 159), some (.int l1), some (.int l2), some (.int l3), some (.int l4), some (.int l5), none, none, none, none] [] (jG0 sc) h (0, 0)) :
    WP mX12_keeps Q 286 [some (.ref 159), some (.int l1), some (.int l2), some (.int l3), some (.int l4), some (.int l5), none, none, none, none] [] (jG0 sc) h (0, 0) := by
  refine j_aload_n (i := 0) rfl dX12_keeps_286 ?_
  refine j_getR (idx := 36) (ci := 12) (k := 15) (nest := false) (show (12, 36, 12, 15, false) ∈ jFT by decide) rfl (Nat.le_of_ble_eq_true rfl) rfl (a := 166) rfl dX12_keeps_287 ?_
  refine j_iconst (n := 0) 0 (by decide) dX12_keeps_290 ?_
  refine j_iald (Nat.le_of_ble_eq_true rfl) rfl (jinl (n := 400) (by decide)) dX12_keeps_291 ?_
  refine j_eqst [.int (h 166 0)] (by rfl) ?_
  refine j_iconst (n := 1) 1 (by decide) dX12_keeps_292 ?_
  refine j_icmp_ne (off := 7) 300 dX12_keeps_293 (by decide) (fun c1 => ?_) (fun c1 => ?_)
  · exact j_le [some (.ref 159), some (.int l1), some (.int l2), some (.int l3), some (.int l4), some (.int l5), none, none, none, none] (And.intro rfl (And.intro rfl (And.intro rfl (And.intro rfl (And.intro rfl (And.intro rfl True.intro)))))) (v1 c1)
  · exact j_le [some (.ref 159), some (.int l1), some (.int l2), some (.int l3), some (.int l4), some (.int l5), none, none, none, none] (And.intro rfl (And.intro rfl (And.intro rfl (And.intro rfl (And.intro rfl (And.intro rfl True.intro)))))) (v2 c1)
set_option maxRecDepth 100000 in
theorem bX12_keeps_296 {sc : Nat × (Nat → Int32)} {h : jH} {Q : jQ} {l1 l2 l3 l4 l5 : Int32}
    (v1 : WP mX12_keeps Q 301 [some (.ref 159), some (.int l1), some (.int l2), some (.int l3), some (.int l4), some (.int l5), none, none, none, none] [.int 1] (jG0 sc) h (0, 0)) :
    WP mX12_keeps Q 296 [some (.ref 159), some (.int l1), some (.int l2), some (.int l3), some (.int l4), some (.int l5), none, none, none, none] [] (jG0 sc) h (0, 0) := by
  refine j_iconst (n := 1) 1 (by decide) dX12_keeps_296 ?_
  refine j_goto (off := 4) 301 dX12_keeps_297 (by decide) ?_
  exact j_le [some (.ref 159), some (.int l1), some (.int l2), some (.int l3), some (.int l4), some (.int l5), none, none, none, none] (And.intro rfl (And.intro rfl (And.intro rfl (And.intro rfl (And.intro rfl (And.intro rfl True.intro)))))) v1
set_option maxRecDepth 100000 in
theorem bX12_keeps_300 {sc : Nat × (Nat → Int32)} {h : jH} {Q : jQ} {l1 l2 l3 l4 l5 : Int32}
    (v1 : WP mX12_keeps Q 301 [some (.ref 159), some (.int l1), some (.int l2), some (.int l3), some (.int l4), some (.int l5), none, none, none, none] [.int 0] (jG0 sc) h (0, 0)) :
    WP mX12_keeps Q 300 [some (.ref 159), some (.int l1), some (.int l2), some (.int l3), some (.int l4), some (.int l5), none, none, none, none] [] (jG0 sc) h (0, 0) := by
  refine j_iconst (n := 0) 0 (by decide) dX12_keeps_300 ?_
  exact j_le [some (.ref 159), some (.int l1), some (.int l2), some (.int l3), some (.int l4), some (.int l5), none, none, none, none] (And.intro rfl (And.intro rfl (And.intro rfl (And.intro rfl (And.intro rfl (And.intro rfl True.intro)))))) v1
set_option maxRecDepth 100000 in
theorem bX12_keeps_301 {sc : Nat × (Nat → Int32)} {h : jH} {Q : jQ} {l1 l2 l3 l4 l5 s0 : Int32}
    (o1 : s0 = 0 ∨ s0 = 1)
    (v1 : Q (.inl (some (.int s0))) (jG0 sc) h) :
    WP mX12_keeps Q 301 [some (.ref 159), some (.int l1), some (.int l2), some (.int l3), some (.int l4), some (.int l5), none, none, none, none] [.int s0] (jG0 sc) h (0, 0) := by
  exact j_iret rfl (jbn o1) (Nat.zero_le _) (Nat.zero_le _) dX12_keeps_301 v1
set_option maxRecDepth 100000 in
theorem rX12_keeps_0 {sc : Nat × (Nat → Int32)} {h : jH} {Q : jQ} {l1 l2 l3 : Int32}
    (v1 : l1 ≤ 999999 → WP mX12_keeps Q 14 [some (.ref 159), some (.int l1), some (.int l2), some (.int l3), some (.int 0), some (.int 0), none, none, none, none] [] (jG0 sc) h (0, 0))
    (v2 : ¬ l1 ≤ 999999 → Q (.inl (some (.int 0))) (jG0 sc) h) :
    WP mX12_keeps Q 0 [some (.ref 159), some (.int l1), some (.int l2), some (.int l3), none, none, none, none, none, none] [] (jG0 sc) h (0, 0) := by
  exact (bX12_keeps_0 (fun c1 => (bX12_keeps_8 (v1 c1))) (fun c1 => (bX12_keeps_6 (v2 c1))))
set_option maxRecDepth 100000 in
theorem rX12_keeps_14 {sc : Nat × (Nat → Int32)} {h : jH} {Q : jQ} {l1 l2 l3 l4 l5 : Int32}
    (v1 : (h 160 653) ≤ l5 → ¬ (h 166 0) = 1 → Q (.inl (some (.int 0))) (jG0 sc) h)
    (v2 : (h 160 653) ≤ l5 → (h 166 0) = 1 → Q (.inl (some (.int 1))) (jG0 sc) h)
    (o1 : ¬ (h 160 653) ≤ l5 → vp_in (654 + (2 * l5)) 1454)
    (o2 : ¬ (h 160 653) ≤ l5 → 3 < (h 160 ((654 + (2 * l5)).toNatClampNeg)) → ¬ (h 160 ((654 + (2 * l5)).toNatClampNeg)) = 7 → vp_in ((l4 + (-1)) - 1) 400)
    (o3 : ¬ (h 160 653) ≤ l5 → 3 < (h 160 ((654 + (2 * l5)).toNatClampNeg)) → ¬ (h 160 ((654 + (2 * l5)).toNatClampNeg)) = 7 → vp_in (l4 + (-1)) 400)
    (o4 : ¬ (h 160 653) ≤ l5 → 3 < (h 160 ((654 + (2 * l5)).toNatClampNeg)) → ¬ (h 160 ((654 + (2 * l5)).toNatClampNeg)) = 7 → ¬ (h 160 ((654 + (2 * l5)).toNatClampNeg)) = 4 → ¬ (h 160 ((654 + (2 * l5)).toNatClampNeg)) = 5 → ¬ (h 160 ((654 + (2 * l5)).toNatClampNeg)) = 6 → ¬ (h 160 ((654 + (2 * l5)).toNatClampNeg)) = 8 → ((h 166 (((l4 + (-1)) - 1).toNatClampNeg)) + (h 166 ((l4 + (-1)).toNatClampNeg))) ≤ 0 → vp_in ((l4 + (-1)) - 1) 400)
    (v3 : ¬ (h 160 653) ≤ l5 → 3 < (h 160 ((654 + (2 * l5)).toNatClampNeg)) → ¬ (h 160 ((654 + (2 * l5)).toNatClampNeg)) = 7 → ¬ (h 160 ((654 + (2 * l5)).toNatClampNeg)) = 4 → ¬ (h 160 ((654 + (2 * l5)).toNatClampNeg)) = 5 → ¬ (h 160 ((654 + (2 * l5)).toNatClampNeg)) = 6 → ¬ (h 160 ((654 + (2 * l5)).toNatClampNeg)) = 8 → ((h 166 (((l4 + (-1)) - 1).toNatClampNeg)) + (h 166 ((l4 + (-1)).toNatClampNeg))) ≤ 0 → WP mX12_keeps Q 14 [some (.ref 159), some (.int l1), some (.int l2), some (.int l3), some (.int (l4 + (-1))), some (.int (l5 + 1)), none, none, none, none] [] (jG0 sc) (jput h 166 (((l4 + (-1)) - 1).toNatClampNeg) 0) (0, 0))
    (o5 : ¬ (h 160 653) ≤ l5 → 3 < (h 160 ((654 + (2 * l5)).toNatClampNeg)) → ¬ (h 160 ((654 + (2 * l5)).toNatClampNeg)) = 7 → ¬ (h 160 ((654 + (2 * l5)).toNatClampNeg)) = 4 → ¬ (h 160 ((654 + (2 * l5)).toNatClampNeg)) = 5 → ¬ (h 160 ((654 + (2 * l5)).toNatClampNeg)) = 6 → ¬ (h 160 ((654 + (2 * l5)).toNatClampNeg)) = 8 → ¬ ((h 166 (((l4 + (-1)) - 1).toNatClampNeg)) + (h 166 ((l4 + (-1)).toNatClampNeg))) ≤ 0 → vp_in ((l4 + (-1)) - 1) 400)
    (v4 : ¬ (h 160 653) ≤ l5 → 3 < (h 160 ((654 + (2 * l5)).toNatClampNeg)) → ¬ (h 160 ((654 + (2 * l5)).toNatClampNeg)) = 7 → ¬ (h 160 ((654 + (2 * l5)).toNatClampNeg)) = 4 → ¬ (h 160 ((654 + (2 * l5)).toNatClampNeg)) = 5 → ¬ (h 160 ((654 + (2 * l5)).toNatClampNeg)) = 6 → ¬ (h 160 ((654 + (2 * l5)).toNatClampNeg)) = 8 → ¬ ((h 166 (((l4 + (-1)) - 1).toNatClampNeg)) + (h 166 ((l4 + (-1)).toNatClampNeg))) ≤ 0 → WP mX12_keeps Q 14 [some (.ref 159), some (.int l1), some (.int l2), some (.int l3), some (.int (l4 + (-1))), some (.int (l5 + 1)), none, none, none, none] [] (jG0 sc) (jput h 166 (((l4 + (-1)) - 1).toNatClampNeg) 1) (0, 0))
    (o6 : ¬ (h 160 653) ≤ l5 → 3 < (h 160 ((654 + (2 * l5)).toNatClampNeg)) → ¬ (h 160 ((654 + (2 * l5)).toNatClampNeg)) = 7 → ¬ (h 160 ((654 + (2 * l5)).toNatClampNeg)) = 4 → ¬ (h 160 ((654 + (2 * l5)).toNatClampNeg)) = 5 → ¬ (h 160 ((654 + (2 * l5)).toNatClampNeg)) = 6 → (h 160 ((654 + (2 * l5)).toNatClampNeg)) = 8 → ¬ ((h 166 (((l4 + (-1)) - 1).toNatClampNeg)) + (h 166 ((l4 + (-1)).toNatClampNeg))) = 2 → vp_in ((l4 + (-1)) - 1) 400)
    (v5 : ¬ (h 160 653) ≤ l5 → 3 < (h 160 ((654 + (2 * l5)).toNatClampNeg)) → ¬ (h 160 ((654 + (2 * l5)).toNatClampNeg)) = 7 → ¬ (h 160 ((654 + (2 * l5)).toNatClampNeg)) = 4 → ¬ (h 160 ((654 + (2 * l5)).toNatClampNeg)) = 5 → ¬ (h 160 ((654 + (2 * l5)).toNatClampNeg)) = 6 → (h 160 ((654 + (2 * l5)).toNatClampNeg)) = 8 → ¬ ((h 166 (((l4 + (-1)) - 1).toNatClampNeg)) + (h 166 ((l4 + (-1)).toNatClampNeg))) = 2 → WP mX12_keeps Q 14 [some (.ref 159), some (.int l1), some (.int l2), some (.int l3), some (.int (l4 + (-1))), some (.int (l5 + 1)), none, none, none, none] [] (jG0 sc) (jput h 166 (((l4 + (-1)) - 1).toNatClampNeg) 0) (0, 0))
    (o7 : ¬ (h 160 653) ≤ l5 → 3 < (h 160 ((654 + (2 * l5)).toNatClampNeg)) → ¬ (h 160 ((654 + (2 * l5)).toNatClampNeg)) = 7 → ¬ (h 160 ((654 + (2 * l5)).toNatClampNeg)) = 4 → ¬ (h 160 ((654 + (2 * l5)).toNatClampNeg)) = 5 → ¬ (h 160 ((654 + (2 * l5)).toNatClampNeg)) = 6 → (h 160 ((654 + (2 * l5)).toNatClampNeg)) = 8 → ((h 166 (((l4 + (-1)) - 1).toNatClampNeg)) + (h 166 ((l4 + (-1)).toNatClampNeg))) = 2 → vp_in ((l4 + (-1)) - 1) 400)
    (v6 : ¬ (h 160 653) ≤ l5 → 3 < (h 160 ((654 + (2 * l5)).toNatClampNeg)) → ¬ (h 160 ((654 + (2 * l5)).toNatClampNeg)) = 7 → ¬ (h 160 ((654 + (2 * l5)).toNatClampNeg)) = 4 → ¬ (h 160 ((654 + (2 * l5)).toNatClampNeg)) = 5 → ¬ (h 160 ((654 + (2 * l5)).toNatClampNeg)) = 6 → (h 160 ((654 + (2 * l5)).toNatClampNeg)) = 8 → ((h 166 (((l4 + (-1)) - 1).toNatClampNeg)) + (h 166 ((l4 + (-1)).toNatClampNeg))) = 2 → WP mX12_keeps Q 14 [some (.ref 159), some (.int l1), some (.int l2), some (.int l3), some (.int (l4 + (-1))), some (.int (l5 + 1)), none, none, none, none] [] (jG0 sc) (jput h 166 (((l4 + (-1)) - 1).toNatClampNeg) 1) (0, 0))
    (o8 : ¬ (h 160 653) ≤ l5 → 3 < (h 160 ((654 + (2 * l5)).toNatClampNeg)) → ¬ (h 160 ((654 + (2 * l5)).toNatClampNeg)) = 7 → ¬ (h 160 ((654 + (2 * l5)).toNatClampNeg)) = 4 → ¬ (h 160 ((654 + (2 * l5)).toNatClampNeg)) = 5 → (h 160 ((654 + (2 * l5)).toNatClampNeg)) = 6 → ¬ (h 166 (((l4 + (-1)) - 1).toNatClampNeg)) = (h 166 ((l4 + (-1)).toNatClampNeg)) → vp_in ((l4 + (-1)) - 1) 400)
    (v7 : ¬ (h 160 653) ≤ l5 → 3 < (h 160 ((654 + (2 * l5)).toNatClampNeg)) → ¬ (h 160 ((654 + (2 * l5)).toNatClampNeg)) = 7 → ¬ (h 160 ((654 + (2 * l5)).toNatClampNeg)) = 4 → ¬ (h 160 ((654 + (2 * l5)).toNatClampNeg)) = 5 → (h 160 ((654 + (2 * l5)).toNatClampNeg)) = 6 → ¬ (h 166 (((l4 + (-1)) - 1).toNatClampNeg)) = (h 166 ((l4 + (-1)).toNatClampNeg)) → WP mX12_keeps Q 14 [some (.ref 159), some (.int l1), some (.int l2), some (.int l3), some (.int (l4 + (-1))), some (.int (l5 + 1)), none, none, none, none] [] (jG0 sc) (jput h 166 (((l4 + (-1)) - 1).toNatClampNeg) 0) (0, 0))
    (o9 : ¬ (h 160 653) ≤ l5 → 3 < (h 160 ((654 + (2 * l5)).toNatClampNeg)) → ¬ (h 160 ((654 + (2 * l5)).toNatClampNeg)) = 7 → ¬ (h 160 ((654 + (2 * l5)).toNatClampNeg)) = 4 → ¬ (h 160 ((654 + (2 * l5)).toNatClampNeg)) = 5 → (h 160 ((654 + (2 * l5)).toNatClampNeg)) = 6 → (h 166 (((l4 + (-1)) - 1).toNatClampNeg)) = (h 166 ((l4 + (-1)).toNatClampNeg)) → vp_in ((l4 + (-1)) - 1) 400)
    (v8 : ¬ (h 160 653) ≤ l5 → 3 < (h 160 ((654 + (2 * l5)).toNatClampNeg)) → ¬ (h 160 ((654 + (2 * l5)).toNatClampNeg)) = 7 → ¬ (h 160 ((654 + (2 * l5)).toNatClampNeg)) = 4 → ¬ (h 160 ((654 + (2 * l5)).toNatClampNeg)) = 5 → (h 160 ((654 + (2 * l5)).toNatClampNeg)) = 6 → (h 166 (((l4 + (-1)) - 1).toNatClampNeg)) = (h 166 ((l4 + (-1)).toNatClampNeg)) → WP mX12_keeps Q 14 [some (.ref 159), some (.int l1), some (.int l2), some (.int l3), some (.int (l4 + (-1))), some (.int (l5 + 1)), none, none, none, none] [] (jG0 sc) (jput h 166 (((l4 + (-1)) - 1).toNatClampNeg) 1) (0, 0))
    (o10 : ¬ (h 160 653) ≤ l5 → 3 < (h 160 ((654 + (2 * l5)).toNatClampNeg)) → ¬ (h 160 ((654 + (2 * l5)).toNatClampNeg)) = 7 → ¬ (h 160 ((654 + (2 * l5)).toNatClampNeg)) = 4 → (h 160 ((654 + (2 * l5)).toNatClampNeg)) = 5 → (h 166 (((l4 + (-1)) - 1).toNatClampNeg)) ≤ (h 166 ((l4 + (-1)).toNatClampNeg)) → vp_in ((l4 + (-1)) - 1) 400)
    (v9 : ¬ (h 160 653) ≤ l5 → 3 < (h 160 ((654 + (2 * l5)).toNatClampNeg)) → ¬ (h 160 ((654 + (2 * l5)).toNatClampNeg)) = 7 → ¬ (h 160 ((654 + (2 * l5)).toNatClampNeg)) = 4 → (h 160 ((654 + (2 * l5)).toNatClampNeg)) = 5 → (h 166 (((l4 + (-1)) - 1).toNatClampNeg)) ≤ (h 166 ((l4 + (-1)).toNatClampNeg)) → WP mX12_keeps Q 14 [some (.ref 159), some (.int l1), some (.int l2), some (.int l3), some (.int (l4 + (-1))), some (.int (l5 + 1)), none, none, none, none] [] (jG0 sc) (jput h 166 (((l4 + (-1)) - 1).toNatClampNeg) 0) (0, 0))
    (o11 : ¬ (h 160 653) ≤ l5 → 3 < (h 160 ((654 + (2 * l5)).toNatClampNeg)) → ¬ (h 160 ((654 + (2 * l5)).toNatClampNeg)) = 7 → ¬ (h 160 ((654 + (2 * l5)).toNatClampNeg)) = 4 → (h 160 ((654 + (2 * l5)).toNatClampNeg)) = 5 → ¬ (h 166 (((l4 + (-1)) - 1).toNatClampNeg)) ≤ (h 166 ((l4 + (-1)).toNatClampNeg)) → vp_in ((l4 + (-1)) - 1) 400)
    (v10 : ¬ (h 160 653) ≤ l5 → 3 < (h 160 ((654 + (2 * l5)).toNatClampNeg)) → ¬ (h 160 ((654 + (2 * l5)).toNatClampNeg)) = 7 → ¬ (h 160 ((654 + (2 * l5)).toNatClampNeg)) = 4 → (h 160 ((654 + (2 * l5)).toNatClampNeg)) = 5 → ¬ (h 166 (((l4 + (-1)) - 1).toNatClampNeg)) ≤ (h 166 ((l4 + (-1)).toNatClampNeg)) → WP mX12_keeps Q 14 [some (.ref 159), some (.int l1), some (.int l2), some (.int l3), some (.int (l4 + (-1))), some (.int (l5 + 1)), none, none, none, none] [] (jG0 sc) (jput h 166 (((l4 + (-1)) - 1).toNatClampNeg) 1) (0, 0))
    (o12 : ¬ (h 160 653) ≤ l5 → 3 < (h 160 ((654 + (2 * l5)).toNatClampNeg)) → ¬ (h 160 ((654 + (2 * l5)).toNatClampNeg)) = 7 → (h 160 ((654 + (2 * l5)).toNatClampNeg)) = 4 → (h 166 ((l4 + (-1)).toNatClampNeg)) ≤ (h 166 (((l4 + (-1)) - 1).toNatClampNeg)) → vp_in ((l4 + (-1)) - 1) 400)
    (v11 : ¬ (h 160 653) ≤ l5 → 3 < (h 160 ((654 + (2 * l5)).toNatClampNeg)) → ¬ (h 160 ((654 + (2 * l5)).toNatClampNeg)) = 7 → (h 160 ((654 + (2 * l5)).toNatClampNeg)) = 4 → (h 166 ((l4 + (-1)).toNatClampNeg)) ≤ (h 166 (((l4 + (-1)) - 1).toNatClampNeg)) → WP mX12_keeps Q 14 [some (.ref 159), some (.int l1), some (.int l2), some (.int l3), some (.int (l4 + (-1))), some (.int (l5 + 1)), none, none, none, none] [] (jG0 sc) (jput h 166 (((l4 + (-1)) - 1).toNatClampNeg) 0) (0, 0))
    (o13 : ¬ (h 160 653) ≤ l5 → 3 < (h 160 ((654 + (2 * l5)).toNatClampNeg)) → ¬ (h 160 ((654 + (2 * l5)).toNatClampNeg)) = 7 → (h 160 ((654 + (2 * l5)).toNatClampNeg)) = 4 → ¬ (h 166 ((l4 + (-1)).toNatClampNeg)) ≤ (h 166 (((l4 + (-1)) - 1).toNatClampNeg)) → vp_in ((l4 + (-1)) - 1) 400)
    (v12 : ¬ (h 160 653) ≤ l5 → 3 < (h 160 ((654 + (2 * l5)).toNatClampNeg)) → ¬ (h 160 ((654 + (2 * l5)).toNatClampNeg)) = 7 → (h 160 ((654 + (2 * l5)).toNatClampNeg)) = 4 → ¬ (h 166 ((l4 + (-1)).toNatClampNeg)) ≤ (h 166 (((l4 + (-1)) - 1).toNatClampNeg)) → WP mX12_keeps Q 14 [some (.ref 159), some (.int l1), some (.int l2), some (.int l3), some (.int (l4 + (-1))), some (.int (l5 + 1)), none, none, none, none] [] (jG0 sc) (jput h 166 (((l4 + (-1)) - 1).toNatClampNeg) 1) (0, 0))
    (o14 : ¬ (h 160 653) ≤ l5 → 3 < (h 160 ((654 + (2 * l5)).toNatClampNeg)) → (h 160 ((654 + (2 * l5)).toNatClampNeg)) = 7 → vp_in (l4 - 1) 400)
    (v13 : ¬ (h 160 653) ≤ l5 → 3 < (h 160 ((654 + (2 * l5)).toNatClampNeg)) → (h 160 ((654 + (2 * l5)).toNatClampNeg)) = 7 → WP mX12_keeps Q 14 [some (.ref 159), some (.int l1), some (.int l2), some (.int l3), some (.int l4), some (.int (l5 + 1)), none, none, none, none] [] (jG0 sc) (jput h 166 ((l4 - 1).toNatClampNeg) (1 - (h 166 ((l4 - 1).toNatClampNeg)))) (0, 0))
    (o15 : ¬ (h 160 653) ≤ l5 → ¬ 3 < (h 160 ((654 + (2 * l5)).toNatClampNeg)) → ¬ (h 160 ((654 + (2 * l5)).toNatClampNeg)) = 0 → ¬ (h 160 ((654 + (2 * l5)).toNatClampNeg)) = 1 → ¬ (h 160 ((654 + (2 * l5)).toNatClampNeg)) = 2 → vp_in l4 400)
    (v14 : ¬ (h 160 653) ≤ l5 → ¬ 3 < (h 160 ((654 + (2 * l5)).toNatClampNeg)) → ¬ (h 160 ((654 + (2 * l5)).toNatClampNeg)) = 0 → ¬ (h 160 ((654 + (2 * l5)).toNatClampNeg)) = 1 → ¬ (h 160 ((654 + (2 * l5)).toNatClampNeg)) = 2 → WP mX12_keeps Q 14 [some (.ref 159), some (.int l1), some (.int l2), some (.int l3), some (.int (l4 + 1)), some (.int (l5 + 1)), none, none, none, none] [] (jG0 sc) (jput h 166 l4.toNatClampNeg l3) (0, 0))
    (o16 : ¬ (h 160 653) ≤ l5 → ¬ 3 < (h 160 ((654 + (2 * l5)).toNatClampNeg)) → ¬ (h 160 ((654 + (2 * l5)).toNatClampNeg)) = 0 → ¬ (h 160 ((654 + (2 * l5)).toNatClampNeg)) = 1 → (h 160 ((654 + (2 * l5)).toNatClampNeg)) = 2 → vp_in l4 400)
    (v15 : ¬ (h 160 653) ≤ l5 → ¬ 3 < (h 160 ((654 + (2 * l5)).toNatClampNeg)) → ¬ (h 160 ((654 + (2 * l5)).toNatClampNeg)) = 0 → ¬ (h 160 ((654 + (2 * l5)).toNatClampNeg)) = 1 → (h 160 ((654 + (2 * l5)).toNatClampNeg)) = 2 → WP mX12_keeps Q 14 [some (.ref 159), some (.int l1), some (.int l2), some (.int l3), some (.int (l4 + 1)), some (.int (l5 + 1)), none, none, none, none] [] (jG0 sc) (jput h 166 l4.toNatClampNeg l2) (0, 0))
    (o17 : ¬ (h 160 653) ≤ l5 → ¬ 3 < (h 160 ((654 + (2 * l5)).toNatClampNeg)) → ¬ (h 160 ((654 + (2 * l5)).toNatClampNeg)) = 0 → (h 160 ((654 + (2 * l5)).toNatClampNeg)) = 1 → vp_in l4 400)
    (v16 : ¬ (h 160 653) ≤ l5 → ¬ 3 < (h 160 ((654 + (2 * l5)).toNatClampNeg)) → ¬ (h 160 ((654 + (2 * l5)).toNatClampNeg)) = 0 → (h 160 ((654 + (2 * l5)).toNatClampNeg)) = 1 → WP mX12_keeps Q 14 [some (.ref 159), some (.int l1), some (.int l2), some (.int l3), some (.int (l4 + 1)), some (.int (l5 + 1)), none, none, none, none] [] (jG0 sc) (jput h 166 l4.toNatClampNeg l1) (0, 0))
    (o18 : ¬ (h 160 653) ≤ l5 → ¬ 3 < (h 160 ((654 + (2 * l5)).toNatClampNeg)) → (h 160 ((654 + (2 * l5)).toNatClampNeg)) = 0 → vp_in ((654 + (2 * l5)) + 1) 1454)
    (o19 : ¬ (h 160 653) ≤ l5 → ¬ 3 < (h 160 ((654 + (2 * l5)).toNatClampNeg)) → (h 160 ((654 + (2 * l5)).toNatClampNeg)) = 0 → vp_in l4 400)
    (v17 : ¬ (h 160 653) ≤ l5 → ¬ 3 < (h 160 ((654 + (2 * l5)).toNatClampNeg)) → (h 160 ((654 + (2 * l5)).toNatClampNeg)) = 0 → WP mX12_keeps Q 14 [some (.ref 159), some (.int l1), some (.int l2), some (.int l3), some (.int (l4 + 1)), some (.int (l5 + 1)), none, none, none, none] [] (jG0 sc) (jput h 166 l4.toNatClampNeg (h 160 (((654 + (2 * l5)) + 1).toNatClampNeg))) (0, 0)) :
    WP mX12_keeps Q 14 [some (.ref 159), some (.int l1), some (.int l2), some (.int l3), some (.int l4), some (.int l5), none, none, none, none] [] (jG0 sc) h (0, 0) := by
  exact (bX12_keeps_14 (fun c1 => (bX12_keeps_286 (fun c2 => (bX12_keeps_300 (bX12_keeps_301 (by decide) (v1 c1 c2)))) (fun c2 => (bX12_keeps_296 (bX12_keeps_301 (by decide) (v2 c1 c2)))))) (fun c1 => (bX12_keeps_27 (o1 c1) (fun c3 => (bX12_keeps_105 (fun c4 => (bX12_keeps_135 (o2 c1 c3 c4) (o3 c1 c3 c4) (fun c5 => (bX12_keeps_179 (fun c6 => (bX12_keeps_200 (fun c7 => (bX12_keeps_222 (fun c8 => (bX12_keeps_246 (fun c9 => (bX12_keeps_258 (bX12_keeps_259 (fun _ => (bX12_keeps_278 (bX12_keeps_279 (o4 c1 c3 c4 c5 c6 c7 c8 c9) (bX12_keeps_280 (v3 c1 c3 c4 c5 c6 c7 c8 c9))))) (fun q => absurd q (by decide))))) (fun c9 => (bX12_keeps_254 (bX12_keeps_259 (fun q => absurd q (by decide)) (fun _ => (bX12_keeps_274 (bX12_keeps_279 (o5 c1 c3 c4 c5 c6 c7 c8 c9) (bX12_keeps_280 (v4 c1 c3 c4 c5 c6 c7 c8 c9)))))))))) (fun c8 => (bX12_keeps_229 (fun c10 => (bX12_keeps_242 (bX12_keeps_259 (fun _ => (bX12_keeps_278 (bX12_keeps_279 (o6 c1 c3 c4 c5 c6 c7 c8 c10) (bX12_keeps_280 (v5 c1 c3 c4 c5 c6 c7 c8 c10))))) (fun q => absurd q (by decide))))) (fun c10 => (bX12_keeps_238 (bX12_keeps_259 (fun q => absurd q (by decide)) (fun _ => (bX12_keeps_274 (bX12_keeps_279 (o7 c1 c3 c4 c5 c6 c7 c8 c10) (bX12_keeps_280 (v6 c1 c3 c4 c5 c6 c7 c8 c10)))))))))))) (fun c7 => (bX12_keeps_207 (fun c11 => (bX12_keeps_218 (bX12_keeps_259 (fun _ => (bX12_keeps_278 (bX12_keeps_279 (o8 c1 c3 c4 c5 c6 c7 c11) (bX12_keeps_280 (v7 c1 c3 c4 c5 c6 c7 c11))))) (fun q => absurd q (by decide))))) (fun c11 => (bX12_keeps_214 (bX12_keeps_259 (fun q => absurd q (by decide)) (fun _ => (bX12_keeps_274 (bX12_keeps_279 (o9 c1 c3 c4 c5 c6 c7 c11) (bX12_keeps_280 (v8 c1 c3 c4 c5 c6 c7 c11)))))))))))) (fun c6 => (bX12_keeps_185 (fun c12 => (bX12_keeps_196 (bX12_keeps_259 (fun _ => (bX12_keeps_278 (bX12_keeps_279 (o10 c1 c3 c4 c5 c6 c12) (bX12_keeps_280 (v9 c1 c3 c4 c5 c6 c12))))) (fun q => absurd q (by decide))))) (fun c12 => (bX12_keeps_192 (bX12_keeps_259 (fun q => absurd q (by decide)) (fun _ => (bX12_keeps_274 (bX12_keeps_279 (o11 c1 c3 c4 c5 c6 c12) (bX12_keeps_280 (v10 c1 c3 c4 c5 c6 c12)))))))))))) (fun c5 => (bX12_keeps_164 (fun c13 => (bX12_keeps_175 (bX12_keeps_259 (fun _ => (bX12_keeps_278 (bX12_keeps_279 (o12 c1 c3 c4 c5 c13) (bX12_keeps_280 (v11 c1 c3 c4 c5 c13))))) (fun q => absurd q (by decide))))) (fun c13 => (bX12_keeps_171 (bX12_keeps_259 (fun q => absurd q (by decide)) (fun _ => (bX12_keeps_274 (bX12_keeps_279 (o13 c1 c3 c4 c5 c13) (bX12_keeps_280 (v12 c1 c3 c4 c5 c13)))))))))))) (fun c4 => (bX12_keeps_112 (o14 c1 c3 c4) (o14 c1 c3 c4) (bX12_keeps_280 (v13 c1 c3 c4)))))) (fun c3 => (bX12_keeps_48 (fun c14 => (bX12_keeps_77 (fun c15 => (bX12_keeps_87 (fun c16 => (bX12_keeps_97 (bX12_keeps_98 (o15 c1 c3 c14 c15 c16) (bX12_keeps_280 (v14 c1 c3 c14 c15 c16))))) (fun c16 => (bX12_keeps_93 (bX12_keeps_98 (o16 c1 c3 c14 c15 c16) (bX12_keeps_280 (v15 c1 c3 c14 c15 c16))))))) (fun c15 => (bX12_keeps_83 (bX12_keeps_98 (o17 c1 c3 c14 c15) (bX12_keeps_280 (v16 c1 c3 c14 c15))))))) (fun c14 => (bX12_keeps_59 (o18 c1 c3 c14) (bX12_keeps_98 (o19 c1 c3 c14) (bX12_keeps_280 (v17 c1 c3 c14))))))))))
theorem dX12_atomOf_0 : decode (mC mX12_atomOf) 0 = .ok (.iload_n 1, 1) := by decide +kernel
theorem dX12_atomOf_1 : decode (mC mX12_atomOf) 1 = .ok (.bipush 10, 2) := by decide +kernel
theorem dX12_atomOf_3 : decode (mC mX12_atomOf) 3 = .ok (.if_icmp .lt 10, 3) := by decide +kernel
theorem dX12_atomOf_6 : decode (mC mX12_atomOf) 6 = .ok (.iload_n 1, 1) := by decide +kernel
theorem dX12_atomOf_7 : decode (mC mX12_atomOf) 7 = .ok (.bipush 10, 2) := by decide +kernel
theorem dX12_atomOf_9 : decode (mC mX12_atomOf) 9 = .ok (.isub, 1) := by decide +kernel
theorem dX12_atomOf_10 : decode (mC mX12_atomOf) 10 = .ok (.goto 27, 3) := by decide +kernel
theorem dX12_atomOf_13 : decode (mC mX12_atomOf) 13 = .ok (.iload_n 1, 1) := by decide +kernel
theorem dX12_atomOf_14 : decode (mC mX12_atomOf) 14 = .ok (.iconst 4, 1) := by decide +kernel
theorem dX12_atomOf_15 : decode (mC mX12_atomOf) 15 = .ok (.if_icmp .ne 7, 3) := by decide +kernel
theorem dX12_atomOf_18 : decode (mC mX12_atomOf) 18 = .ok (.iload_n 2, 1) := by decide +kernel
theorem dX12_atomOf_19 : decode (mC mX12_atomOf) 19 = .ok (.goto 18, 3) := by decide +kernel
theorem dX12_atomOf_22 : decode (mC mX12_atomOf) 22 = .ok (.iload_n 1, 1) := by decide +kernel
theorem dX12_atomOf_23 : decode (mC mX12_atomOf) 23 = .ok (.iconst 5, 1) := by decide +kernel
theorem dX12_atomOf_24 : decode (mC mX12_atomOf) 24 = .ok (.if_icmp .ne 7, 3) := by decide +kernel
theorem dX12_atomOf_27 : decode (mC mX12_atomOf) 27 = .ok (.iload_n 3, 1) := by decide +kernel
theorem dX12_atomOf_28 : decode (mC mX12_atomOf) 28 = .ok (.goto 9, 3) := by decide +kernel
theorem dX12_atomOf_31 : decode (mC mX12_atomOf) 31 = .ok (.aload_n 0, 1) := by decide +kernel
theorem dX12_atomOf_32 : decode (mC mX12_atomOf) 32 = .ok (.getfield 42, 3) := by decide +kernel
theorem dX12_atomOf_35 : decode (mC mX12_atomOf) 35 = .ok (.iload_n 1, 1) := by decide +kernel
theorem dX12_atomOf_36 : decode (mC mX12_atomOf) 36 = .ok (.iaload, 1) := by decide +kernel
theorem dX12_atomOf_37 : decode (mC mX12_atomOf) 37 = .ok (.ireturn, 1) := by decide +kernel
set_option maxRecDepth 100000 in
theorem bX12_atomOf_0 {sc : Nat × (Nat → Int32)} {h : jH} {Q : jQ} {l1 l2 l3 : Int32}
    (v1 : l1 < 10 → WP mX12_atomOf Q 13 [some (.ref 159), some (.int l1), some (.int l2), some (.int l3)] [] (jG0 sc) h (0, 0))
    (v2 : ¬ l1 < 10 → WP mX12_atomOf Q 6 [some (.ref 159), some (.int l1), some (.int l2), some (.int l3)] [] (jG0 sc) h (0, 0)) :
    WP mX12_atomOf Q 0 [some (.ref 159), some (.int l1), some (.int l2), some (.int l3)] [] (jG0 sc) h (0, 0) := by
  refine j_iload_n (i := 1) rfl dX12_atomOf_0 ?_
  refine j_bipush (n := 10) 10 (by decide) dX12_atomOf_1 ?_
  refine j_icmp_lt (off := 10) 13 dX12_atomOf_3 (by decide) (fun c1 => ?_) (fun c1 => ?_)
  · exact j_le [some (.ref 159), some (.int l1), some (.int l2), some (.int l3)] (And.intro rfl (And.intro rfl (And.intro rfl (And.intro rfl True.intro)))) (v1 c1)
  · exact j_le [some (.ref 159), some (.int l1), some (.int l2), some (.int l3)] (And.intro rfl (And.intro rfl (And.intro rfl (And.intro rfl True.intro)))) (v2 c1)
set_option maxRecDepth 100000 in
theorem bX12_atomOf_6 {sc : Nat × (Nat → Int32)} {h : jH} {Q : jQ} {l1 l2 l3 : Int32}
    (v1 : WP mX12_atomOf Q 37 [some (.ref 159), some (.int l1), some (.int l2), some (.int l3)] [.int (l1 - 10)] (jG0 sc) h (0, 0)) :
    WP mX12_atomOf Q 6 [some (.ref 159), some (.int l1), some (.int l2), some (.int l3)] [] (jG0 sc) h (0, 0) := by
  refine j_iload_n (i := 1) rfl dX12_atomOf_6 ?_
  refine j_bipush (n := 10) 10 (by decide) dX12_atomOf_7 ?_
  refine j_isub dX12_atomOf_9 ?_
  refine j_goto (off := 27) 37 dX12_atomOf_10 (by decide) ?_
  exact j_le [some (.ref 159), some (.int l1), some (.int l2), some (.int l3)] (And.intro rfl (And.intro rfl (And.intro rfl (And.intro rfl True.intro)))) v1
set_option maxRecDepth 100000 in
theorem bX12_atomOf_13 {sc : Nat × (Nat → Int32)} {h : jH} {Q : jQ} {l1 l2 l3 : Int32}
    (v1 : ¬ l1 = 4 → WP mX12_atomOf Q 22 [some (.ref 159), some (.int l1), some (.int l2), some (.int l3)] [] (jG0 sc) h (0, 0))
    (v2 : l1 = 4 → WP mX12_atomOf Q 18 [some (.ref 159), some (.int l1), some (.int l2), some (.int l3)] [] (jG0 sc) h (0, 0)) :
    WP mX12_atomOf Q 13 [some (.ref 159), some (.int l1), some (.int l2), some (.int l3)] [] (jG0 sc) h (0, 0) := by
  refine j_iload_n (i := 1) rfl dX12_atomOf_13 ?_
  refine j_iconst (n := 4) 4 (by decide) dX12_atomOf_14 ?_
  refine j_icmp_ne (off := 7) 22 dX12_atomOf_15 (by decide) (fun c1 => ?_) (fun c1 => ?_)
  · exact j_le [some (.ref 159), some (.int l1), some (.int l2), some (.int l3)] (And.intro rfl (And.intro rfl (And.intro rfl (And.intro rfl True.intro)))) (v1 c1)
  · exact j_le [some (.ref 159), some (.int l1), some (.int l2), some (.int l3)] (And.intro rfl (And.intro rfl (And.intro rfl (And.intro rfl True.intro)))) (v2 c1)
set_option maxRecDepth 100000 in
theorem bX12_atomOf_18 {sc : Nat × (Nat → Int32)} {h : jH} {Q : jQ} {l1 l2 l3 : Int32}
    (v1 : WP mX12_atomOf Q 37 [some (.ref 159), some (.int l1), some (.int l2), some (.int l3)] [.int l2] (jG0 sc) h (0, 0)) :
    WP mX12_atomOf Q 18 [some (.ref 159), some (.int l1), some (.int l2), some (.int l3)] [] (jG0 sc) h (0, 0) := by
  refine j_iload_n (i := 2) rfl dX12_atomOf_18 ?_
  refine j_goto (off := 18) 37 dX12_atomOf_19 (by decide) ?_
  exact j_le [some (.ref 159), some (.int l1), some (.int l2), some (.int l3)] (And.intro rfl (And.intro rfl (And.intro rfl (And.intro rfl True.intro)))) v1
set_option maxRecDepth 100000 in
theorem bX12_atomOf_22 {sc : Nat × (Nat → Int32)} {h : jH} {Q : jQ} {l1 l2 l3 : Int32}
    (v1 : ¬ l1 = 5 → WP mX12_atomOf Q 31 [some (.ref 159), some (.int l1), some (.int l2), some (.int l3)] [] (jG0 sc) h (0, 0))
    (v2 : l1 = 5 → WP mX12_atomOf Q 27 [some (.ref 159), some (.int l1), some (.int l2), some (.int l3)] [] (jG0 sc) h (0, 0)) :
    WP mX12_atomOf Q 22 [some (.ref 159), some (.int l1), some (.int l2), some (.int l3)] [] (jG0 sc) h (0, 0) := by
  refine j_iload_n (i := 1) rfl dX12_atomOf_22 ?_
  refine j_iconst (n := 5) 5 (by decide) dX12_atomOf_23 ?_
  refine j_icmp_ne (off := 7) 31 dX12_atomOf_24 (by decide) (fun c1 => ?_) (fun c1 => ?_)
  · exact j_le [some (.ref 159), some (.int l1), some (.int l2), some (.int l3)] (And.intro rfl (And.intro rfl (And.intro rfl (And.intro rfl True.intro)))) (v1 c1)
  · exact j_le [some (.ref 159), some (.int l1), some (.int l2), some (.int l3)] (And.intro rfl (And.intro rfl (And.intro rfl (And.intro rfl True.intro)))) (v2 c1)
set_option maxRecDepth 100000 in
theorem bX12_atomOf_27 {sc : Nat × (Nat → Int32)} {h : jH} {Q : jQ} {l1 l2 l3 : Int32}
    (v1 : WP mX12_atomOf Q 37 [some (.ref 159), some (.int l1), some (.int l2), some (.int l3)] [.int l3] (jG0 sc) h (0, 0)) :
    WP mX12_atomOf Q 27 [some (.ref 159), some (.int l1), some (.int l2), some (.int l3)] [] (jG0 sc) h (0, 0) := by
  refine j_iload_n (i := 3) rfl dX12_atomOf_27 ?_
  refine j_goto (off := 9) 37 dX12_atomOf_28 (by decide) ?_
  exact j_le [some (.ref 159), some (.int l1), some (.int l2), some (.int l3)] (And.intro rfl (And.intro rfl (And.intro rfl (And.intro rfl True.intro)))) v1
set_option maxRecDepth 100000 in
theorem bX12_atomOf_31 {sc : Nat × (Nat → Int32)} {h : jH} {Q : jQ} {l1 l2 l3 : Int32}
    (o1 : vp_in l1 4)
    (v1 : WP mX12_atomOf Q 37 [some (.ref 159), some (.int l1), some (.int l2), some (.int l3)] [.int (h 168 l1.toNatClampNeg)] (jG0 sc) h (0, 0)) :
    WP mX12_atomOf Q 31 [some (.ref 159), some (.int l1), some (.int l2), some (.int l3)] [] (jG0 sc) h (0, 0) := by
  refine j_aload_n (i := 0) rfl dX12_atomOf_31 ?_
  refine j_getR (idx := 42) (ci := 12) (k := 17) (nest := false) (show (12, 42, 12, 17, false) ∈ jFT by decide) rfl (Nat.le_of_ble_eq_true rfl) rfl (a := 168) rfl dX12_atomOf_32 ?_
  refine j_iload_n (i := 1) rfl dX12_atomOf_35 ?_
  refine j_iald (Nat.le_of_ble_eq_true rfl) rfl o1 dX12_atomOf_36 ?_
  exact j_le [some (.ref 159), some (.int l1), some (.int l2), some (.int l3)] (And.intro rfl (And.intro rfl (And.intro rfl (And.intro rfl True.intro)))) v1
set_option maxRecDepth 100000 in
theorem bX12_atomOf_37 {sc : Nat × (Nat → Int32)} {h : jH} {Q : jQ} {l1 l2 l3 s0 : Int32}
    (v1 : Q (.inl (some (.int s0))) (jG0 sc) h) :
    WP mX12_atomOf Q 37 [some (.ref 159), some (.int l1), some (.int l2), some (.int l3)] [.int s0] (jG0 sc) h (0, 0) := by
  exact j_iret rfl rfl (Nat.zero_le _) (Nat.zero_le _) dX12_atomOf_37 v1
set_option maxRecDepth 100000 in
theorem rX12_atomOf_0 {sc : Nat × (Nat → Int32)} {h : jH} {Q : jQ} {l1 l2 l3 : Int32}
    (o1 : l1 < 10 → ¬ l1 = 4 → ¬ l1 = 5 → vp_in l1 4)
    (v1 : l1 < 10 → ¬ l1 = 4 → ¬ l1 = 5 → Q (.inl (some (.int (h 168 l1.toNatClampNeg)))) (jG0 sc) h)
    (v2 : l1 < 10 → ¬ l1 = 4 → l1 = 5 → Q (.inl (some (.int l3))) (jG0 sc) h)
    (v3 : l1 < 10 → l1 = 4 → Q (.inl (some (.int l2))) (jG0 sc) h)
    (v4 : ¬ l1 < 10 → Q (.inl (some (.int (l1 - 10)))) (jG0 sc) h) :
    WP mX12_atomOf Q 0 [some (.ref 159), some (.int l1), some (.int l2), some (.int l3)] [] (jG0 sc) h (0, 0) := by
  exact (bX12_atomOf_0 (fun c1 => (bX12_atomOf_13 (fun c2 => (bX12_atomOf_22 (fun c3 => (bX12_atomOf_31 (o1 c1 c2 c3) (bX12_atomOf_37 (v1 c1 c2 c3)))) (fun c3 => (bX12_atomOf_27 (bX12_atomOf_37 (v2 c1 c2 c3)))))) (fun c2 => (bX12_atomOf_18 (bX12_atomOf_37 (v3 c1 c2)))))) (fun c1 => (bX12_atomOf_6 (bX12_atomOf_37 (v4 c1)))))
theorem dX12_restOf_0 : decode (mC mX12_restOf) 0 = .ok (.iload_n 1, 1) := by decide +kernel
theorem dX12_restOf_1 : decode (mC mX12_restOf) 1 = .ok (.iconst 0, 1) := by decide +kernel
theorem dX12_restOf_2 : decode (mC mX12_restOf) 2 = .ok (.iconst 3, 1) := by decide +kernel
theorem dX12_restOf_3 : decode (mC mX12_restOf) 3 = .ok (.invokestatic 206, 3) := by decide +kernel
theorem dX12_restOf_6 : decode (mC mX12_restOf) 6 = .ok (.ifCond .eq 12, 3) := by decide +kernel
theorem dX12_restOf_9 : decode (mC mX12_restOf) 9 = .ok (.aload_n 0, 1) := by decide +kernel
theorem dX12_restOf_10 : decode (mC mX12_restOf) 10 = .ok (.getfield 45, 3) := by decide +kernel
theorem dX12_restOf_13 : decode (mC mX12_restOf) 13 = .ok (.iload_n 1, 1) := by decide +kernel
theorem dX12_restOf_14 : decode (mC mX12_restOf) 14 = .ok (.iaload, 1) := by decide +kernel
theorem dX12_restOf_15 : decode (mC mX12_restOf) 15 = .ok (.goto 4, 3) := by decide +kernel
theorem dX12_restOf_18 : decode (mC mX12_restOf) 18 = .ok (.iconst 0, 1) := by decide +kernel
theorem dX12_restOf_19 : decode (mC mX12_restOf) 19 = .ok (.ireturn, 1) := by decide +kernel
set_option maxRecDepth 100000 in
theorem bX12_restOf_0 {sc : Nat × (Nat → Int32)} {h : jH} {Q : jQ} {l1 : Int32} {P1 : Int32 → jH → Prop}
    (k1 : JM mX12_in [.int l1, .int 0, .int 3] (jG0 sc) h (jint sc P1))
    (v1 : ∀ (x1 : Int32) (h1 : jH), P1 x1 h1 → x1 = 0 → WP mX12_restOf Q 18 [some (.ref 159), some (.int l1)] [] (jG0 sc) h1 (0, 0))
    (v2 : ∀ (x1 : Int32) (h1 : jH), P1 x1 h1 → ¬ x1 = 0 → WP mX12_restOf Q 9 [some (.ref 159), some (.int l1)] [] (jG0 sc) h1 (0, 0)) :
    WP mX12_restOf Q 0 [some (.ref 159), some (.int l1)] [] (jG0 sc) h (0, 0) := by
  refine j_iload_n (i := 1) rfl dX12_restOf_0 ?_
  refine j_iconst (n := 0) 0 (by decide) dX12_restOf_1 ?_
  refine j_iconst (n := 3) 3 (by decide) dX12_restOf_2 ?_
  refine j_callS (idx := 206) (As := [.int l1, .int 0, .int 3]) (n := 3) k1 jint_nt (jlkT (jtb7 84 rfl) rfl) sX12_in kX12_in rfl ⟨by decide +kernel, by decide +kernel, by decide +kernel⟩ rfl ⟨by decide, by decide⟩ (Nat.le_of_ble_eq_true rfl) ⟨Nat.zero_le _, Nat.zero_le _⟩ dX12_restOf_3 (fun r Γ' h1 q => ?_)
  obtain ⟨x1, q0, rfl, p1⟩ := q; cases q0
  refine j_eqst [.int x1] (by rfl) ?_
  refine j_if_eq (off := 12) 18 dX12_restOf_6 (by decide) (fun c1 => ?_) (fun c1 => ?_)
  · exact j_le [some (.ref 159), some (.int l1)] (And.intro rfl (And.intro rfl True.intro)) (v1 x1 h1 p1 c1)
  · exact j_le [some (.ref 159), some (.int l1)] (And.intro rfl (And.intro rfl True.intro)) (v2 x1 h1 p1 c1)
set_option maxRecDepth 100000 in
theorem bX12_restOf_9 {sc : Nat × (Nat → Int32)} {h : jH} {Q : jQ} {l1 : Int32}
    (o1 : vp_in l1 4)
    (v1 : WP mX12_restOf Q 19 [some (.ref 159), some (.int l1)] [.int (h 169 l1.toNatClampNeg)] (jG0 sc) h (0, 0)) :
    WP mX12_restOf Q 9 [some (.ref 159), some (.int l1)] [] (jG0 sc) h (0, 0) := by
  refine j_aload_n (i := 0) rfl dX12_restOf_9 ?_
  refine j_getR (idx := 45) (ci := 12) (k := 18) (nest := false) (show (12, 45, 12, 18, false) ∈ jFT by decide) rfl (Nat.le_of_ble_eq_true rfl) rfl (a := 169) rfl dX12_restOf_10 ?_
  refine j_iload_n (i := 1) rfl dX12_restOf_13 ?_
  refine j_iald (Nat.le_of_ble_eq_true rfl) rfl o1 dX12_restOf_14 ?_
  refine j_goto (off := 4) 19 dX12_restOf_15 (by decide) ?_
  exact j_le [some (.ref 159), some (.int l1)] (And.intro rfl (And.intro rfl True.intro)) v1
set_option maxRecDepth 100000 in
theorem bX12_restOf_18 {sc : Nat × (Nat → Int32)} {h : jH} {Q : jQ} {l1 : Int32}
    (v1 : WP mX12_restOf Q 19 [some (.ref 159), some (.int l1)] [.int 0] (jG0 sc) h (0, 0)) :
    WP mX12_restOf Q 18 [some (.ref 159), some (.int l1)] [] (jG0 sc) h (0, 0) := by
  refine j_iconst (n := 0) 0 (by decide) dX12_restOf_18 ?_
  exact j_le [some (.ref 159), some (.int l1)] (And.intro rfl (And.intro rfl True.intro)) v1
set_option maxRecDepth 100000 in
theorem bX12_restOf_19 {sc : Nat × (Nat → Int32)} {h : jH} {Q : jQ} {l1 s0 : Int32}
    (v1 : Q (.inl (some (.int s0))) (jG0 sc) h) :
    WP mX12_restOf Q 19 [some (.ref 159), some (.int l1)] [.int s0] (jG0 sc) h (0, 0) := by
  exact j_iret rfl rfl (Nat.zero_le _) (Nat.zero_le _) dX12_restOf_19 v1
set_option maxRecDepth 100000 in
theorem rX12_restOf_0 {sc : Nat × (Nat → Int32)} {h : jH} {Q : jQ} {l1 : Int32} {P1 : Int32 → jH → Prop}
    (k1 : JM mX12_in [.int l1, .int 0, .int 3] (jG0 sc) h (jint sc P1))
    (v1 : ∀ (x1 : Int32) (h1 : jH), P1 x1 h1 → x1 = 0 → Q (.inl (some (.int 0))) (jG0 sc) h1)
    (o1 : ∀ (x1 : Int32) (h1 : jH), P1 x1 h1 → ¬ x1 = 0 → vp_in l1 4)
    (v2 : ∀ (x1 : Int32) (h1 : jH), P1 x1 h1 → ¬ x1 = 0 → Q (.inl (some (.int (h1 169 l1.toNatClampNeg)))) (jG0 sc) h1) :
    WP mX12_restOf Q 0 [some (.ref 159), some (.int l1)] [] (jG0 sc) h (0, 0) := by
  exact (bX12_restOf_0 k1 (fun x1 h1 p1 c1 => (bX12_restOf_18 (bX12_restOf_19 (v1 x1 h1 p1 c1)))) (fun x1 h1 p1 c1 => (bX12_restOf_9 (o1 x1 h1 p1 c1) (bX12_restOf_19 (v2 x1 h1 p1 c1)))))
