theorem dX4_lineAt_0 : decode (mC mX4_lineAt) 0 = .ok (.iload_n 1, 1) := by decide +kernel
theorem dX4_lineAt_1 : decode (mC mX4_lineAt) 1 = .ok (.ifCond .lt 29, 3) := by decide +kernel
theorem dX4_lineAt_4 : decode (mC mX4_lineAt) 4 = .ok (.iload_n 1, 1) := by decide +kernel
theorem dX4_lineAt_5 : decode (mC mX4_lineAt) 5 = .ok (.aload_n 0, 1) := by decide +kernel
theorem dX4_lineAt_6 : decode (mC mX4_lineAt) 6 = .ok (.getfield 15, 3) := by decide +kernel
theorem dX4_lineAt_9 : decode (mC mX4_lineAt) 9 = .ok (.if_icmp .ge 21, 3) := by decide +kernel
theorem dX4_lineAt_12 : decode (mC mX4_lineAt) 12 = .ok (.iload_n 1, 1) := by decide +kernel
theorem dX4_lineAt_13 : decode (mC mX4_lineAt) 13 = .ok (.aload_n 0, 1) := by decide +kernel
theorem dX4_lineAt_14 : decode (mC mX4_lineAt) 14 = .ok (.getfield 9, 3) := by decide +kernel
theorem dX4_lineAt_17 : decode (mC mX4_lineAt) 17 = .ok (.arraylength, 1) := by decide +kernel
theorem dX4_lineAt_18 : decode (mC mX4_lineAt) 18 = .ok (.if_icmp .ge 12, 3) := by decide +kernel
theorem dX4_lineAt_21 : decode (mC mX4_lineAt) 21 = .ok (.aload_n 0, 1) := by decide +kernel
theorem dX4_lineAt_22 : decode (mC mX4_lineAt) 22 = .ok (.getfield 9, 3) := by decide +kernel
theorem dX4_lineAt_25 : decode (mC mX4_lineAt) 25 = .ok (.iload_n 1, 1) := by decide +kernel
theorem dX4_lineAt_26 : decode (mC mX4_lineAt) 26 = .ok (.iaload, 1) := by decide +kernel
theorem dX4_lineAt_27 : decode (mC mX4_lineAt) 27 = .ok (.goto 4, 3) := by decide +kernel
theorem dX4_lineAt_30 : decode (mC mX4_lineAt) 30 = .ok (.iconst 4, 1) := by decide +kernel
theorem dX4_lineAt_31 : decode (mC mX4_lineAt) 31 = .ok (.ireturn, 1) := by decide +kernel
set_option maxRecDepth 100000 in
theorem bX4_lineAt_0 {sc : Nat × (Nat → Int32)} {h : jH} {Q : jQ} {t : Nat} {l1 : Int32} (t_h : jI4 t)
    (v1 : l1 < 0 → WP mX4_lineAt Q 30 [some (.ref t), some (.int l1)] [] (jG0 sc) h (0, 0))
    (v2 : ¬ l1 < 0 → WP mX4_lineAt Q 4 [some (.ref t), some (.int l1)] [] (jG0 sc) h (0, 0)) :
    WP mX4_lineAt Q 0 [some (.ref t), some (.int l1)] [] (jG0 sc) h (0, 0) := by
  obtain ⟨t_lt1, t_K0, t_R0_0, t_K1, t_L1⟩ := t_h
  have t_lt0 : t + 0 < jN (jG0 sc) := Nat.lt_of_succ_lt t_lt1
  refine j_iload_n (i := 1) rfl dX4_lineAt_0 ?_
  refine j_if_lt (off := 29) 30 dX4_lineAt_1 (by decide) (fun c1 => ?_) (fun c1 => ?_)
  · exact j_le [some (.ref t), some (.int l1)] (And.intro rfl (And.intro rfl True.intro)) (v1 c1)
  · exact j_le [some (.ref t), some (.int l1)] (And.intro rfl (And.intro rfl True.intro)) (v2 c1)
set_option maxRecDepth 100000 in
theorem bX4_lineAt_4 {sc : Nat × (Nat → Int32)} {h : jH} {Q : jQ} {t : Nat} {l1 : Int32} (t_h : jI4 t)
    (v1 : (h t 1) ≤ l1 → WP mX4_lineAt Q 30 [some (.ref t), some (.int l1)] [] (jG0 sc) h (0, 0))
    (v2 : ¬ (h t 1) ≤ l1 → WP mX4_lineAt Q 12 [some (.ref t), some (.int l1)] [] (jG0 sc) h (0, 0)) :
    WP mX4_lineAt Q 4 [some (.ref t), some (.int l1)] [] (jG0 sc) h (0, 0) := by
  obtain ⟨t_lt1, t_K0, t_R0_0, t_K1, t_L1⟩ := t_h
  have t_lt0 : t + 0 < jN (jG0 sc) := Nat.lt_of_succ_lt t_lt1
  refine j_iload_n (i := 1) rfl dX4_lineAt_4 ?_
  refine j_aload_n (i := 0) rfl dX4_lineAt_5 ?_
  refine j_getI (idx := 15) (ci := 4) (k := 1) (nest := false) (show (4, 15, 4, 1, false) ∈ jFT by decide) rfl (t_lt0) t_K0 dX4_lineAt_6 ?_
  refine j_icmp_ge (off := 21) 30 dX4_lineAt_9 (by decide) (fun c1 => ?_) (fun c1 => ?_)
  · exact j_le [some (.ref t), some (.int l1)] (And.intro rfl (And.intro rfl True.intro)) (v1 c1)
  · exact j_le [some (.ref t), some (.int l1)] (And.intro rfl (And.intro rfl True.intro)) (v2 c1)
set_option maxRecDepth 100000 in
theorem bX4_lineAt_12 {sc : Nat × (Nat → Int32)} {h : jH} {Q : jQ} {t : Nat} {l1 : Int32} (t_h : jI4 t)
    (v1 : 10 ≤ l1 → WP mX4_lineAt Q 30 [some (.ref t), some (.int l1)] [] (jG0 sc) h (0, 0))
    (v2 : ¬ 10 ≤ l1 → WP mX4_lineAt Q 21 [some (.ref t), some (.int l1)] [] (jG0 sc) h (0, 0)) :
    WP mX4_lineAt Q 12 [some (.ref t), some (.int l1)] [] (jG0 sc) h (0, 0) := by
  obtain ⟨t_lt1, t_K0, t_R0_0, t_K1, t_L1⟩ := t_h
  have t_lt0 : t + 0 < jN (jG0 sc) := Nat.lt_of_succ_lt t_lt1
  refine j_iload_n (i := 1) rfl dX4_lineAt_12 ?_
  refine j_aload_n (i := 0) rfl dX4_lineAt_13 ?_
  refine j_getR (idx := 9) (ci := 4) (k := 0) (nest := false) (show (4, 9, 4, 0, false) ∈ jFT by decide) rfl (t_lt0) t_K0 (a := (t + 1)) t_R0_0 dX4_lineAt_14 ?_
  refine j_alen (t_lt1) t_K1 rfl 10 (by rw [show jL (jG0 sc) (t + 1) = 10 from t_L1]; rfl) dX4_lineAt_17 ?_
  refine j_icmp_ge (off := 12) 30 dX4_lineAt_18 (by decide) (fun c1 => ?_) (fun c1 => ?_)
  · exact j_le [some (.ref t), some (.int l1)] (And.intro rfl (And.intro rfl True.intro)) (v1 c1)
  · exact j_le [some (.ref t), some (.int l1)] (And.intro rfl (And.intro rfl True.intro)) (v2 c1)
set_option maxRecDepth 100000 in
theorem bX4_lineAt_21 {sc : Nat × (Nat → Int32)} {h : jH} {Q : jQ} {t : Nat} {l1 : Int32} (t_h : jI4 t)
    (o1 : vp_in l1 10)
    (v1 : WP mX4_lineAt Q 31 [some (.ref t), some (.int l1)] [.int (h (t + 1) l1.toNatClampNeg)] (jG0 sc) h (0, 0)) :
    WP mX4_lineAt Q 21 [some (.ref t), some (.int l1)] [] (jG0 sc) h (0, 0) := by
  obtain ⟨t_lt1, t_K0, t_R0_0, t_K1, t_L1⟩ := t_h
  have t_lt0 : t + 0 < jN (jG0 sc) := Nat.lt_of_succ_lt t_lt1
  refine j_aload_n (i := 0) rfl dX4_lineAt_21 ?_
  refine j_getR (idx := 9) (ci := 4) (k := 0) (nest := false) (show (4, 9, 4, 0, false) ∈ jFT by decide) rfl (t_lt0) t_K0 (a := (t + 1)) t_R0_0 dX4_lineAt_22 ?_
  refine j_iload_n (i := 1) rfl dX4_lineAt_25 ?_
  refine j_iald (t_lt1) t_K1 (by rw [show jL (jG0 sc) (t + 1) = 10 from t_L1]; exact o1) dX4_lineAt_26 ?_
  refine j_goto (off := 4) 31 dX4_lineAt_27 (by decide) ?_
  exact j_le [some (.ref t), some (.int l1)] (And.intro rfl (And.intro rfl True.intro)) v1
set_option maxRecDepth 100000 in
theorem bX4_lineAt_30 {sc : Nat × (Nat → Int32)} {h : jH} {Q : jQ} {t : Nat} {l1 : Int32} (t_h : jI4 t)
    (v1 : WP mX4_lineAt Q 31 [some (.ref t), some (.int l1)] [.int 4] (jG0 sc) h (0, 0)) :
    WP mX4_lineAt Q 30 [some (.ref t), some (.int l1)] [] (jG0 sc) h (0, 0) := by
  obtain ⟨t_lt1, t_K0, t_R0_0, t_K1, t_L1⟩ := t_h
  have t_lt0 : t + 0 < jN (jG0 sc) := Nat.lt_of_succ_lt t_lt1
  refine j_iconst (n := 4) 4 (by decide) dX4_lineAt_30 ?_
  exact j_le [some (.ref t), some (.int l1)] (And.intro rfl (And.intro rfl True.intro)) v1
set_option maxRecDepth 100000 in
theorem bX4_lineAt_31 {sc : Nat × (Nat → Int32)} {h : jH} {Q : jQ} {t : Nat} {l1 s0 : Int32} (t_h : jI4 t)
    (v1 : Q (.inl (some (.int s0))) (jG0 sc) h) :
    WP mX4_lineAt Q 31 [some (.ref t), some (.int l1)] [.int s0] (jG0 sc) h (0, 0) := by
  obtain ⟨t_lt1, t_K0, t_R0_0, t_K1, t_L1⟩ := t_h
  have t_lt0 : t + 0 < jN (jG0 sc) := Nat.lt_of_succ_lt t_lt1
  exact j_iret rfl rfl (Nat.zero_le _) (Nat.zero_le _) dX4_lineAt_31 v1
set_option maxRecDepth 100000 in
theorem rX4_lineAt_0 {sc : Nat × (Nat → Int32)} {h : jH} {Q : jQ} {t : Nat} {l1 : Int32} (t_h : jI4 t)
    (v1 : l1 < 0 → Q (.inl (some (.int 4))) (jG0 sc) h)
    (v2 : ¬ l1 < 0 → (h t 1) ≤ l1 → Q (.inl (some (.int 4))) (jG0 sc) h)
    (v3 : ¬ l1 < 0 → ¬ (h t 1) ≤ l1 → 10 ≤ l1 → Q (.inl (some (.int 4))) (jG0 sc) h)
    (o1 : ¬ l1 < 0 → ¬ (h t 1) ≤ l1 → ¬ 10 ≤ l1 → vp_in l1 10)
    (v4 : ¬ l1 < 0 → ¬ (h t 1) ≤ l1 → ¬ 10 ≤ l1 → Q (.inl (some (.int (h (t + 1) l1.toNatClampNeg)))) (jG0 sc) h) :
    WP mX4_lineAt Q 0 [some (.ref t), some (.int l1)] [] (jG0 sc) h (0, 0) := by
  exact (bX4_lineAt_0 t_h (fun c1 => (bX4_lineAt_30 t_h (bX4_lineAt_31 t_h (v1 c1)))) (fun c1 => (bX4_lineAt_4 t_h (fun c2 => (bX4_lineAt_30 t_h (bX4_lineAt_31 t_h (v2 c1 c2)))) (fun c2 => (bX4_lineAt_12 t_h (fun c3 => (bX4_lineAt_30 t_h (bX4_lineAt_31 t_h (v3 c1 c2 c3)))) (fun c3 => (bX4_lineAt_21 t_h (o1 c1 c2 c3) (bX4_lineAt_31 t_h (v4 c1 c2 c3)))))))))
theorem dX4_putLine_0 : decode (mC mX4_putLine) 0 = .ok (.iload_n 1, 1) := by decide +kernel
theorem dX4_putLine_1 : decode (mC mX4_putLine) 1 = .ok (.ifCond .lt 27, 3) := by decide +kernel
theorem dX4_putLine_4 : decode (mC mX4_putLine) 4 = .ok (.iload_n 1, 1) := by decide +kernel
theorem dX4_putLine_5 : decode (mC mX4_putLine) 5 = .ok (.aload_n 0, 1) := by decide +kernel
theorem dX4_putLine_6 : decode (mC mX4_putLine) 6 = .ok (.getfield 15, 3) := by decide +kernel
theorem dX4_putLine_9 : decode (mC mX4_putLine) 9 = .ok (.if_icmp .ge 19, 3) := by decide +kernel
theorem dX4_putLine_12 : decode (mC mX4_putLine) 12 = .ok (.iload_n 1, 1) := by decide +kernel
theorem dX4_putLine_13 : decode (mC mX4_putLine) 13 = .ok (.aload_n 0, 1) := by decide +kernel
theorem dX4_putLine_14 : decode (mC mX4_putLine) 14 = .ok (.getfield 9, 3) := by decide +kernel
theorem dX4_putLine_17 : decode (mC mX4_putLine) 17 = .ok (.arraylength, 1) := by decide +kernel
theorem dX4_putLine_18 : decode (mC mX4_putLine) 18 = .ok (.if_icmp .ge 10, 3) := by decide +kernel
theorem dX4_putLine_21 : decode (mC mX4_putLine) 21 = .ok (.aload_n 0, 1) := by decide +kernel
theorem dX4_putLine_22 : decode (mC mX4_putLine) 22 = .ok (.getfield 9, 3) := by decide +kernel
theorem dX4_putLine_25 : decode (mC mX4_putLine) 25 = .ok (.iload_n 1, 1) := by decide +kernel
theorem dX4_putLine_26 : decode (mC mX4_putLine) 26 = .ok (.iload_n 2, 1) := by decide +kernel
theorem dX4_putLine_27 : decode (mC mX4_putLine) 27 = .ok (.iastore, 1) := by decide +kernel
theorem dX4_putLine_28 : decode (mC mX4_putLine) 28 = .ok (.return_, 1) := by decide +kernel
set_option maxRecDepth 100000 in
theorem bX4_putLine_0 {sc : Nat × (Nat → Int32)} {h : jH} {Q : jQ} {t : Nat} {l1 l2 : Int32} (t_h : jI4 t)
    (v1 : l1 < 0 → WP mX4_putLine Q 28 [some (.ref t), some (.int l1), some (.int l2)] [] (jG0 sc) h (0, 0))
    (v2 : ¬ l1 < 0 → WP mX4_putLine Q 4 [some (.ref t), some (.int l1), some (.int l2)] [] (jG0 sc) h (0, 0)) :
    WP mX4_putLine Q 0 [some (.ref t), some (.int l1), some (.int l2)] [] (jG0 sc) h (0, 0) := by
  obtain ⟨t_lt1, t_K0, t_R0_0, t_K1, t_L1⟩ := t_h
  have t_lt0 : t + 0 < jN (jG0 sc) := Nat.lt_of_succ_lt t_lt1
  refine j_iload_n (i := 1) rfl dX4_putLine_0 ?_
  refine j_if_lt (off := 27) 28 dX4_putLine_1 (by decide) (fun c1 => ?_) (fun c1 => ?_)
  · exact j_le [some (.ref t), some (.int l1), some (.int l2)] (And.intro rfl (And.intro rfl (And.intro rfl True.intro))) (v1 c1)
  · exact j_le [some (.ref t), some (.int l1), some (.int l2)] (And.intro rfl (And.intro rfl (And.intro rfl True.intro))) (v2 c1)
set_option maxRecDepth 100000 in
theorem bX4_putLine_4 {sc : Nat × (Nat → Int32)} {h : jH} {Q : jQ} {t : Nat} {l1 l2 : Int32} (t_h : jI4 t)
    (v1 : (h t 1) ≤ l1 → WP mX4_putLine Q 28 [some (.ref t), some (.int l1), some (.int l2)] [] (jG0 sc) h (0, 0))
    (v2 : ¬ (h t 1) ≤ l1 → WP mX4_putLine Q 12 [some (.ref t), some (.int l1), some (.int l2)] [] (jG0 sc) h (0, 0)) :
    WP mX4_putLine Q 4 [some (.ref t), some (.int l1), some (.int l2)] [] (jG0 sc) h (0, 0) := by
  obtain ⟨t_lt1, t_K0, t_R0_0, t_K1, t_L1⟩ := t_h
  have t_lt0 : t + 0 < jN (jG0 sc) := Nat.lt_of_succ_lt t_lt1
  refine j_iload_n (i := 1) rfl dX4_putLine_4 ?_
  refine j_aload_n (i := 0) rfl dX4_putLine_5 ?_
  refine j_getI (idx := 15) (ci := 4) (k := 1) (nest := false) (show (4, 15, 4, 1, false) ∈ jFT by decide) rfl (t_lt0) t_K0 dX4_putLine_6 ?_
  refine j_icmp_ge (off := 19) 28 dX4_putLine_9 (by decide) (fun c1 => ?_) (fun c1 => ?_)
  · exact j_le [some (.ref t), some (.int l1), some (.int l2)] (And.intro rfl (And.intro rfl (And.intro rfl True.intro))) (v1 c1)
  · exact j_le [some (.ref t), some (.int l1), some (.int l2)] (And.intro rfl (And.intro rfl (And.intro rfl True.intro))) (v2 c1)
set_option maxRecDepth 100000 in
theorem bX4_putLine_12 {sc : Nat × (Nat → Int32)} {h : jH} {Q : jQ} {t : Nat} {l1 l2 : Int32} (t_h : jI4 t)
    (v1 : 10 ≤ l1 → WP mX4_putLine Q 28 [some (.ref t), some (.int l1), some (.int l2)] [] (jG0 sc) h (0, 0))
    (v2 : ¬ 10 ≤ l1 → WP mX4_putLine Q 21 [some (.ref t), some (.int l1), some (.int l2)] [] (jG0 sc) h (0, 0)) :
    WP mX4_putLine Q 12 [some (.ref t), some (.int l1), some (.int l2)] [] (jG0 sc) h (0, 0) := by
  obtain ⟨t_lt1, t_K0, t_R0_0, t_K1, t_L1⟩ := t_h
  have t_lt0 : t + 0 < jN (jG0 sc) := Nat.lt_of_succ_lt t_lt1
  refine j_iload_n (i := 1) rfl dX4_putLine_12 ?_
  refine j_aload_n (i := 0) rfl dX4_putLine_13 ?_
  refine j_getR (idx := 9) (ci := 4) (k := 0) (nest := false) (show (4, 9, 4, 0, false) ∈ jFT by decide) rfl (t_lt0) t_K0 (a := (t + 1)) t_R0_0 dX4_putLine_14 ?_
  refine j_alen (t_lt1) t_K1 rfl 10 (by rw [show jL (jG0 sc) (t + 1) = 10 from t_L1]; rfl) dX4_putLine_17 ?_
  refine j_icmp_ge (off := 10) 28 dX4_putLine_18 (by decide) (fun c1 => ?_) (fun c1 => ?_)
  · exact j_le [some (.ref t), some (.int l1), some (.int l2)] (And.intro rfl (And.intro rfl (And.intro rfl True.intro))) (v1 c1)
  · exact j_le [some (.ref t), some (.int l1), some (.int l2)] (And.intro rfl (And.intro rfl (And.intro rfl True.intro))) (v2 c1)
set_option maxRecDepth 100000 in
theorem bX4_putLine_21 {sc : Nat × (Nat → Int32)} {h : jH} {Q : jQ} {t : Nat} {l1 l2 : Int32} (t_h : jI4 t)
    (o1 : vp_in l1 10)
    (v1 : WP mX4_putLine Q 28 [some (.ref t), some (.int l1), some (.int l2)] [] (jG0 sc) (jput h (t + 1) l1.toNatClampNeg l2) (0, 0)) :
    WP mX4_putLine Q 21 [some (.ref t), some (.int l1), some (.int l2)] [] (jG0 sc) h (0, 0) := by
  obtain ⟨t_lt1, t_K0, t_R0_0, t_K1, t_L1⟩ := t_h
  have t_lt0 : t + 0 < jN (jG0 sc) := Nat.lt_of_succ_lt t_lt1
  refine j_aload_n (i := 0) rfl dX4_putLine_21 ?_
  refine j_getR (idx := 9) (ci := 4) (k := 0) (nest := false) (show (4, 9, 4, 0, false) ∈ jFT by decide) rfl (t_lt0) t_K0 (a := (t + 1)) t_R0_0 dX4_putLine_22 ?_
  refine j_iload_n (i := 1) rfl dX4_putLine_25 ?_
  refine j_iload_n (i := 2) rfl dX4_putLine_26 ?_
  refine j_iast (t_lt1) t_K1 (by rw [show jL (jG0 sc) (t + 1) = 10 from t_L1]; exact o1) dX4_putLine_27 ?_
  exact j_le [some (.ref t), some (.int l1), some (.int l2)] (And.intro rfl (And.intro rfl (And.intro rfl True.intro))) v1
set_option maxRecDepth 100000 in
theorem bX4_putLine_28 {sc : Nat × (Nat → Int32)} {h : jH} {Q : jQ} {t : Nat} {l1 l2 : Int32} (t_h : jI4 t)
    (v1 : Q (.inl none) (jG0 sc) h) :
    WP mX4_putLine Q 28 [some (.ref t), some (.int l1), some (.int l2)] [] (jG0 sc) h (0, 0) := by
  obtain ⟨t_lt1, t_K0, t_R0_0, t_K1, t_L1⟩ := t_h
  have t_lt0 : t + 0 < jN (jG0 sc) := Nat.lt_of_succ_lt t_lt1
  exact j_vret rfl (Nat.zero_le _) (Nat.zero_le _) dX4_putLine_28 v1
set_option maxRecDepth 100000 in
theorem rX4_putLine_0 {sc : Nat × (Nat → Int32)} {h : jH} {Q : jQ} {t : Nat} {l1 l2 : Int32} (t_h : jI4 t)
    (v1 : l1 < 0 → Q (.inl none) (jG0 sc) h)
    (v2 : ¬ l1 < 0 → (h t 1) ≤ l1 → Q (.inl none) (jG0 sc) h)
    (v3 : ¬ l1 < 0 → ¬ (h t 1) ≤ l1 → 10 ≤ l1 → Q (.inl none) (jG0 sc) h)
    (o1 : ¬ l1 < 0 → ¬ (h t 1) ≤ l1 → ¬ 10 ≤ l1 → vp_in l1 10)
    (v4 : ¬ l1 < 0 → ¬ (h t 1) ≤ l1 → ¬ 10 ≤ l1 → Q (.inl none) (jG0 sc) (jput h (t + 1) l1.toNatClampNeg l2)) :
    WP mX4_putLine Q 0 [some (.ref t), some (.int l1), some (.int l2)] [] (jG0 sc) h (0, 0) := by
  exact (bX4_putLine_0 t_h (fun c1 => (bX4_putLine_28 t_h (v1 c1))) (fun c1 => (bX4_putLine_4 t_h (fun c2 => (bX4_putLine_28 t_h (v2 c1 c2))) (fun c2 => (bX4_putLine_12 t_h (fun c3 => (bX4_putLine_28 t_h (v3 c1 c2 c3))) (fun c3 => (bX4_putLine_21 t_h (o1 c1 c2 c3) (bX4_putLine_28 t_h (v4 c1 c2 c3)))))))))
theorem dX4_add_0 : decode (mC mX4_add) 0 = .ok (.aload_n 0, 1) := by decide +kernel
theorem dX4_add_1 : decode (mC mX4_add) 1 = .ok (.getfield 15, 3) := by decide +kernel
theorem dX4_add_4 : decode (mC mX4_add) 4 = .ok (.ifCond .lt 35, 3) := by decide +kernel
theorem dX4_add_7 : decode (mC mX4_add) 7 = .ok (.aload_n 0, 1) := by decide +kernel
theorem dX4_add_8 : decode (mC mX4_add) 8 = .ok (.getfield 15, 3) := by decide +kernel
theorem dX4_add_11 : decode (mC mX4_add) 11 = .ok (.aload_n 0, 1) := by decide +kernel
theorem dX4_add_12 : decode (mC mX4_add) 12 = .ok (.getfield 9, 3) := by decide +kernel
theorem dX4_add_15 : decode (mC mX4_add) 15 = .ok (.arraylength, 1) := by decide +kernel
theorem dX4_add_16 : decode (mC mX4_add) 16 = .ok (.if_icmp .ge 23, 3) := by decide +kernel
theorem dX4_add_19 : decode (mC mX4_add) 19 = .ok (.aload_n 0, 1) := by decide +kernel
theorem dX4_add_20 : decode (mC mX4_add) 20 = .ok (.getfield 9, 3) := by decide +kernel
theorem dX4_add_23 : decode (mC mX4_add) 23 = .ok (.aload_n 0, 1) := by decide +kernel
theorem dX4_add_24 : decode (mC mX4_add) 24 = .ok (.getfield 15, 3) := by decide +kernel
theorem dX4_add_27 : decode (mC mX4_add) 27 = .ok (.iload_n 1, 1) := by decide +kernel
theorem dX4_add_28 : decode (mC mX4_add) 28 = .ok (.iastore, 1) := by decide +kernel
theorem dX4_add_29 : decode (mC mX4_add) 29 = .ok (.aload_n 0, 1) := by decide +kernel
theorem dX4_add_30 : decode (mC mX4_add) 30 = .ok (.dup, 1) := by decide +kernel
theorem dX4_add_31 : decode (mC mX4_add) 31 = .ok (.getfield 15, 3) := by decide +kernel
theorem dX4_add_34 : decode (mC mX4_add) 34 = .ok (.iconst 1, 1) := by decide +kernel
theorem dX4_add_35 : decode (mC mX4_add) 35 = .ok (.iadd, 1) := by decide +kernel
theorem dX4_add_36 : decode (mC mX4_add) 36 = .ok (.putfield 15, 3) := by decide +kernel
theorem dX4_add_39 : decode (mC mX4_add) 39 = .ok (.return_, 1) := by decide +kernel
set_option maxRecDepth 100000 in
theorem bX4_add_0 {sc : Nat × (Nat → Int32)} {h : jH} {Q : jQ} {t : Nat} {l1 : Int32} (t_h : jI4 t)
    (v1 : (h t 1) < 0 → WP mX4_add Q 39 [some (.ref t), some (.int l1)] [] (jG0 sc) h (0, 0))
    (v2 : ¬ (h t 1) < 0 → WP mX4_add Q 7 [some (.ref t), some (.int l1)] [] (jG0 sc) h (0, 0)) :
    WP mX4_add Q 0 [some (.ref t), some (.int l1)] [] (jG0 sc) h (0, 0) := by
  obtain ⟨t_lt1, t_K0, t_R0_0, t_K1, t_L1⟩ := t_h
  have t_lt0 : t + 0 < jN (jG0 sc) := Nat.lt_of_succ_lt t_lt1
  refine j_aload_n (i := 0) rfl dX4_add_0 ?_
  refine j_getI (idx := 15) (ci := 4) (k := 1) (nest := false) (show (4, 15, 4, 1, false) ∈ jFT by decide) rfl (t_lt0) t_K0 dX4_add_1 ?_
  refine j_if_lt (off := 35) 39 dX4_add_4 (by decide) (fun c1 => ?_) (fun c1 => ?_)
  · exact j_le [some (.ref t), some (.int l1)] (And.intro rfl (And.intro rfl True.intro)) (v1 c1)
  · exact j_le [some (.ref t), some (.int l1)] (And.intro rfl (And.intro rfl True.intro)) (v2 c1)
set_option maxRecDepth 100000 in
theorem bX4_add_7 {sc : Nat × (Nat → Int32)} {h : jH} {Q : jQ} {t : Nat} {l1 : Int32} (t_h : jI4 t)
    (v1 : 10 ≤ (h t 1) → WP mX4_add Q 39 [some (.ref t), some (.int l1)] [] (jG0 sc) h (0, 0))
    (v2 : ¬ 10 ≤ (h t 1) → WP mX4_add Q 19 [some (.ref t), some (.int l1)] [] (jG0 sc) h (0, 0)) :
    WP mX4_add Q 7 [some (.ref t), some (.int l1)] [] (jG0 sc) h (0, 0) := by
  obtain ⟨t_lt1, t_K0, t_R0_0, t_K1, t_L1⟩ := t_h
  have t_lt0 : t + 0 < jN (jG0 sc) := Nat.lt_of_succ_lt t_lt1
  refine j_aload_n (i := 0) rfl dX4_add_7 ?_
  refine j_getI (idx := 15) (ci := 4) (k := 1) (nest := false) (show (4, 15, 4, 1, false) ∈ jFT by decide) rfl (t_lt0) t_K0 dX4_add_8 ?_
  refine j_aload_n (i := 0) rfl dX4_add_11 ?_
  refine j_getR (idx := 9) (ci := 4) (k := 0) (nest := false) (show (4, 9, 4, 0, false) ∈ jFT by decide) rfl (t_lt0) t_K0 (a := (t + 1)) t_R0_0 dX4_add_12 ?_
  refine j_alen (t_lt1) t_K1 rfl 10 (by rw [show jL (jG0 sc) (t + 1) = 10 from t_L1]; rfl) dX4_add_15 ?_
  refine j_icmp_ge (off := 23) 39 dX4_add_16 (by decide) (fun c1 => ?_) (fun c1 => ?_)
  · exact j_le [some (.ref t), some (.int l1)] (And.intro rfl (And.intro rfl True.intro)) (v1 c1)
  · exact j_le [some (.ref t), some (.int l1)] (And.intro rfl (And.intro rfl True.intro)) (v2 c1)
set_option maxRecDepth 100000 in
theorem bX4_add_19 {sc : Nat × (Nat → Int32)} {h : jH} {Q : jQ} {t : Nat} {l1 : Int32} (t_h : jI4 t)
    (o1 : vp_in (h t 1) 10)
    (v1 : WP mX4_add Q 39 [some (.ref t), some (.int l1)] [] (jG0 sc) (jput (jput h (t + 1) ((h t 1).toNatClampNeg) l1) t 1 (((jput h (t + 1) ((h t 1).toNatClampNeg) l1) t 1) + 1)) (0, 0)) :
    WP mX4_add Q 19 [some (.ref t), some (.int l1)] [] (jG0 sc) h (0, 0) := by
  obtain ⟨t_lt1, t_K0, t_R0_0, t_K1, t_L1⟩ := t_h
  have t_lt0 : t + 0 < jN (jG0 sc) := Nat.lt_of_succ_lt t_lt1
  refine j_aload_n (i := 0) rfl dX4_add_19 ?_
  refine j_getR (idx := 9) (ci := 4) (k := 0) (nest := false) (show (4, 9, 4, 0, false) ∈ jFT by decide) rfl (t_lt0) t_K0 (a := (t + 1)) t_R0_0 dX4_add_20 ?_
  refine j_aload_n (i := 0) rfl dX4_add_23 ?_
  refine j_getI (idx := 15) (ci := 4) (k := 1) (nest := false) (show (4, 15, 4, 1, false) ∈ jFT by decide) rfl (t_lt0) t_K0 dX4_add_24 ?_
  refine j_iload_n (i := 1) rfl dX4_add_27 ?_
  refine j_iast (t_lt1) t_K1 (by rw [show jL (jG0 sc) (t + 1) = 10 from t_L1]; exact o1) dX4_add_28 ?_
  refine j_aload_n (i := 0) rfl dX4_add_29 ?_
  refine j_dup rfl dX4_add_30 ?_
  refine j_getI (idx := 15) (ci := 4) (k := 1) (nest := false) (show (4, 15, 4, 1, false) ∈ jFT by decide) rfl (t_lt0) t_K0 dX4_add_31 ?_
  refine j_iconst (n := 1) 1 (by decide) dX4_add_34 ?_
  refine j_iadd dX4_add_35 ?_
  refine j_putI (idx := 15) (ci := 4) (k := 1) (nest := false) (show (4, 15, 4, 1, false) ∈ jFT by decide) rfl rfl rfl rfl (t_lt0) t_K0 dX4_add_36 ?_
  exact j_le [some (.ref t), some (.int l1)] (And.intro rfl (And.intro rfl True.intro)) v1
set_option maxRecDepth 100000 in
theorem bX4_add_39 {sc : Nat × (Nat → Int32)} {h : jH} {Q : jQ} {t : Nat} {l1 : Int32} (t_h : jI4 t)
    (v1 : Q (.inl none) (jG0 sc) h) :
    WP mX4_add Q 39 [some (.ref t), some (.int l1)] [] (jG0 sc) h (0, 0) := by
  obtain ⟨t_lt1, t_K0, t_R0_0, t_K1, t_L1⟩ := t_h
  have t_lt0 : t + 0 < jN (jG0 sc) := Nat.lt_of_succ_lt t_lt1
  exact j_vret rfl (Nat.zero_le _) (Nat.zero_le _) dX4_add_39 v1
set_option maxRecDepth 100000 in
theorem rX4_add_0 {sc : Nat × (Nat → Int32)} {h : jH} {Q : jQ} {t : Nat} {l1 : Int32} (t_h : jI4 t)
    (v1 : (h t 1) < 0 → Q (.inl none) (jG0 sc) h)
    (v2 : ¬ (h t 1) < 0 → 10 ≤ (h t 1) → Q (.inl none) (jG0 sc) h)
    (o1 : ¬ (h t 1) < 0 → ¬ 10 ≤ (h t 1) → vp_in (h t 1) 10)
    (v3 : ¬ (h t 1) < 0 → ¬ 10 ≤ (h t 1) → Q (.inl none) (jG0 sc) (jput (jput h (t + 1) ((h t 1).toNatClampNeg) l1) t 1 (((jput h (t + 1) ((h t 1).toNatClampNeg) l1) t 1) + 1))) :
    WP mX4_add Q 0 [some (.ref t), some (.int l1)] [] (jG0 sc) h (0, 0) := by
  exact (bX4_add_0 t_h (fun c1 => (bX4_add_39 t_h (v1 c1))) (fun c1 => (bX4_add_7 t_h (fun c2 => (bX4_add_39 t_h (v2 c1 c2))) (fun c2 => (bX4_add_19 t_h (o1 c1 c2) (bX4_add_39 t_h (v3 c1 c2)))))))
theorem dX4_copyOf_0 : decode (mC mX4_copyOf) 0 = .ok (.iconst 0, 1) := by decide +kernel
theorem dX4_copyOf_1 : decode (mC mX4_copyOf) 1 = .ok (.istore_n 2, 1) := by decide +kernel
theorem dX4_copyOf_2 : decode (mC mX4_copyOf) 2 = .ok (.iload_n 2, 1) := by decide +kernel
theorem dX4_copyOf_3 : decode (mC mX4_copyOf) 3 = .ok (.bipush 10, 2) := by decide +kernel
theorem dX4_copyOf_5 : decode (mC mX4_copyOf) 5 = .ok (.if_icmp .ge 21, 3) := by decide +kernel
theorem dX4_copyOf_8 : decode (mC mX4_copyOf) 8 = .ok (.aload_n 0, 1) := by decide +kernel
theorem dX4_copyOf_9 : decode (mC mX4_copyOf) 9 = .ok (.getfield 9, 3) := by decide +kernel
theorem dX4_copyOf_12 : decode (mC mX4_copyOf) 12 = .ok (.iload_n 2, 1) := by decide +kernel
theorem dX4_copyOf_13 : decode (mC mX4_copyOf) 13 = .ok (.aload_n 1, 1) := by decide +kernel
theorem dX4_copyOf_14 : decode (mC mX4_copyOf) 14 = .ok (.getfield 9, 3) := by decide +kernel
theorem dX4_copyOf_17 : decode (mC mX4_copyOf) 17 = .ok (.iload_n 2, 1) := by decide +kernel
theorem dX4_copyOf_18 : decode (mC mX4_copyOf) 18 = .ok (.iaload, 1) := by decide +kernel
theorem dX4_copyOf_19 : decode (mC mX4_copyOf) 19 = .ok (.iastore, 1) := by decide +kernel
theorem dX4_copyOf_20 : decode (mC mX4_copyOf) 20 = .ok (.iinc 2 1, 3) := by decide +kernel
theorem dX4_copyOf_23 : decode (mC mX4_copyOf) 23 = .ok (.goto (-21), 3) := by decide +kernel
theorem dX4_copyOf_26 : decode (mC mX4_copyOf) 26 = .ok (.aload_n 0, 1) := by decide +kernel
theorem dX4_copyOf_27 : decode (mC mX4_copyOf) 27 = .ok (.aload_n 1, 1) := by decide +kernel
theorem dX4_copyOf_28 : decode (mC mX4_copyOf) 28 = .ok (.getfield 15, 3) := by decide +kernel
theorem dX4_copyOf_31 : decode (mC mX4_copyOf) 31 = .ok (.putfield 15, 3) := by decide +kernel
theorem dX4_copyOf_34 : decode (mC mX4_copyOf) 34 = .ok (.return_, 1) := by decide +kernel
set_option maxRecDepth 100000 in
theorem bX4_copyOf_0 {sc : Nat × (Nat → Int32)} {h : jH} {Q : jQ} {a : Nat} {t : Nat} (a_h : jI4 a) (t_h : jI4 t)
    (v1 : WP mX4_copyOf Q 2 [some (.ref t), some (.ref a), some (.int 0)] [] (jG0 sc) h (0, 0)) :
    WP mX4_copyOf Q 0 [some (.ref t), some (.ref a), none] [] (jG0 sc) h (0, 0) := by
  obtain ⟨a_lt1, a_K0, a_R0_0, a_K1, a_L1⟩ := a_h
  have a_lt0 : a + 0 < jN (jG0 sc) := Nat.lt_of_succ_lt a_lt1
  obtain ⟨t_lt1, t_K0, t_R0_0, t_K1, t_L1⟩ := t_h
  have t_lt0 : t + 0 < jN (jG0 sc) := Nat.lt_of_succ_lt t_lt1
  refine j_iconst (n := 0) 0 (by decide) dX4_copyOf_0 ?_
  refine j_istore_n (i := 2) dX4_copyOf_1 (Nat.le_of_ble_eq_true rfl) ?_
  exact j_le [some (.ref t), some (.ref a), some (.int 0)] (And.intro rfl (And.intro rfl (And.intro rfl True.intro))) v1
set_option maxRecDepth 100000 in
theorem bX4_copyOf_2 {sc : Nat × (Nat → Int32)} {h : jH} {Q : jQ} {a : Nat} {t : Nat} {l2 : Int32} (a_h : jI4 a) (t_h : jI4 t)
    (v1 : 10 ≤ l2 → WP mX4_copyOf Q 26 [some (.ref t), some (.ref a), some (.int l2)] [] (jG0 sc) h (0, 0))
    (v2 : ¬ 10 ≤ l2 → WP mX4_copyOf Q 8 [some (.ref t), some (.ref a), some (.int l2)] [] (jG0 sc) h (0, 0)) :
    WP mX4_copyOf Q 2 [some (.ref t), some (.ref a), some (.int l2)] [] (jG0 sc) h (0, 0) := by
  obtain ⟨a_lt1, a_K0, a_R0_0, a_K1, a_L1⟩ := a_h
  have a_lt0 : a + 0 < jN (jG0 sc) := Nat.lt_of_succ_lt a_lt1
  obtain ⟨t_lt1, t_K0, t_R0_0, t_K1, t_L1⟩ := t_h
  have t_lt0 : t + 0 < jN (jG0 sc) := Nat.lt_of_succ_lt t_lt1
  refine j_iload_n (i := 2) rfl dX4_copyOf_2 ?_
  refine j_bipush (n := 10) 10 (by decide) dX4_copyOf_3 ?_
  refine j_icmp_ge (off := 21) 26 dX4_copyOf_5 (by decide) (fun c1 => ?_) (fun c1 => ?_)
  · exact j_le [some (.ref t), some (.ref a), some (.int l2)] (And.intro rfl (And.intro rfl (And.intro rfl True.intro))) (v1 c1)
  · exact j_le [some (.ref t), some (.ref a), some (.int l2)] (And.intro rfl (And.intro rfl (And.intro rfl True.intro))) (v2 c1)
set_option maxRecDepth 100000 in
theorem bX4_copyOf_8 {sc : Nat × (Nat → Int32)} {h : jH} {Q : jQ} {a : Nat} {t : Nat} {l2 : Int32} (a_h : jI4 a) (t_h : jI4 t)
    (o1 : vp_in l2 10)
    (o2 : vp_in l2 10)
    (v1 : WP mX4_copyOf Q 2 [some (.ref t), some (.ref a), some (.int (l2 + 1))] [] (jG0 sc) (jput h (t + 1) l2.toNatClampNeg (h (a + 1) l2.toNatClampNeg)) (0, 0)) :
    WP mX4_copyOf Q 8 [some (.ref t), some (.ref a), some (.int l2)] [] (jG0 sc) h (0, 0) := by
  obtain ⟨a_lt1, a_K0, a_R0_0, a_K1, a_L1⟩ := a_h
  have a_lt0 : a + 0 < jN (jG0 sc) := Nat.lt_of_succ_lt a_lt1
  obtain ⟨t_lt1, t_K0, t_R0_0, t_K1, t_L1⟩ := t_h
  have t_lt0 : t + 0 < jN (jG0 sc) := Nat.lt_of_succ_lt t_lt1
  refine j_aload_n (i := 0) rfl dX4_copyOf_8 ?_
  refine j_getR (idx := 9) (ci := 4) (k := 0) (nest := false) (show (4, 9, 4, 0, false) ∈ jFT by decide) rfl (t_lt0) t_K0 (a := (t + 1)) t_R0_0 dX4_copyOf_9 ?_
  refine j_iload_n (i := 2) rfl dX4_copyOf_12 ?_
  refine j_aload_n (i := 1) rfl dX4_copyOf_13 ?_
  refine j_getR (idx := 9) (ci := 4) (k := 0) (nest := false) (show (4, 9, 4, 0, false) ∈ jFT by decide) rfl (a_lt0) a_K0 (a := (a + 1)) a_R0_0 dX4_copyOf_14 ?_
  refine j_iload_n (i := 2) rfl dX4_copyOf_17 ?_
  refine j_iald (a_lt1) a_K1 (by rw [show jL (jG0 sc) (a + 1) = 10 from a_L1]; exact o1) dX4_copyOf_18 ?_
  refine j_iast (t_lt1) t_K1 (by rw [show jL (jG0 sc) (t + 1) = 10 from t_L1]; exact o2) dX4_copyOf_19 ?_
  refine j_iinc (i := 2) (n := 1) rfl dX4_copyOf_20 (Nat.le_of_ble_eq_true rfl) ?_
  refine j_eqlv [some (.ref t), some (.ref a), some (.int (l2 + 1))] rfl ?_
  refine j_goto (off := -21) 2 dX4_copyOf_23 (by decide) ?_
  exact j_le [some (.ref t), some (.ref a), some (.int (l2 + 1))] (And.intro rfl (And.intro rfl (And.intro rfl True.intro))) v1
set_option maxRecDepth 100000 in
theorem bX4_copyOf_26 {sc : Nat × (Nat → Int32)} {h : jH} {Q : jQ} {a : Nat} {t : Nat} {l2 : Int32} (a_h : jI4 a) (t_h : jI4 t)
    (v1 : Q (.inl none) (jG0 sc) (jput h t 1 (h a 1))) :
    WP mX4_copyOf Q 26 [some (.ref t), some (.ref a), some (.int l2)] [] (jG0 sc) h (0, 0) := by
  obtain ⟨a_lt1, a_K0, a_R0_0, a_K1, a_L1⟩ := a_h
  have a_lt0 : a + 0 < jN (jG0 sc) := Nat.lt_of_succ_lt a_lt1
  obtain ⟨t_lt1, t_K0, t_R0_0, t_K1, t_L1⟩ := t_h
  have t_lt0 : t + 0 < jN (jG0 sc) := Nat.lt_of_succ_lt t_lt1
  refine j_aload_n (i := 0) rfl dX4_copyOf_26 ?_
  refine j_aload_n (i := 1) rfl dX4_copyOf_27 ?_
  refine j_getI (idx := 15) (ci := 4) (k := 1) (nest := false) (show (4, 15, 4, 1, false) ∈ jFT by decide) rfl (a_lt0) a_K0 dX4_copyOf_28 ?_
  refine j_putI (idx := 15) (ci := 4) (k := 1) (nest := false) (show (4, 15, 4, 1, false) ∈ jFT by decide) rfl rfl rfl rfl (t_lt0) t_K0 dX4_copyOf_31 ?_
  exact j_vret rfl (Nat.zero_le _) (Nat.zero_le _) dX4_copyOf_34 v1
set_option maxRecDepth 100000 in
theorem rX4_copyOf_0 {sc : Nat × (Nat → Int32)} {h : jH} {Q : jQ} {a : Nat} {t : Nat} (a_h : jI4 a) (t_h : jI4 t)
    (v1 : WP mX4_copyOf Q 2 [some (.ref t), some (.ref a), some (.int 0)] [] (jG0 sc) h (0, 0)) :
    WP mX4_copyOf Q 0 [some (.ref t), some (.ref a), none] [] (jG0 sc) h (0, 0) := by
  exact (bX4_copyOf_0 a_h t_h v1)
set_option maxRecDepth 100000 in
theorem rX4_copyOf_2 {sc : Nat × (Nat → Int32)} {h : jH} {Q : jQ} {a : Nat} {t : Nat} {l2 : Int32} (a_h : jI4 a) (t_h : jI4 t)
    (v1 : 10 ≤ l2 → Q (.inl none) (jG0 sc) (jput h t 1 (h a 1)))
    (o1 : ¬ 10 ≤ l2 → vp_in l2 10)
    (v2 : ¬ 10 ≤ l2 → WP mX4_copyOf Q 2 [some (.ref t), some (.ref a), some (.int (l2 + 1))] [] (jG0 sc) (jput h (t + 1) l2.toNatClampNeg (h (a + 1) l2.toNatClampNeg)) (0, 0)) :
    WP mX4_copyOf Q 2 [some (.ref t), some (.ref a), some (.int l2)] [] (jG0 sc) h (0, 0) := by
  exact (bX4_copyOf_2 a_h t_h (fun c1 => (bX4_copyOf_26 a_h t_h (v1 c1))) (fun c1 => (bX4_copyOf_8 a_h t_h (o1 c1) (o1 c1) (v2 c1))))
theorem dX10_through_0 : decode (mC mX10_through) 0 = .ok (.aload_n 0, 1) := by decide +kernel
theorem dX10_through_1 : decode (mC mX10_through) 1 = .ok (.iload_n 2, 1) := by decide +kernel
theorem dX10_through_2 : decode (mC mX10_through) 2 = .ok (.iload_n 3, 1) := by decide +kernel
theorem dX10_through_3 : decode (mC mX10_through) 3 = .ok (.invokevirtual 22, 3) := by decide +kernel
theorem dX10_through_6 : decode (mC mX10_through) 6 = .ok (.iconst 0, 1) := by decide +kernel
theorem dX10_through_7 : decode (mC mX10_through) 7 = .ok (.istore 4, 2) := by decide +kernel
theorem dX10_through_9 : decode (mC mX10_through) 9 = .ok (.iconst 0, 1) := by decide +kernel
theorem dX10_through_10 : decode (mC mX10_through) 10 = .ok (.istore 5, 2) := by decide +kernel
theorem dX10_through_12 : decode (mC mX10_through) 12 = .ok (.iload 5, 2) := by decide +kernel
theorem dX10_through_14 : decode (mC mX10_through) 14 = .ok (.bipush 100, 2) := by decide +kernel
theorem dX10_through_16 : decode (mC mX10_through) 16 = .ok (.if_icmp .ge 62, 3) := by decide +kernel
theorem dX10_through_19 : decode (mC mX10_through) 19 = .ok (.iload 4, 2) := by decide +kernel
theorem dX10_through_21 : decode (mC mX10_through) 21 = .ok (.aload_n 1, 1) := by decide +kernel
theorem dX10_through_22 : decode (mC mX10_through) 22 = .ok (.getfield 26, 3) := by decide +kernel
theorem dX10_through_25 : decode (mC mX10_through) 25 = .ok (.if_icmp .ge 53, 3) := by decide +kernel
theorem dX10_through_28 : decode (mC mX10_through) 28 = .ok (.aload_n 0, 1) := by decide +kernel
theorem dX10_through_29 : decode (mC mX10_through) 29 = .ok (.getfield 31, 3) := by decide +kernel
theorem dX10_through_32 : decode (mC mX10_through) 32 = .ok (.ifCond .ne 46, 3) := by decide +kernel
theorem dX10_through_35 : decode (mC mX10_through) 35 = .ok (.aload_n 0, 1) := by decide +kernel
theorem dX10_through_36 : decode (mC mX10_through) 36 = .ok (.dup, 1) := by decide +kernel
theorem dX10_through_37 : decode (mC mX10_through) 37 = .ok (.getfield 35, 3) := by decide +kernel
theorem dX10_through_40 : decode (mC mX10_through) 40 = .ok (.iconst 1, 1) := by decide +kernel
theorem dX10_through_41 : decode (mC mX10_through) 41 = .ok (.iload 4, 2) := by decide +kernel
theorem dX10_through_43 : decode (mC mX10_through) 43 = .ok (.ishl, 1) := by decide +kernel
theorem dX10_through_44 : decode (mC mX10_through) 44 = .ok (.ior, 1) := by decide +kernel
theorem dX10_through_45 : decode (mC mX10_through) 45 = .ok (.putfield 35, 3) := by decide +kernel
theorem dX10_through_48 : decode (mC mX10_through) 48 = .ok (.aload_n 0, 1) := by decide +kernel
theorem dX10_through_49 : decode (mC mX10_through) 49 = .ok (.dup, 1) := by decide +kernel
theorem dX10_through_50 : decode (mC mX10_through) 50 = .ok (.getfield 38, 3) := by decide +kernel
theorem dX10_through_53 : decode (mC mX10_through) 53 = .ok (.iconst 1, 1) := by decide +kernel
theorem dX10_through_54 : decode (mC mX10_through) 54 = .ok (.iadd, 1) := by decide +kernel
theorem dX10_through_55 : decode (mC mX10_through) 55 = .ok (.putfield 38, 3) := by decide +kernel
theorem dX10_through_58 : decode (mC mX10_through) 58 = .ok (.aload_n 0, 1) := by decide +kernel
theorem dX10_through_59 : decode (mC mX10_through) 59 = .ok (.iload 4, 2) := by decide +kernel
theorem dX10_through_61 : decode (mC mX10_through) 61 = .ok (.aload_n 1, 1) := by decide +kernel
theorem dX10_through_62 : decode (mC mX10_through) 62 = .ok (.iload 4, 2) := by decide +kernel
theorem dX10_through_64 : decode (mC mX10_through) 64 = .ok (.invokevirtual 41, 3) := by decide +kernel
theorem dX10_through_67 : decode (mC mX10_through) 67 = .ok (.invokevirtual 45, 3) := by decide +kernel
theorem dX10_through_70 : decode (mC mX10_through) 70 = .ok (.istore 4, 2) := by decide +kernel
theorem dX10_through_72 : decode (mC mX10_through) 72 = .ok (.iinc 5 1, 3) := by decide +kernel
theorem dX10_through_75 : decode (mC mX10_through) 75 = .ok (.goto (-63), 3) := by decide +kernel
theorem dX10_through_78 : decode (mC mX10_through) 78 = .ok (.aload_n 0, 1) := by decide +kernel
theorem dX10_through_79 : decode (mC mX10_through) 79 = .ok (.getfield 31, 3) := by decide +kernel
theorem dX10_through_82 : decode (mC mX10_through) 82 = .ok (.ifCond .ne 29, 3) := by decide +kernel
theorem dX10_through_85 : decode (mC mX10_through) 85 = .ok (.iload 4, 2) := by decide +kernel
theorem dX10_through_87 : decode (mC mX10_through) 87 = .ok (.aload_n 1, 1) := by decide +kernel
theorem dX10_through_88 : decode (mC mX10_through) 88 = .ok (.getfield 26, 3) := by decide +kernel
theorem dX10_through_91 : decode (mC mX10_through) 91 = .ok (.if_icmp .ge 20, 3) := by decide +kernel
theorem dX10_through_94 : decode (mC mX10_through) 94 = .ok (.aload_n 0, 1) := by decide +kernel
theorem dX10_through_95 : decode (mC mX10_through) 95 = .ok (.ldc 49, 2) := by decide +kernel
theorem dX10_through_97 : decode (mC mX10_through) 97 = .ok (.putfield 50, 3) := by decide +kernel
theorem dX10_through_100 : decode (mC mX10_through) 100 = .ok (.aload_n 0, 1) := by decide +kernel
theorem dX10_through_101 : decode (mC mX10_through) 101 = .ok (.aload_n 0, 1) := by decide +kernel
theorem dX10_through_102 : decode (mC mX10_through) 102 = .ok (.getfield 53, 3) := by decide +kernel
theorem dX10_through_105 : decode (mC mX10_through) 105 = .ok (.putfield 56, 3) := by decide +kernel
theorem dX10_through_108 : decode (mC mX10_through) 108 = .ok (.goto 35, 3) := by decide +kernel
theorem dX10_through_111 : decode (mC mX10_through) 111 = .ok (.aload_n 0, 1) := by decide +kernel
theorem dX10_through_112 : decode (mC mX10_through) 112 = .ok (.getfield 31, 3) := by decide +kernel
theorem dX10_through_115 : decode (mC mX10_through) 115 = .ok (.ifCond .ne 28, 3) := by decide +kernel
theorem dX10_through_118 : decode (mC mX10_through) 118 = .ok (.aload_n 0, 1) := by decide +kernel
theorem dX10_through_119 : decode (mC mX10_through) 119 = .ok (.aload_n 0, 1) := by decide +kernel
theorem dX10_through_120 : decode (mC mX10_through) 120 = .ok (.getfield 9, 3) := by decide +kernel
theorem dX10_through_123 : decode (mC mX10_through) 123 = .ok (.iconst 0, 1) := by decide +kernel
theorem dX10_through_124 : decode (mC mX10_through) 124 = .ok (.iaload, 1) := by decide +kernel
theorem dX10_through_125 : decode (mC mX10_through) 125 = .ok (.putfield 50, 3) := by decide +kernel
theorem dX10_through_128 : decode (mC mX10_through) 128 = .ok (.aload_n 0, 1) := by decide +kernel
theorem dX10_through_129 : decode (mC mX10_through) 129 = .ok (.aload_n 0, 1) := by decide +kernel
theorem dX10_through_130 : decode (mC mX10_through) 130 = .ok (.getfield 53, 3) := by decide +kernel
theorem dX10_through_133 : decode (mC mX10_through) 133 = .ok (.aload_n 0, 1) := by decide +kernel
theorem dX10_through_134 : decode (mC mX10_through) 134 = .ok (.getfield 15, 3) := by decide +kernel
theorem dX10_through_137 : decode (mC mX10_through) 137 = .ok (.iconst 0, 1) := by decide +kernel
theorem dX10_through_138 : decode (mC mX10_through) 138 = .ok (.iaload, 1) := by decide +kernel
theorem dX10_through_139 : decode (mC mX10_through) 139 = .ok (.ior, 1) := by decide +kernel
theorem dX10_through_140 : decode (mC mX10_through) 140 = .ok (.putfield 56, 3) := by decide +kernel
theorem dX10_through_143 : decode (mC mX10_through) 143 = .ok (.aload_n 0, 1) := by decide +kernel
theorem dX10_through_144 : decode (mC mX10_through) 144 = .ok (.getfield 50, 3) := by decide +kernel
theorem dX10_through_147 : decode (mC mX10_through) 147 = .ok (.ireturn, 1) := by decide +kernel
set_option maxRecDepth 100000 in
theorem bX10_through_0 {sc : Nat × (Nat → Int32)} {h : jH} {Q : jQ} {a : Nat} {l2 l3 : Int32} {P1 : jH → Prop} (a_h : jI4 a)
    (k1 : JM mX10_begin [.ref 69, .int l2, .int l3] (jG0 sc) h (jvoid sc P1))
    (v1 : ∀ h1 : jH, P1 h1 → WP mX10_through Q 12 [some (.ref 69), some (.ref a), some (.int l2), some (.int l3), some (.int 0), some (.int 0)] [] (jG0 sc) h1 (0, 0)) :
    WP mX10_through Q 0 [some (.ref 69), some (.ref a), some (.int l2), some (.int l3), none, none] [] (jG0 sc) h (0, 0) := by
  obtain ⟨a_lt1, a_K0, a_R0_0, a_K1, a_L1⟩ := a_h
  have a_lt0 : a + 0 < jN (jG0 sc) := Nat.lt_of_succ_lt a_lt1
  refine j_aload_n (i := 0) rfl dX10_through_0 ?_
  refine j_iload_n (i := 2) rfl dX10_through_1 ?_
  refine j_iload_n (i := 3) rfl dX10_through_2 ?_
  refine j_callV (idx := 22) (As := [.int l2, .int l3]) (ci := 10) (n := 2) k1 jvoid_nt (jlkT (jtb3 13 rfl) rfl) sX10_begin kX10_begin rfl ⟨rfl, by decide +kernel, by decide +kernel, by decide +kernel⟩ rfl ⟨by decide, by decide⟩ (Nat.le_of_ble_eq_true rfl) rfl (Nat.le_of_ble_eq_true rfl) (Nat.le_of_ble_eq_true rfl) ⟨Nat.zero_le _, Nat.zero_le _⟩ dX10_through_3 (fun r Γ' h1 q => ?_)
  obtain ⟨q0, rfl, p1⟩ := q; cases q0
  refine j_eqst [] (by rfl) ?_
  refine j_iconst (n := 0) 0 (by decide) dX10_through_6 ?_
  refine j_istore (i := 4) dX10_through_7 (Nat.le_of_ble_eq_true rfl) ?_
  refine j_iconst (n := 0) 0 (by decide) dX10_through_9 ?_
  refine j_istore (i := 5) dX10_through_10 (Nat.le_of_ble_eq_true rfl) ?_
  exact j_le [some (.ref 69), some (.ref a), some (.int l2), some (.int l3), some (.int 0), some (.int 0)] (And.intro rfl (And.intro rfl (And.intro rfl (And.intro rfl (And.intro rfl (And.intro rfl True.intro)))))) (v1 h1 p1)
set_option maxRecDepth 100000 in
theorem bX10_through_12 {sc : Nat × (Nat → Int32)} {h : jH} {Q : jQ} {a : Nat} {l2 l3 l4 l5 : Int32} (a_h : jI4 a)
    (v1 : 100 ≤ l5 → WP mX10_through Q 78 [some (.ref 69), some (.ref a), some (.int l2), some (.int l3), some (.int l4), some (.int l5)] [] (jG0 sc) h (0, 0))
    (v2 : ¬ 100 ≤ l5 → WP mX10_through Q 19 [some (.ref 69), some (.ref a), some (.int l2), some (.int l3), some (.int l4), some (.int l5)] [] (jG0 sc) h (0, 0)) :
    WP mX10_through Q 12 [some (.ref 69), some (.ref a), some (.int l2), some (.int l3), some (.int l4), some (.int l5)] [] (jG0 sc) h (0, 0) := by
  obtain ⟨a_lt1, a_K0, a_R0_0, a_K1, a_L1⟩ := a_h
  have a_lt0 : a + 0 < jN (jG0 sc) := Nat.lt_of_succ_lt a_lt1
  refine j_iload (i := 5) rfl dX10_through_12 ?_
  refine j_bipush (n := 100) 100 (by decide) dX10_through_14 ?_
  refine j_icmp_ge (off := 62) 78 dX10_through_16 (by decide) (fun c1 => ?_) (fun c1 => ?_)
  · exact j_le [some (.ref 69), some (.ref a), some (.int l2), some (.int l3), some (.int l4), some (.int l5)] (And.intro rfl (And.intro rfl (And.intro rfl (And.intro rfl (And.intro rfl (And.intro rfl True.intro)))))) (v1 c1)
  · exact j_le [some (.ref 69), some (.ref a), some (.int l2), some (.int l3), some (.int l4), some (.int l5)] (And.intro rfl (And.intro rfl (And.intro rfl (And.intro rfl (And.intro rfl (And.intro rfl True.intro)))))) (v2 c1)
set_option maxRecDepth 100000 in
theorem bX10_through_19 {sc : Nat × (Nat → Int32)} {h : jH} {Q : jQ} {a : Nat} {l2 l3 l4 l5 : Int32} (a_h : jI4 a)
    (v1 : (h a 1) ≤ l4 → WP mX10_through Q 78 [some (.ref 69), some (.ref a), some (.int l2), some (.int l3), some (.int l4), some (.int l5)] [] (jG0 sc) h (0, 0))
    (v2 : ¬ (h a 1) ≤ l4 → WP mX10_through Q 28 [some (.ref 69), some (.ref a), some (.int l2), some (.int l3), some (.int l4), some (.int l5)] [] (jG0 sc) h (0, 0)) :
    WP mX10_through Q 19 [some (.ref 69), some (.ref a), some (.int l2), some (.int l3), some (.int l4), some (.int l5)] [] (jG0 sc) h (0, 0) := by
  obtain ⟨a_lt1, a_K0, a_R0_0, a_K1, a_L1⟩ := a_h
  have a_lt0 : a + 0 < jN (jG0 sc) := Nat.lt_of_succ_lt a_lt1
  refine j_iload (i := 4) rfl dX10_through_19 ?_
  refine j_aload_n (i := 1) rfl dX10_through_21 ?_
  refine j_getI (idx := 26) (ci := 4) (k := 1) (nest := true) (show (10, 26, 4, 1, true) ∈ jFT by decide) rfl (a_lt0) a_K0 dX10_through_22 ?_
  refine j_icmp_ge (off := 53) 78 dX10_through_25 (by decide) (fun c1 => ?_) (fun c1 => ?_)
  · exact j_le [some (.ref 69), some (.ref a), some (.int l2), some (.int l3), some (.int l4), some (.int l5)] (And.intro rfl (And.intro rfl (And.intro rfl (And.intro rfl (And.intro rfl (And.intro rfl True.intro)))))) (v1 c1)
  · exact j_le [some (.ref 69), some (.ref a), some (.int l2), some (.int l3), some (.int l4), some (.int l5)] (And.intro rfl (And.intro rfl (And.intro rfl (And.intro rfl (And.intro rfl (And.intro rfl True.intro)))))) (v2 c1)
set_option maxRecDepth 100000 in
theorem bX10_through_28 {sc : Nat × (Nat → Int32)} {h : jH} {Q : jQ} {a : Nat} {l2 l3 l4 l5 : Int32} (a_h : jI4 a)
    (v1 : ¬ (h 69 11) = 0 → WP mX10_through Q 78 [some (.ref 69), some (.ref a), some (.int l2), some (.int l3), some (.int l4), some (.int l5)] [] (jG0 sc) h (0, 0))
    (v2 : (h 69 11) = 0 → WP mX10_through Q 35 [some (.ref 69), some (.ref a), some (.int l2), some (.int l3), some (.int l4), some (.int l5)] [] (jG0 sc) h (0, 0)) :
    WP mX10_through Q 28 [some (.ref 69), some (.ref a), some (.int l2), some (.int l3), some (.int l4), some (.int l5)] [] (jG0 sc) h (0, 0) := by
  obtain ⟨a_lt1, a_K0, a_R0_0, a_K1, a_L1⟩ := a_h
  have a_lt0 : a + 0 < jN (jG0 sc) := Nat.lt_of_succ_lt a_lt1
  refine j_aload_n (i := 0) rfl dX10_through_28 ?_
  refine j_getI (idx := 31) (ci := 10) (k := 11) (nest := false) (show (10, 31, 10, 11, false) ∈ jFT by decide) rfl (Nat.le_of_ble_eq_true rfl) rfl dX10_through_29 ?_
  refine j_if_ne (off := 46) 78 dX10_through_32 (by decide) (fun c1 => ?_) (fun c1 => ?_)
  · exact j_le [some (.ref 69), some (.ref a), some (.int l2), some (.int l3), some (.int l4), some (.int l5)] (And.intro rfl (And.intro rfl (And.intro rfl (And.intro rfl (And.intro rfl (And.intro rfl True.intro)))))) (v1 c1)
  · exact j_le [some (.ref 69), some (.ref a), some (.int l2), some (.int l3), some (.int l4), some (.int l5)] (And.intro rfl (And.intro rfl (And.intro rfl (And.intro rfl (And.intro rfl (And.intro rfl True.intro)))))) (v2 c1)
set_option maxRecDepth 100000 in
theorem bX10_through_35 {sc : Nat × (Nat → Int32)} {h : jH} {Q : jQ} {a : Nat} {l2 l3 l4 l5 : Int32} {P1 : Int32 → jH → Prop} (a_h : jI4 a)
    (k1 : JM mX4_lineAt [.ref a, .int l4] (jG0 sc) (jput (jput h 69 7 ((h 69 7) ||| ((1 : Int32) <<< (l4 &&& 31)))) 69 8 (((jput h 69 7 ((h 69 7) ||| ((1 : Int32) <<< (l4 &&& 31)))) 69 8) + 1)) (jint sc P1))
    (v1 : ∀ (x1 : Int32) (h1 : jH), P1 x1 h1 → WP mX10_through Q 67 [some (.ref 69), some (.ref a), some (.int l2), some (.int l3), some (.int l4), some (.int l5)] [.int x1, .int l4, .ref 69] (jG0 sc) h1 (0, 0)) :
    WP mX10_through Q 35 [some (.ref 69), some (.ref a), some (.int l2), some (.int l3), some (.int l4), some (.int l5)] [] (jG0 sc) h (0, 0) := by
  obtain ⟨a_lt1, a_K0, a_R0_0, a_K1, a_L1⟩ := a_h
  have a_lt0 : a + 0 < jN (jG0 sc) := Nat.lt_of_succ_lt a_lt1
  refine j_aload_n (i := 0) rfl dX10_through_35 ?_
  refine j_dup rfl dX10_through_36 ?_
  refine j_getI (idx := 35) (ci := 10) (k := 7) (nest := false) (show (10, 35, 10, 7, false) ∈ jFT by decide) rfl (Nat.le_of_ble_eq_true rfl) rfl dX10_through_37 ?_
  refine j_iconst (n := 1) 1 (by decide) dX10_through_40 ?_
  refine j_iload (i := 4) rfl dX10_through_41 ?_
  refine j_ishl dX10_through_43 ?_
  refine j_ior dX10_through_44 ?_
  refine j_putI (idx := 35) (ci := 10) (k := 7) (nest := false) (show (10, 35, 10, 7, false) ∈ jFT by decide) rfl rfl rfl rfl (Nat.le_of_ble_eq_true rfl) rfl dX10_through_45 ?_
  refine j_aload_n (i := 0) rfl dX10_through_48 ?_
  refine j_dup rfl dX10_through_49 ?_
  refine j_getI (idx := 38) (ci := 10) (k := 8) (nest := false) (show (10, 38, 10, 8, false) ∈ jFT by decide) rfl (Nat.le_of_ble_eq_true rfl) rfl dX10_through_50 ?_
  refine j_iconst (n := 1) 1 (by decide) dX10_through_53 ?_
  refine j_iadd dX10_through_54 ?_
  refine j_putI (idx := 38) (ci := 10) (k := 8) (nest := false) (show (10, 38, 10, 8, false) ∈ jFT by decide) rfl rfl rfl rfl (Nat.le_of_ble_eq_true rfl) rfl dX10_through_55 ?_
  refine j_aload_n (i := 0) rfl dX10_through_58 ?_
  refine j_iload (i := 4) rfl dX10_through_59 ?_
  refine j_aload_n (i := 1) rfl dX10_through_61 ?_
  refine j_iload (i := 4) rfl dX10_through_62 ?_
  refine j_callVN (idx := 41) (As := [.int l4]) (ci := 4) (n := 1) k1 jint_nt (jTbl (jtb3 17 rfl)) sX4_lineAt kX4_lineAt rfl ⟨rfl, by decide +kernel, by decide +kernel, by decide +kernel⟩ rfl ⟨by decide, by decide⟩ (a_lt0) a_K0 (Nat.le_of_ble_eq_true rfl) (Nat.le_of_ble_eq_true rfl) ⟨Nat.zero_le _, Nat.zero_le _⟩ dX10_through_64 (fun r Γ' h1 q => ?_)
  obtain ⟨x1, q0, rfl, p1⟩ := q; cases q0
  refine j_eqst [.int x1, .int l4, .ref 69] (by rfl) ?_
  exact j_le [some (.ref 69), some (.ref a), some (.int l2), some (.int l3), some (.int l4), some (.int l5)] (And.intro rfl (And.intro rfl (And.intro rfl (And.intro rfl (And.intro rfl (And.intro rfl True.intro)))))) (v1 x1 h1 p1)
set_option maxRecDepth 100000 in
theorem bX10_through_67 {sc : Nat × (Nat → Int32)} {h : jH} {Q : jQ} {a : Nat} {l2 l3 l4 l5 s0 s1 : Int32} {P1 : Int32 → jH → Prop} (a_h : jI4 a)
    (k1 : JM mX10_step [.ref 69, .int s1, .int s0] (jG0 sc) h (jint sc P1))
    (v1 : ∀ (x1 : Int32) (h1 : jH), P1 x1 h1 → WP mX10_through Q 12 [some (.ref 69), some (.ref a), some (.int l2), some (.int l3), some (.int x1), some (.int (l5 + 1))] [] (jG0 sc) h1 (0, 0)) :
    WP mX10_through Q 67 [some (.ref 69), some (.ref a), some (.int l2), some (.int l3), some (.int l4), some (.int l5)] [.int s0, .int s1, .ref 69] (jG0 sc) h (0, 0) := by
  obtain ⟨a_lt1, a_K0, a_R0_0, a_K1, a_L1⟩ := a_h
  have a_lt0 : a + 0 < jN (jG0 sc) := Nat.lt_of_succ_lt a_lt1
  refine j_callV (idx := 45) (As := [.int s1, .int s0]) (ci := 10) (n := 2) k1 jint_nt (jlkT (jtb3 18 rfl) rfl) sX10_step kX10_step rfl ⟨rfl, by decide +kernel, by decide +kernel, by decide +kernel⟩ rfl ⟨by decide, by decide⟩ (Nat.le_of_ble_eq_true rfl) rfl (Nat.le_of_ble_eq_true rfl) (Nat.le_of_ble_eq_true rfl) ⟨Nat.zero_le _, Nat.zero_le _⟩ dX10_through_67 (fun r Γ' h1 q => ?_)
  obtain ⟨x1, q0, rfl, p1⟩ := q; cases q0
  refine j_eqst [.int x1] (by rfl) ?_
  refine j_istore (i := 4) dX10_through_70 (Nat.le_of_ble_eq_true rfl) ?_
  refine j_iinc (i := 5) (n := 1) rfl dX10_through_72 (Nat.le_of_ble_eq_true rfl) ?_
  refine j_eqlv [some (.ref 69), some (.ref a), some (.int l2), some (.int l3), some (.int x1), some (.int (l5 + 1))] rfl ?_
  refine j_goto (off := -63) 12 dX10_through_75 (by decide) ?_
  exact j_le [some (.ref 69), some (.ref a), some (.int l2), some (.int l3), some (.int x1), some (.int (l5 + 1))] (And.intro rfl (And.intro rfl (And.intro rfl (And.intro rfl (And.intro rfl (And.intro rfl True.intro)))))) (v1 x1 h1 p1)
set_option maxRecDepth 100000 in
theorem bX10_through_78 {sc : Nat × (Nat → Int32)} {h : jH} {Q : jQ} {a : Nat} {l2 l3 l4 l5 : Int32} (a_h : jI4 a)
    (v1 : ¬ (h 69 11) = 0 → WP mX10_through Q 111 [some (.ref 69), some (.ref a), some (.int l2), some (.int l3), some (.int l4), some (.int l5)] [] (jG0 sc) h (0, 0))
    (v2 : (h 69 11) = 0 → WP mX10_through Q 85 [some (.ref 69), some (.ref a), some (.int l2), some (.int l3), some (.int l4), some (.int l5)] [] (jG0 sc) h (0, 0)) :
    WP mX10_through Q 78 [some (.ref 69), some (.ref a), some (.int l2), some (.int l3), some (.int l4), some (.int l5)] [] (jG0 sc) h (0, 0) := by
  obtain ⟨a_lt1, a_K0, a_R0_0, a_K1, a_L1⟩ := a_h
  have a_lt0 : a + 0 < jN (jG0 sc) := Nat.lt_of_succ_lt a_lt1
  refine j_aload_n (i := 0) rfl dX10_through_78 ?_
  refine j_getI (idx := 31) (ci := 10) (k := 11) (nest := false) (show (10, 31, 10, 11, false) ∈ jFT by decide) rfl (Nat.le_of_ble_eq_true rfl) rfl dX10_through_79 ?_
  refine j_if_ne (off := 29) 111 dX10_through_82 (by decide) (fun c1 => ?_) (fun c1 => ?_)
  · exact j_le [some (.ref 69), some (.ref a), some (.int l2), some (.int l3), some (.int l4), some (.int l5)] (And.intro rfl (And.intro rfl (And.intro rfl (And.intro rfl (And.intro rfl (And.intro rfl True.intro)))))) (v1 c1)
  · exact j_le [some (.ref 69), some (.ref a), some (.int l2), some (.int l3), some (.int l4), some (.int l5)] (And.intro rfl (And.intro rfl (And.intro rfl (And.intro rfl (And.intro rfl (And.intro rfl True.intro)))))) (v2 c1)
set_option maxRecDepth 100000 in
theorem bX10_through_85 {sc : Nat × (Nat → Int32)} {h : jH} {Q : jQ} {a : Nat} {l2 l3 l4 l5 : Int32} (a_h : jI4 a)
    (v1 : (h a 1) ≤ l4 → WP mX10_through Q 111 [some (.ref 69), some (.ref a), some (.int l2), some (.int l3), some (.int l4), some (.int l5)] [] (jG0 sc) h (0, 0))
    (v2 : ¬ (h a 1) ≤ l4 → WP mX10_through Q 94 [some (.ref 69), some (.ref a), some (.int l2), some (.int l3), some (.int l4), some (.int l5)] [] (jG0 sc) h (0, 0)) :
    WP mX10_through Q 85 [some (.ref 69), some (.ref a), some (.int l2), some (.int l3), some (.int l4), some (.int l5)] [] (jG0 sc) h (0, 0) := by
  obtain ⟨a_lt1, a_K0, a_R0_0, a_K1, a_L1⟩ := a_h
  have a_lt0 : a + 0 < jN (jG0 sc) := Nat.lt_of_succ_lt a_lt1
  refine j_iload (i := 4) rfl dX10_through_85 ?_
  refine j_aload_n (i := 1) rfl dX10_through_87 ?_
  refine j_getI (idx := 26) (ci := 4) (k := 1) (nest := true) (show (10, 26, 4, 1, true) ∈ jFT by decide) rfl (a_lt0) a_K0 dX10_through_88 ?_
  refine j_icmp_ge (off := 20) 111 dX10_through_91 (by decide) (fun c1 => ?_) (fun c1 => ?_)
  · exact j_le [some (.ref 69), some (.ref a), some (.int l2), some (.int l3), some (.int l4), some (.int l5)] (And.intro rfl (And.intro rfl (And.intro rfl (And.intro rfl (And.intro rfl (And.intro rfl True.intro)))))) (v1 c1)
  · exact j_le [some (.ref 69), some (.ref a), some (.int l2), some (.int l3), some (.int l4), some (.int l5)] (And.intro rfl (And.intro rfl (And.intro rfl (And.intro rfl (And.intro rfl (And.intro rfl True.intro)))))) (v2 c1)
set_option maxRecDepth 100000 in
theorem bX10_through_94 {sc : Nat × (Nat → Int32)} {h : jH} {Q : jQ} {a : Nat} {l2 l3 l4 l5 : Int32} (a_h : jI4 a)
    (v1 : WP mX10_through Q 143 [some (.ref 69), some (.ref a), some (.int l2), some (.int l3), some (.int l4), some (.int l5)] [] (jG0 sc) (jput (jput h 69 10 2000003) 69 9 ((jput h 69 10 2000003) 69 2)) (0, 0)) :
    WP mX10_through Q 94 [some (.ref 69), some (.ref a), some (.int l2), some (.int l3), some (.int l4), some (.int l5)] [] (jG0 sc) h (0, 0) := by
  obtain ⟨a_lt1, a_K0, a_R0_0, a_K1, a_L1⟩ := a_h
  have a_lt0 : a + 0 < jN (jG0 sc) := Nat.lt_of_succ_lt a_lt1
  refine j_aload_n (i := 0) rfl dX10_through_94 ?_
  refine j_ldc (idx := 49) 2000003 (show (jCn 10, 49, 2000003) ∈ jCT by decide) dX10_through_95 ?_
  refine j_putI (idx := 50) (ci := 10) (k := 10) (nest := false) (show (10, 50, 10, 10, false) ∈ jFT by decide) rfl rfl rfl rfl (Nat.le_of_ble_eq_true rfl) rfl dX10_through_97 ?_
  refine j_aload_n (i := 0) rfl dX10_through_100 ?_
  refine j_aload_n (i := 0) rfl dX10_through_101 ?_
  refine j_getI (idx := 53) (ci := 10) (k := 2) (nest := false) (show (10, 53, 10, 2, false) ∈ jFT by decide) rfl (Nat.le_of_ble_eq_true rfl) rfl dX10_through_102 ?_
  refine j_putI (idx := 56) (ci := 10) (k := 9) (nest := false) (show (10, 56, 10, 9, false) ∈ jFT by decide) rfl rfl rfl rfl (Nat.le_of_ble_eq_true rfl) rfl dX10_through_105 ?_
  refine j_goto (off := 35) 143 dX10_through_108 (by decide) ?_
  exact j_le [some (.ref 69), some (.ref a), some (.int l2), some (.int l3), some (.int l4), some (.int l5)] (And.intro rfl (And.intro rfl (And.intro rfl (And.intro rfl (And.intro rfl (And.intro rfl True.intro)))))) v1
set_option maxRecDepth 100000 in
theorem bX10_through_111 {sc : Nat × (Nat → Int32)} {h : jH} {Q : jQ} {a : Nat} {l2 l3 l4 l5 : Int32} (a_h : jI4 a)
    (v1 : ¬ (h 69 11) = 0 → WP mX10_through Q 143 [some (.ref 69), some (.ref a), some (.int l2), some (.int l3), some (.int l4), some (.int l5)] [] (jG0 sc) h (0, 0))
    (v2 : (h 69 11) = 0 → WP mX10_through Q 118 [some (.ref 69), some (.ref a), some (.int l2), some (.int l3), some (.int l4), some (.int l5)] [] (jG0 sc) h (0, 0)) :
    WP mX10_through Q 111 [some (.ref 69), some (.ref a), some (.int l2), some (.int l3), some (.int l4), some (.int l5)] [] (jG0 sc) h (0, 0) := by
  obtain ⟨a_lt1, a_K0, a_R0_0, a_K1, a_L1⟩ := a_h
  have a_lt0 : a + 0 < jN (jG0 sc) := Nat.lt_of_succ_lt a_lt1
  refine j_aload_n (i := 0) rfl dX10_through_111 ?_
  refine j_getI (idx := 31) (ci := 10) (k := 11) (nest := false) (show (10, 31, 10, 11, false) ∈ jFT by decide) rfl (Nat.le_of_ble_eq_true rfl) rfl dX10_through_112 ?_
  refine j_if_ne (off := 28) 143 dX10_through_115 (by decide) (fun c1 => ?_) (fun c1 => ?_)
  · exact j_le [some (.ref 69), some (.ref a), some (.int l2), some (.int l3), some (.int l4), some (.int l5)] (And.intro rfl (And.intro rfl (And.intro rfl (And.intro rfl (And.intro rfl (And.intro rfl True.intro)))))) (v1 c1)
  · exact j_le [some (.ref 69), some (.ref a), some (.int l2), some (.int l3), some (.int l4), some (.int l5)] (And.intro rfl (And.intro rfl (And.intro rfl (And.intro rfl (And.intro rfl (And.intro rfl True.intro)))))) (v2 c1)
set_option maxRecDepth 100000 in
theorem bX10_through_118 {sc : Nat × (Nat → Int32)} {h : jH} {Q : jQ} {a : Nat} {l2 l3 l4 l5 : Int32} (a_h : jI4 a)
    (v1 : WP mX10_through Q 143 [some (.ref 69), some (.ref a), some (.int l2), some (.int l3), some (.int l4), some (.int l5)] [] (jG0 sc) (jput (jput h 69 10 (h 70 0)) 69 9 (((jput h 69 10 (h 70 0)) 69 2) ||| ((jput h 69 10 (h 70 0)) 71 0))) (0, 0)) :
    WP mX10_through Q 118 [some (.ref 69), some (.ref a), some (.int l2), some (.int l3), some (.int l4), some (.int l5)] [] (jG0 sc) h (0, 0) := by
  obtain ⟨a_lt1, a_K0, a_R0_0, a_K1, a_L1⟩ := a_h
  have a_lt0 : a + 0 < jN (jG0 sc) := Nat.lt_of_succ_lt a_lt1
  refine j_aload_n (i := 0) rfl dX10_through_118 ?_
  refine j_aload_n (i := 0) rfl dX10_through_119 ?_
  refine j_getR (idx := 9) (ci := 10) (k := 0) (nest := false) (show (10, 9, 10, 0, false) ∈ jFT by decide) rfl (Nat.le_of_ble_eq_true rfl) rfl (a := 70) rfl dX10_through_120 ?_
  refine j_iconst (n := 0) 0 (by decide) dX10_through_123 ?_
  refine j_iald (Nat.le_of_ble_eq_true rfl) rfl (jinl (n := 4) (by decide)) dX10_through_124 ?_
  refine j_eqst [.int (h 70 0), .ref 69] (by rfl) ?_
  refine j_putI (idx := 50) (ci := 10) (k := 10) (nest := false) (show (10, 50, 10, 10, false) ∈ jFT by decide) rfl rfl rfl rfl (Nat.le_of_ble_eq_true rfl) rfl dX10_through_125 ?_
  refine j_aload_n (i := 0) rfl dX10_through_128 ?_
  refine j_aload_n (i := 0) rfl dX10_through_129 ?_
  refine j_getI (idx := 53) (ci := 10) (k := 2) (nest := false) (show (10, 53, 10, 2, false) ∈ jFT by decide) rfl (Nat.le_of_ble_eq_true rfl) rfl dX10_through_130 ?_
  refine j_aload_n (i := 0) rfl dX10_through_133 ?_
  refine j_getR (idx := 15) (ci := 10) (k := 1) (nest := false) (show (10, 15, 10, 1, false) ∈ jFT by decide) rfl (Nat.le_of_ble_eq_true rfl) rfl (a := 71) rfl dX10_through_134 ?_
  refine j_iconst (n := 0) 0 (by decide) dX10_through_137 ?_
  refine j_iald (Nat.le_of_ble_eq_true rfl) rfl (jinl (n := 4) (by decide)) dX10_through_138 ?_
  refine j_eqst [.int ((jput h 69 10 (h 70 0)) 71 0), .int ((jput h 69 10 (h 70 0)) 69 2), .ref 69] (by rfl) ?_
  refine j_ior dX10_through_139 ?_
  refine j_putI (idx := 56) (ci := 10) (k := 9) (nest := false) (show (10, 56, 10, 9, false) ∈ jFT by decide) rfl rfl rfl rfl (Nat.le_of_ble_eq_true rfl) rfl dX10_through_140 ?_
  exact j_le [some (.ref 69), some (.ref a), some (.int l2), some (.int l3), some (.int l4), some (.int l5)] (And.intro rfl (And.intro rfl (And.intro rfl (And.intro rfl (And.intro rfl (And.intro rfl True.intro)))))) v1
set_option maxRecDepth 100000 in
theorem bX10_through_143 {sc : Nat × (Nat → Int32)} {h : jH} {Q : jQ} {a : Nat} {l2 l3 l4 l5 : Int32} (a_h : jI4 a)
    (v1 : Q (.inl (some (.int (h 69 10)))) (jG0 sc) h) :
    WP mX10_through Q 143 [some (.ref 69), some (.ref a), some (.int l2), some (.int l3), some (.int l4), some (.int l5)] [] (jG0 sc) h (0, 0) := by
  obtain ⟨a_lt1, a_K0, a_R0_0, a_K1, a_L1⟩ := a_h
  have a_lt0 : a + 0 < jN (jG0 sc) := Nat.lt_of_succ_lt a_lt1
  refine j_aload_n (i := 0) rfl dX10_through_143 ?_
  refine j_getI (idx := 50) (ci := 10) (k := 10) (nest := false) (show (10, 50, 10, 10, false) ∈ jFT by decide) rfl (Nat.le_of_ble_eq_true rfl) rfl dX10_through_144 ?_
  exact j_iret rfl rfl (Nat.zero_le _) (Nat.zero_le _) dX10_through_147 v1
set_option maxRecDepth 100000 in
theorem rX10_through_0 {sc : Nat × (Nat → Int32)} {h : jH} {Q : jQ} {a : Nat} {l2 l3 : Int32} {P1 : jH → Prop} (a_h : jI4 a)
    (k1 : JM mX10_begin [.ref 69, .int l2, .int l3] (jG0 sc) h (jvoid sc P1))
    (v1 : ∀ h1 : jH, P1 h1 → WP mX10_through Q 12 [some (.ref 69), some (.ref a), some (.int l2), some (.int l3), some (.int 0), some (.int 0)] [] (jG0 sc) h1 (0, 0)) :
    WP mX10_through Q 0 [some (.ref 69), some (.ref a), some (.int l2), some (.int l3), none, none] [] (jG0 sc) h (0, 0) := by
  exact (bX10_through_0 a_h k1 (fun h1 p1 => (v1 h1 p1)))
set_option maxRecDepth 100000 in
theorem rX10_through_12 {sc : Nat × (Nat → Int32)} {h : jH} {Q : jQ} {a : Nat} {l2 l3 l4 l5 : Int32} {P1 : Int32 → jH → Prop} {P2 : Int32 → jH → Prop} (a_h : jI4 a)
    (v1 : 100 ≤ l5 → ¬ (h 69 11) = 0 → ¬ (h 69 11) = 0 → Q (.inl (some (.int (h 69 10)))) (jG0 sc) h)
    (v2 : 100 ≤ l5 → ¬ (h 69 11) = 0 → (h 69 11) = 0 → Q (.inl (some (.int ((jput (jput h 69 10 (h 70 0)) 69 9 (((jput h 69 10 (h 70 0)) 69 2) ||| ((jput h 69 10 (h 70 0)) 71 0))) 69 10)))) (jG0 sc) (jput (jput h 69 10 (h 70 0)) 69 9 (((jput h 69 10 (h 70 0)) 69 2) ||| ((jput h 69 10 (h 70 0)) 71 0))))
    (v3 : 100 ≤ l5 → (h 69 11) = 0 → (h a 1) ≤ l4 → ¬ (h 69 11) = 0 → Q (.inl (some (.int (h 69 10)))) (jG0 sc) h)
    (v4 : 100 ≤ l5 → (h 69 11) = 0 → (h a 1) ≤ l4 → (h 69 11) = 0 → Q (.inl (some (.int ((jput (jput h 69 10 (h 70 0)) 69 9 (((jput h 69 10 (h 70 0)) 69 2) ||| ((jput h 69 10 (h 70 0)) 71 0))) 69 10)))) (jG0 sc) (jput (jput h 69 10 (h 70 0)) 69 9 (((jput h 69 10 (h 70 0)) 69 2) ||| ((jput h 69 10 (h 70 0)) 71 0))))
    (v5 : 100 ≤ l5 → (h 69 11) = 0 → ¬ (h a 1) ≤ l4 → Q (.inl (some (.int ((jput (jput h 69 10 2000003) 69 9 ((jput h 69 10 2000003) 69 2)) 69 10)))) (jG0 sc) (jput (jput h 69 10 2000003) 69 9 ((jput h 69 10 2000003) 69 2)))
    (v6 : ¬ 100 ≤ l5 → (h a 1) ≤ l4 → ¬ (h 69 11) = 0 → ¬ (h 69 11) = 0 → Q (.inl (some (.int (h 69 10)))) (jG0 sc) h)
    (v7 : ¬ 100 ≤ l5 → (h a 1) ≤ l4 → ¬ (h 69 11) = 0 → (h 69 11) = 0 → Q (.inl (some (.int ((jput (jput h 69 10 (h 70 0)) 69 9 (((jput h 69 10 (h 70 0)) 69 2) ||| ((jput h 69 10 (h 70 0)) 71 0))) 69 10)))) (jG0 sc) (jput (jput h 69 10 (h 70 0)) 69 9 (((jput h 69 10 (h 70 0)) 69 2) ||| ((jput h 69 10 (h 70 0)) 71 0))))
    (v8 : ¬ 100 ≤ l5 → (h a 1) ≤ l4 → (h 69 11) = 0 → (h a 1) ≤ l4 → ¬ (h 69 11) = 0 → Q (.inl (some (.int (h 69 10)))) (jG0 sc) h)
    (v9 : ¬ 100 ≤ l5 → (h a 1) ≤ l4 → (h 69 11) = 0 → (h a 1) ≤ l4 → (h 69 11) = 0 → Q (.inl (some (.int ((jput (jput h 69 10 (h 70 0)) 69 9 (((jput h 69 10 (h 70 0)) 69 2) ||| ((jput h 69 10 (h 70 0)) 71 0))) 69 10)))) (jG0 sc) (jput (jput h 69 10 (h 70 0)) 69 9 (((jput h 69 10 (h 70 0)) 69 2) ||| ((jput h 69 10 (h 70 0)) 71 0))))
    (v10 : ¬ 100 ≤ l5 → (h a 1) ≤ l4 → (h 69 11) = 0 → ¬ (h a 1) ≤ l4 → Q (.inl (some (.int ((jput (jput h 69 10 2000003) 69 9 ((jput h 69 10 2000003) 69 2)) 69 10)))) (jG0 sc) (jput (jput h 69 10 2000003) 69 9 ((jput h 69 10 2000003) 69 2)))
    (v11 : ¬ 100 ≤ l5 → ¬ (h a 1) ≤ l4 → ¬ (h 69 11) = 0 → ¬ (h 69 11) = 0 → ¬ (h 69 11) = 0 → Q (.inl (some (.int (h 69 10)))) (jG0 sc) h)
    (v12 : ¬ 100 ≤ l5 → ¬ (h a 1) ≤ l4 → ¬ (h 69 11) = 0 → ¬ (h 69 11) = 0 → (h 69 11) = 0 → Q (.inl (some (.int ((jput (jput h 69 10 (h 70 0)) 69 9 (((jput h 69 10 (h 70 0)) 69 2) ||| ((jput h 69 10 (h 70 0)) 71 0))) 69 10)))) (jG0 sc) (jput (jput h 69 10 (h 70 0)) 69 9 (((jput h 69 10 (h 70 0)) 69 2) ||| ((jput h 69 10 (h 70 0)) 71 0))))
    (v13 : ¬ 100 ≤ l5 → ¬ (h a 1) ≤ l4 → ¬ (h 69 11) = 0 → (h 69 11) = 0 → (h a 1) ≤ l4 → ¬ (h 69 11) = 0 → Q (.inl (some (.int (h 69 10)))) (jG0 sc) h)
    (v14 : ¬ 100 ≤ l5 → ¬ (h a 1) ≤ l4 → ¬ (h 69 11) = 0 → (h 69 11) = 0 → (h a 1) ≤ l4 → (h 69 11) = 0 → Q (.inl (some (.int ((jput (jput h 69 10 (h 70 0)) 69 9 (((jput h 69 10 (h 70 0)) 69 2) ||| ((jput h 69 10 (h 70 0)) 71 0))) 69 10)))) (jG0 sc) (jput (jput h 69 10 (h 70 0)) 69 9 (((jput h 69 10 (h 70 0)) 69 2) ||| ((jput h 69 10 (h 70 0)) 71 0))))
    (v15 : ¬ 100 ≤ l5 → ¬ (h a 1) ≤ l4 → ¬ (h 69 11) = 0 → (h 69 11) = 0 → ¬ (h a 1) ≤ l4 → Q (.inl (some (.int ((jput (jput h 69 10 2000003) 69 9 ((jput h 69 10 2000003) 69 2)) 69 10)))) (jG0 sc) (jput (jput h 69 10 2000003) 69 9 ((jput h 69 10 2000003) 69 2)))
    (k1 : ¬ 100 ≤ l5 → ¬ (h a 1) ≤ l4 → (h 69 11) = 0 → JM mX4_lineAt [.ref a, .int l4] (jG0 sc) (jput (jput h 69 7 ((h 69 7) ||| ((1 : Int32) <<< (l4 &&& 31)))) 69 8 (((jput h 69 7 ((h 69 7) ||| ((1 : Int32) <<< (l4 &&& 31)))) 69 8) + 1)) (jint sc P1))
    (k2 : ¬ 100 ≤ l5 → ¬ (h a 1) ≤ l4 → (h 69 11) = 0 → ∀ (x1 : Int32) (h1 : jH), P1 x1 h1 → JM mX10_step [.ref 69, .int l4, .int x1] (jG0 sc) h1 (jint sc P2))
    (v16 : ¬ 100 ≤ l5 → ¬ (h a 1) ≤ l4 → (h 69 11) = 0 → ∀ (x1 : Int32) (h1 : jH), P1 x1 h1 → ∀ (x2 : Int32) (h2 : jH), P2 x2 h2 → WP mX10_through Q 12 [some (.ref 69), some (.ref a), some (.int l2), some (.int l3), some (.int x2), some (.int (l5 + 1))] [] (jG0 sc) h2 (0, 0)) :
    WP mX10_through Q 12 [some (.ref 69), some (.ref a), some (.int l2), some (.int l3), some (.int l4), some (.int l5)] [] (jG0 sc) h (0, 0) := by
  exact (bX10_through_12 a_h (fun c1 => (bX10_through_78 a_h (fun c2 => (bX10_through_111 a_h (fun c3 => (bX10_through_143 a_h (v1 c1 c2 c3))) (fun c3 => (bX10_through_118 a_h (bX10_through_143 a_h (v2 c1 c2 c3)))))) (fun c2 => (bX10_through_85 a_h (fun c4 => (bX10_through_111 a_h (fun c5 => (bX10_through_143 a_h (v3 c1 c2 c4 c5))) (fun c5 => (bX10_through_118 a_h (bX10_through_143 a_h (v4 c1 c2 c4 c5)))))) (fun c4 => (bX10_through_94 a_h (bX10_through_143 a_h (v5 c1 c2 c4)))))))) (fun c1 => (bX10_through_19 a_h (fun c6 => (bX10_through_78 a_h (fun c7 => (bX10_through_111 a_h (fun c8 => (bX10_through_143 a_h (v6 c1 c6 c7 c8))) (fun c8 => (bX10_through_118 a_h (bX10_through_143 a_h (v7 c1 c6 c7 c8)))))) (fun c7 => (bX10_through_85 a_h (fun c9 => (bX10_through_111 a_h (fun c10 => (bX10_through_143 a_h (v8 c1 c6 c7 c9 c10))) (fun c10 => (bX10_through_118 a_h (bX10_through_143 a_h (v9 c1 c6 c7 c9 c10)))))) (fun c9 => (bX10_through_94 a_h (bX10_through_143 a_h (v10 c1 c6 c7 c9)))))))) (fun c6 => (bX10_through_28 a_h (fun c11 => (bX10_through_78 a_h (fun c12 => (bX10_through_111 a_h (fun c13 => (bX10_through_143 a_h (v11 c1 c6 c11 c12 c13))) (fun c13 => (bX10_through_118 a_h (bX10_through_143 a_h (v12 c1 c6 c11 c12 c13)))))) (fun c12 => (bX10_through_85 a_h (fun c14 => (bX10_through_111 a_h (fun c15 => (bX10_through_143 a_h (v13 c1 c6 c11 c12 c14 c15))) (fun c15 => (bX10_through_118 a_h (bX10_through_143 a_h (v14 c1 c6 c11 c12 c14 c15)))))) (fun c14 => (bX10_through_94 a_h (bX10_through_143 a_h (v15 c1 c6 c11 c12 c14)))))))) (fun c11 => (bX10_through_35 a_h (k1 c1 c6 c11) (fun x1 h1 p1 => (bX10_through_67 a_h (k2 c1 c6 c11 x1 h1 p1) (fun x2 h2 p2 => (v16 c1 c6 c11 x1 h1 p1 x2 h2 p2)))))))))))
theorem dX10_begin_0 : decode (mC mX10_begin) 0 = .ok (.iconst 0, 1) := by decide +kernel
theorem dX10_begin_1 : decode (mC mX10_begin) 1 = .ok (.istore_n 3, 1) := by decide +kernel
theorem dX10_begin_2 : decode (mC mX10_begin) 2 = .ok (.iload_n 3, 1) := by decide +kernel
theorem dX10_begin_3 : decode (mC mX10_begin) 3 = .ok (.iconst 4, 1) := by decide +kernel
theorem dX10_begin_4 : decode (mC mX10_begin) 4 = .ok (.if_icmp .ge 23, 3) := by decide +kernel
theorem dX10_begin_7 : decode (mC mX10_begin) 7 = .ok (.aload_n 0, 1) := by decide +kernel
theorem dX10_begin_8 : decode (mC mX10_begin) 8 = .ok (.getfield 9, 3) := by decide +kernel
theorem dX10_begin_11 : decode (mC mX10_begin) 11 = .ok (.iload_n 3, 1) := by decide +kernel
theorem dX10_begin_12 : decode (mC mX10_begin) 12 = .ok (.iconst 0, 1) := by decide +kernel
theorem dX10_begin_13 : decode (mC mX10_begin) 13 = .ok (.iastore, 1) := by decide +kernel
theorem dX10_begin_14 : decode (mC mX10_begin) 14 = .ok (.aload_n 0, 1) := by decide +kernel
theorem dX10_begin_15 : decode (mC mX10_begin) 15 = .ok (.getfield 15, 3) := by decide +kernel
theorem dX10_begin_18 : decode (mC mX10_begin) 18 = .ok (.iload_n 3, 1) := by decide +kernel
theorem dX10_begin_19 : decode (mC mX10_begin) 19 = .ok (.iconst 0, 1) := by decide +kernel
theorem dX10_begin_20 : decode (mC mX10_begin) 20 = .ok (.iastore, 1) := by decide +kernel
theorem dX10_begin_21 : decode (mC mX10_begin) 21 = .ok (.iinc 3 1, 3) := by decide +kernel
theorem dX10_begin_24 : decode (mC mX10_begin) 24 = .ok (.goto (-22), 3) := by decide +kernel
theorem dX10_begin_27 : decode (mC mX10_begin) 27 = .ok (.aload_n 0, 1) := by decide +kernel
theorem dX10_begin_28 : decode (mC mX10_begin) 28 = .ok (.iload_n 1, 1) := by decide +kernel
theorem dX10_begin_29 : decode (mC mX10_begin) 29 = .ok (.putfield 59, 3) := by decide +kernel
theorem dX10_begin_32 : decode (mC mX10_begin) 32 = .ok (.aload_n 0, 1) := by decide +kernel
theorem dX10_begin_33 : decode (mC mX10_begin) 33 = .ok (.iload_n 2, 1) := by decide +kernel
theorem dX10_begin_34 : decode (mC mX10_begin) 34 = .ok (.putfield 62, 3) := by decide +kernel
theorem dX10_begin_37 : decode (mC mX10_begin) 37 = .ok (.aload_n 0, 1) := by decide +kernel
theorem dX10_begin_38 : decode (mC mX10_begin) 38 = .ok (.iconst 0, 1) := by decide +kernel
theorem dX10_begin_39 : decode (mC mX10_begin) 39 = .ok (.putfield 53, 3) := by decide +kernel
theorem dX10_begin_42 : decode (mC mX10_begin) 42 = .ok (.aload_n 0, 1) := by decide +kernel
theorem dX10_begin_43 : decode (mC mX10_begin) 43 = .ok (.iconst 0, 1) := by decide +kernel
theorem dX10_begin_44 : decode (mC mX10_begin) 44 = .ok (.putfield 35, 3) := by decide +kernel
theorem dX10_begin_47 : decode (mC mX10_begin) 47 = .ok (.aload_n 0, 1) := by decide +kernel
theorem dX10_begin_48 : decode (mC mX10_begin) 48 = .ok (.iconst 0, 1) := by decide +kernel
theorem dX10_begin_49 : decode (mC mX10_begin) 49 = .ok (.putfield 38, 3) := by decide +kernel
theorem dX10_begin_52 : decode (mC mX10_begin) 52 = .ok (.aload_n 0, 1) := by decide +kernel
theorem dX10_begin_53 : decode (mC mX10_begin) 53 = .ok (.iconst 0, 1) := by decide +kernel
theorem dX10_begin_54 : decode (mC mX10_begin) 54 = .ok (.putfield 56, 3) := by decide +kernel
theorem dX10_begin_57 : decode (mC mX10_begin) 57 = .ok (.aload_n 0, 1) := by decide +kernel
theorem dX10_begin_58 : decode (mC mX10_begin) 58 = .ok (.iconst 0, 1) := by decide +kernel
theorem dX10_begin_59 : decode (mC mX10_begin) 59 = .ok (.putfield 50, 3) := by decide +kernel
theorem dX10_begin_62 : decode (mC mX10_begin) 62 = .ok (.aload_n 0, 1) := by decide +kernel
theorem dX10_begin_63 : decode (mC mX10_begin) 63 = .ok (.iconst 0, 1) := by decide +kernel
theorem dX10_begin_64 : decode (mC mX10_begin) 64 = .ok (.putfield 31, 3) := by decide +kernel
theorem dX10_begin_67 : decode (mC mX10_begin) 67 = .ok (.return_, 1) := by decide +kernel
set_option maxRecDepth 100000 in
theorem bX10_begin_0 {sc : Nat × (Nat → Int32)} {h : jH} {Q : jQ} {l1 l2 : Int32}
    (v1 : WP mX10_begin Q 2 [some (.ref 69), some (.int l1), some (.int l2), some (.int 0)] [] (jG0 sc) h (0, 0)) :
    WP mX10_begin Q 0 [some (.ref 69), some (.int l1), some (.int l2), none] [] (jG0 sc) h (0, 0) := by
  refine j_iconst (n := 0) 0 (by decide) dX10_begin_0 ?_
  refine j_istore_n (i := 3) dX10_begin_1 (Nat.le_of_ble_eq_true rfl) ?_
  exact j_le [some (.ref 69), some (.int l1), some (.int l2), some (.int 0)] (And.intro rfl (And.intro rfl (And.intro rfl (And.intro rfl True.intro)))) v1
set_option maxRecDepth 100000 in
theorem bX10_begin_2 {sc : Nat × (Nat → Int32)} {h : jH} {Q : jQ} {l1 l2 l3 : Int32}
    (v1 : 4 ≤ l3 → WP mX10_begin Q 27 [some (.ref 69), some (.int l1), some (.int l2), some (.int l3)] [] (jG0 sc) h (0, 0))
    (v2 : ¬ 4 ≤ l3 → WP mX10_begin Q 7 [some (.ref 69), some (.int l1), some (.int l2), some (.int l3)] [] (jG0 sc) h (0, 0)) :
    WP mX10_begin Q 2 [some (.ref 69), some (.int l1), some (.int l2), some (.int l3)] [] (jG0 sc) h (0, 0) := by
  refine j_iload_n (i := 3) rfl dX10_begin_2 ?_
  refine j_iconst (n := 4) 4 (by decide) dX10_begin_3 ?_
  refine j_icmp_ge (off := 23) 27 dX10_begin_4 (by decide) (fun c1 => ?_) (fun c1 => ?_)
  · exact j_le [some (.ref 69), some (.int l1), some (.int l2), some (.int l3)] (And.intro rfl (And.intro rfl (And.intro rfl (And.intro rfl True.intro)))) (v1 c1)
  · exact j_le [some (.ref 69), some (.int l1), some (.int l2), some (.int l3)] (And.intro rfl (And.intro rfl (And.intro rfl (And.intro rfl True.intro)))) (v2 c1)
set_option maxRecDepth 100000 in
theorem bX10_begin_7 {sc : Nat × (Nat → Int32)} {h : jH} {Q : jQ} {l1 l2 l3 : Int32}
    (o1 : vp_in l3 4)
    (o2 : vp_in l3 4)
    (v1 : WP mX10_begin Q 2 [some (.ref 69), some (.int l1), some (.int l2), some (.int (l3 + 1))] [] (jG0 sc) (jput (jput h 70 l3.toNatClampNeg 0) 71 l3.toNatClampNeg 0) (0, 0)) :
    WP mX10_begin Q 7 [some (.ref 69), some (.int l1), some (.int l2), some (.int l3)] [] (jG0 sc) h (0, 0) := by
  refine j_aload_n (i := 0) rfl dX10_begin_7 ?_
  refine j_getR (idx := 9) (ci := 10) (k := 0) (nest := false) (show (10, 9, 10, 0, false) ∈ jFT by decide) rfl (Nat.le_of_ble_eq_true rfl) rfl (a := 70) rfl dX10_begin_8 ?_
  refine j_iload_n (i := 3) rfl dX10_begin_11 ?_
  refine j_iconst (n := 0) 0 (by decide) dX10_begin_12 ?_
  refine j_iast (Nat.le_of_ble_eq_true rfl) rfl o1 dX10_begin_13 ?_
  refine j_aload_n (i := 0) rfl dX10_begin_14 ?_
  refine j_getR (idx := 15) (ci := 10) (k := 1) (nest := false) (show (10, 15, 10, 1, false) ∈ jFT by decide) rfl (Nat.le_of_ble_eq_true rfl) rfl (a := 71) rfl dX10_begin_15 ?_
  refine j_iload_n (i := 3) rfl dX10_begin_18 ?_
  refine j_iconst (n := 0) 0 (by decide) dX10_begin_19 ?_
  refine j_iast (Nat.le_of_ble_eq_true rfl) rfl o2 dX10_begin_20 ?_
  refine j_iinc (i := 3) (n := 1) rfl dX10_begin_21 (Nat.le_of_ble_eq_true rfl) ?_
  refine j_eqlv [some (.ref 69), some (.int l1), some (.int l2), some (.int (l3 + 1))] rfl ?_
  refine j_goto (off := -22) 2 dX10_begin_24 (by decide) ?_
  exact j_le [some (.ref 69), some (.int l1), some (.int l2), some (.int (l3 + 1))] (And.intro rfl (And.intro rfl (And.intro rfl (And.intro rfl True.intro)))) v1
set_option maxRecDepth 100000 in
theorem bX10_begin_27 {sc : Nat × (Nat → Int32)} {h : jH} {Q : jQ} {l1 l2 l3 : Int32}
    (v1 : WP mX10_begin Q 64 [some (.ref 69), some (.int l1), some (.int l2), some (.int l3)] [.int 0, .ref 69] (jG0 sc) (jput (jput (jput (jput (jput (jput (jput h 69 3 l1) 69 4 l2) 69 2 0) 69 7 0) 69 8 0) 69 9 0) 69 10 0) (0, 0)) :
    WP mX10_begin Q 27 [some (.ref 69), some (.int l1), some (.int l2), some (.int l3)] [] (jG0 sc) h (0, 0) := by
  refine j_aload_n (i := 0) rfl dX10_begin_27 ?_
  refine j_iload_n (i := 1) rfl dX10_begin_28 ?_
  refine j_putI (idx := 59) (ci := 10) (k := 3) (nest := false) (show (10, 59, 10, 3, false) ∈ jFT by decide) rfl rfl rfl rfl (Nat.le_of_ble_eq_true rfl) rfl dX10_begin_29 ?_
  refine j_aload_n (i := 0) rfl dX10_begin_32 ?_
  refine j_iload_n (i := 2) rfl dX10_begin_33 ?_
  refine j_putI (idx := 62) (ci := 10) (k := 4) (nest := false) (show (10, 62, 10, 4, false) ∈ jFT by decide) rfl rfl rfl rfl (Nat.le_of_ble_eq_true rfl) rfl dX10_begin_34 ?_
  refine j_aload_n (i := 0) rfl dX10_begin_37 ?_
  refine j_iconst (n := 0) 0 (by decide) dX10_begin_38 ?_
  refine j_putI (idx := 53) (ci := 10) (k := 2) (nest := false) (show (10, 53, 10, 2, false) ∈ jFT by decide) rfl rfl rfl rfl (Nat.le_of_ble_eq_true rfl) rfl dX10_begin_39 ?_
  refine j_aload_n (i := 0) rfl dX10_begin_42 ?_
  refine j_iconst (n := 0) 0 (by decide) dX10_begin_43 ?_
  refine j_putI (idx := 35) (ci := 10) (k := 7) (nest := false) (show (10, 35, 10, 7, false) ∈ jFT by decide) rfl rfl rfl rfl (Nat.le_of_ble_eq_true rfl) rfl dX10_begin_44 ?_
  refine j_aload_n (i := 0) rfl dX10_begin_47 ?_
  refine j_iconst (n := 0) 0 (by decide) dX10_begin_48 ?_
  refine j_putI (idx := 38) (ci := 10) (k := 8) (nest := false) (show (10, 38, 10, 8, false) ∈ jFT by decide) rfl rfl rfl rfl (Nat.le_of_ble_eq_true rfl) rfl dX10_begin_49 ?_
  refine j_aload_n (i := 0) rfl dX10_begin_52 ?_
  refine j_iconst (n := 0) 0 (by decide) dX10_begin_53 ?_
  refine j_putI (idx := 56) (ci := 10) (k := 9) (nest := false) (show (10, 56, 10, 9, false) ∈ jFT by decide) rfl rfl rfl rfl (Nat.le_of_ble_eq_true rfl) rfl dX10_begin_54 ?_
  refine j_aload_n (i := 0) rfl dX10_begin_57 ?_
  refine j_iconst (n := 0) 0 (by decide) dX10_begin_58 ?_
  refine j_putI (idx := 50) (ci := 10) (k := 10) (nest := false) (show (10, 50, 10, 10, false) ∈ jFT by decide) rfl rfl rfl rfl (Nat.le_of_ble_eq_true rfl) rfl dX10_begin_59 ?_
  refine j_aload_n (i := 0) rfl dX10_begin_62 ?_
  refine j_iconst (n := 0) 0 (by decide) dX10_begin_63 ?_
  exact j_le [some (.ref 69), some (.int l1), some (.int l2), some (.int l3)] (And.intro rfl (And.intro rfl (And.intro rfl (And.intro rfl True.intro)))) v1
set_option maxRecDepth 100000 in
theorem bX10_begin_64 {sc : Nat × (Nat → Int32)} {h : jH} {Q : jQ} {l1 l2 l3 s0 : Int32}
    (o1 : s0 = 0 ∨ s0 = 1)
    (v1 : Q (.inl none) (jG0 sc) (jput h 69 11 s0)) :
    WP mX10_begin Q 64 [some (.ref 69), some (.int l1), some (.int l2), some (.int l3)] [.int s0, .ref 69] (jG0 sc) h (0, 0) := by
  refine j_putI (idx := 31) (ci := 10) (k := 11) (nest := false) (show (10, 31, 10, 11, false) ∈ jFT by decide) rfl rfl (jbn o1) (jbf o1) (Nat.le_of_ble_eq_true rfl) rfl dX10_begin_64 ?_
  exact j_vret rfl (Nat.zero_le _) (Nat.zero_le _) dX10_begin_67 v1
set_option maxRecDepth 100000 in
theorem rX10_begin_0 {sc : Nat × (Nat → Int32)} {h : jH} {Q : jQ} {l1 l2 : Int32}
    (v1 : WP mX10_begin Q 2 [some (.ref 69), some (.int l1), some (.int l2), some (.int 0)] [] (jG0 sc) h (0, 0)) :
    WP mX10_begin Q 0 [some (.ref 69), some (.int l1), some (.int l2), none] [] (jG0 sc) h (0, 0) := by
  exact (bX10_begin_0 v1)
set_option maxRecDepth 100000 in
theorem rX10_begin_2 {sc : Nat × (Nat → Int32)} {h : jH} {Q : jQ} {l1 l2 l3 : Int32}
    (v1 : 4 ≤ l3 → Q (.inl none) (jG0 sc) (jput (jput (jput (jput (jput (jput (jput (jput h 69 3 l1) 69 4 l2) 69 2 0) 69 7 0) 69 8 0) 69 9 0) 69 10 0) 69 11 0))
    (o1 : ¬ 4 ≤ l3 → vp_in l3 4)
    (v2 : ¬ 4 ≤ l3 → WP mX10_begin Q 2 [some (.ref 69), some (.int l1), some (.int l2), some (.int (l3 + 1))] [] (jG0 sc) (jput (jput h 70 l3.toNatClampNeg 0) 71 l3.toNatClampNeg 0) (0, 0)) :
    WP mX10_begin Q 2 [some (.ref 69), some (.int l1), some (.int l2), some (.int l3)] [] (jG0 sc) h (0, 0) := by
  exact (bX10_begin_2 (fun c1 => (bX10_begin_27 (bX10_begin_64 (by decide) (v1 c1)))) (fun c1 => (bX10_begin_7 (o1 c1) (o1 c1) (v2 c1))))
theorem dX10_step_0 : decode (mC mX10_step) 0 = .ok (.iload_n 2, 1) := by decide +kernel
theorem dX10_step_1 : decode (mC mX10_step) 1 = .ok (.invokestatic 65, 3) := by decide +kernel
theorem dX10_step_4 : decode (mC mX10_step) 4 = .ok (.istore_n 3, 1) := by decide +kernel
theorem dX10_step_5 : decode (mC mX10_step) 5 = .ok (.iload_n 3, 1) := by decide +kernel
theorem dX10_step_6 : decode (mC mX10_step) 6 = .ok (.iconst 4, 1) := by decide +kernel
theorem dX10_step_7 : decode (mC mX10_step) 7 = .ok (.if_icmp .ne 7, 3) := by decide +kernel
theorem dX10_step_10 : decode (mC mX10_step) 10 = .ok (.iload_n 1, 1) := by decide +kernel
theorem dX10_step_11 : decode (mC mX10_step) 11 = .ok (.iconst 1, 1) := by decide +kernel
theorem dX10_step_12 : decode (mC mX10_step) 12 = .ok (.iadd, 1) := by decide +kernel
theorem dX10_step_13 : decode (mC mX10_step) 13 = .ok (.ireturn, 1) := by decide +kernel
theorem dX10_step_14 : decode (mC mX10_step) 14 = .ok (.iload_n 2, 1) := by decide +kernel
theorem dX10_step_15 : decode (mC mX10_step) 15 = .ok (.invokestatic 68, 3) := by decide +kernel
theorem dX10_step_18 : decode (mC mX10_step) 18 = .ok (.istore 4, 2) := by decide +kernel
theorem dX10_step_20 : decode (mC mX10_step) 20 = .ok (.iload_n 2, 1) := by decide +kernel
theorem dX10_step_21 : decode (mC mX10_step) 21 = .ok (.invokestatic 71, 3) := by decide +kernel
theorem dX10_step_24 : decode (mC mX10_step) 24 = .ok (.istore 5, 2) := by decide +kernel
theorem dX10_step_26 : decode (mC mX10_step) 26 = .ok (.iconst 1, 1) := by decide +kernel
theorem dX10_step_27 : decode (mC mX10_step) 27 = .ok (.iload_n 1, 1) := by decide +kernel
theorem dX10_step_28 : decode (mC mX10_step) 28 = .ok (.ishl, 1) := by decide +kernel
theorem dX10_step_29 : decode (mC mX10_step) 29 = .ok (.aload_n 0, 1) := by decide +kernel
theorem dX10_step_30 : decode (mC mX10_step) 30 = .ok (.iload 4, 2) := by decide +kernel
theorem dX10_step_32 : decode (mC mX10_step) 32 = .ok (.invokevirtual 74, 3) := by decide +kernel
theorem dX10_step_35 : decode (mC mX10_step) 35 = .ok (.ior, 1) := by decide +kernel
theorem dX10_step_36 : decode (mC mX10_step) 36 = .ok (.aload_n 0, 1) := by decide +kernel
theorem dX10_step_37 : decode (mC mX10_step) 37 = .ok (.iload 5, 2) := by decide +kernel
theorem dX10_step_39 : decode (mC mX10_step) 39 = .ok (.invokevirtual 74, 3) := by decide +kernel
theorem dX10_step_42 : decode (mC mX10_step) 42 = .ok (.ior, 1) := by decide +kernel
theorem dX10_step_43 : decode (mC mX10_step) 43 = .ok (.istore 6, 2) := by decide +kernel
theorem dX10_step_45 : decode (mC mX10_step) 45 = .ok (.iload_n 3, 1) := by decide +kernel
theorem dX10_step_46 : decode (mC mX10_step) 46 = .ok (.iconst 1, 1) := by decide +kernel
theorem dX10_step_47 : decode (mC mX10_step) 47 = .ok (.if_icmp .eq 8, 3) := by decide +kernel
theorem dX10_step_50 : decode (mC mX10_step) 50 = .ok (.iload_n 3, 1) := by decide +kernel
theorem dX10_step_51 : decode (mC mX10_step) 51 = .ok (.iconst 2, 1) := by decide +kernel
theorem dX10_step_52 : decode (mC mX10_step) 52 = .ok (.if_icmp .ne 45, 3) := by decide +kernel
theorem dX10_step_55 : decode (mC mX10_step) 55 = .ok (.aload_n 0, 1) := by decide +kernel
theorem dX10_step_56 : decode (mC mX10_step) 56 = .ok (.dup, 1) := by decide +kernel
theorem dX10_step_57 : decode (mC mX10_step) 57 = .ok (.getfield 53, 3) := by decide +kernel
theorem dX10_step_60 : decode (mC mX10_step) 60 = .ok (.iload 6, 2) := by decide +kernel
theorem dX10_step_62 : decode (mC mX10_step) 62 = .ok (.ior, 1) := by decide +kernel
theorem dX10_step_63 : decode (mC mX10_step) 63 = .ok (.putfield 53, 3) := by decide +kernel
theorem dX10_step_66 : decode (mC mX10_step) 66 = .ok (.aload_n 0, 1) := by decide +kernel
theorem dX10_step_67 : decode (mC mX10_step) 67 = .ok (.iload 4, 2) := by decide +kernel
theorem dX10_step_69 : decode (mC mX10_step) 69 = .ok (.iload_n 2, 1) := by decide +kernel
theorem dX10_step_70 : decode (mC mX10_step) 70 = .ok (.invokestatic 77, 3) := by decide +kernel
theorem dX10_step_73 : decode (mC mX10_step) 73 = .ok (.iload 5, 2) := by decide +kernel
theorem dX10_step_75 : decode (mC mX10_step) 75 = .ok (.invokevirtual 80, 3) := by decide +kernel
theorem dX10_step_78 : decode (mC mX10_step) 78 = .ok (.ifCond .eq 15, 3) := by decide +kernel
theorem dX10_step_81 : decode (mC mX10_step) 81 = .ok (.iload_n 1, 1) := by decide +kernel
theorem dX10_step_82 : decode (mC mX10_step) 82 = .ok (.iload_n 3, 1) := by decide +kernel
theorem dX10_step_83 : decode (mC mX10_step) 83 = .ok (.iload_n 2, 1) := by decide +kernel
theorem dX10_step_84 : decode (mC mX10_step) 84 = .ok (.invokestatic 84, 3) := by decide +kernel
theorem dX10_step_87 : decode (mC mX10_step) 87 = .ok (.invokestatic 87, 3) := by decide +kernel
theorem dX10_step_90 : decode (mC mX10_step) 90 = .ok (.goto 6, 3) := by decide +kernel
theorem dX10_step_93 : decode (mC mX10_step) 93 = .ok (.iload_n 1, 1) := by decide +kernel
theorem dX10_step_94 : decode (mC mX10_step) 94 = .ok (.iconst 1, 1) := by decide +kernel
theorem dX10_step_95 : decode (mC mX10_step) 95 = .ok (.iadd, 1) := by decide +kernel
theorem dX10_step_96 : decode (mC mX10_step) 96 = .ok (.ireturn, 1) := by decide +kernel
theorem dX10_step_97 : decode (mC mX10_step) 97 = .ok (.iload_n 3, 1) := by decide +kernel
theorem dX10_step_98 : decode (mC mX10_step) 98 = .ok (.ifCond .ne 18, 3) := by decide +kernel
theorem dX10_step_101 : decode (mC mX10_step) 101 = .ok (.iload_n 1, 1) := by decide +kernel
theorem dX10_step_102 : decode (mC mX10_step) 102 = .ok (.aload_n 0, 1) := by decide +kernel
theorem dX10_step_103 : decode (mC mX10_step) 103 = .ok (.getfield 18, 3) := by decide +kernel
theorem dX10_step_106 : decode (mC mX10_step) 106 = .ok (.if_icmp .ne 10, 3) := by decide +kernel
theorem dX10_step_109 : decode (mC mX10_step) 109 = .ok (.aload_n 0, 1) := by decide +kernel
theorem dX10_step_110 : decode (mC mX10_step) 110 = .ok (.getfield 91, 3) := by decide +kernel
theorem dX10_step_113 : decode (mC mX10_step) 113 = .ok (.goto 15, 3) := by decide +kernel
theorem dX10_step_116 : decode (mC mX10_step) 116 = .ok (.aload_n 0, 1) := by decide +kernel
theorem dX10_step_117 : decode (mC mX10_step) 117 = .ok (.iload 4, 2) := by decide +kernel
theorem dX10_step_119 : decode (mC mX10_step) 119 = .ok (.iload_n 2, 1) := by decide +kernel
theorem dX10_step_120 : decode (mC mX10_step) 120 = .ok (.invokestatic 77, 3) := by decide +kernel
theorem dX10_step_123 : decode (mC mX10_step) 123 = .ok (.iload 5, 2) := by decide +kernel
theorem dX10_step_125 : decode (mC mX10_step) 125 = .ok (.invokevirtual 94, 3) := by decide +kernel
theorem dX10_step_128 : decode (mC mX10_step) 128 = .ok (.istore 7, 2) := by decide +kernel
theorem dX10_step_130 : decode (mC mX10_step) 130 = .ok (.iload_n 3, 1) := by decide +kernel
theorem dX10_step_131 : decode (mC mX10_step) 131 = .ok (.iconst 3, 1) := by decide +kernel
theorem dX10_step_132 : decode (mC mX10_step) 132 = .ok (.if_icmp .eq 11, 3) := by decide +kernel
theorem dX10_step_135 : decode (mC mX10_step) 135 = .ok (.iload 7, 2) := by decide +kernel
theorem dX10_step_137 : decode (mC mX10_step) 137 = .ok (.invokestatic 97, 3) := by decide +kernel
theorem dX10_step_140 : decode (mC mX10_step) 140 = .ok (.ifCond .ne 27, 3) := by decide +kernel
theorem dX10_step_143 : decode (mC mX10_step) 143 = .ok (.aload_n 0, 1) := by decide +kernel
theorem dX10_step_144 : decode (mC mX10_step) 144 = .ok (.iload 7, 2) := by decide +kernel
theorem dX10_step_146 : decode (mC mX10_step) 146 = .ok (.putfield 50, 3) := by decide +kernel
theorem dX10_step_149 : decode (mC mX10_step) 149 = .ok (.aload_n 0, 1) := by decide +kernel
theorem dX10_step_150 : decode (mC mX10_step) 150 = .ok (.aload_n 0, 1) := by decide +kernel
theorem dX10_step_151 : decode (mC mX10_step) 151 = .ok (.getfield 53, 3) := by decide +kernel
theorem dX10_step_154 : decode (mC mX10_step) 154 = .ok (.iload 6, 2) := by decide +kernel
theorem dX10_step_156 : decode (mC mX10_step) 156 = .ok (.ior, 1) := by decide +kernel
theorem dX10_step_157 : decode (mC mX10_step) 157 = .ok (.putfield 56, 3) := by decide +kernel
theorem dX10_step_160 : decode (mC mX10_step) 160 = .ok (.aload_n 0, 1) := by decide +kernel
theorem dX10_step_161 : decode (mC mX10_step) 161 = .ok (.iconst 1, 1) := by decide +kernel
theorem dX10_step_162 : decode (mC mX10_step) 162 = .ok (.putfield 31, 3) := by decide +kernel
theorem dX10_step_165 : decode (mC mX10_step) 165 = .ok (.iload_n 1, 1) := by decide +kernel
theorem dX10_step_166 : decode (mC mX10_step) 166 = .ok (.ireturn, 1) := by decide +kernel
theorem dX10_step_167 : decode (mC mX10_step) 167 = .ok (.iload_n 2, 1) := by decide +kernel
theorem dX10_step_168 : decode (mC mX10_step) 168 = .ok (.invokestatic 101, 3) := by decide +kernel
theorem dX10_step_171 : decode (mC mX10_step) 171 = .ok (.istore 8, 2) := by decide +kernel
theorem dX10_step_173 : decode (mC mX10_step) 173 = .ok (.iload 8, 2) := by decide +kernel
theorem dX10_step_175 : decode (mC mX10_step) 175 = .ok (.ifCond .lt 32, 3) := by decide +kernel
theorem dX10_step_178 : decode (mC mX10_step) 178 = .ok (.iload 8, 2) := by decide +kernel
theorem dX10_step_180 : decode (mC mX10_step) 180 = .ok (.iconst 4, 1) := by decide +kernel
theorem dX10_step_181 : decode (mC mX10_step) 181 = .ok (.if_icmp .ge 26, 3) := by decide +kernel
theorem dX10_step_184 : decode (mC mX10_step) 184 = .ok (.aload_n 0, 1) := by decide +kernel
theorem dX10_step_185 : decode (mC mX10_step) 185 = .ok (.getfield 9, 3) := by decide +kernel
theorem dX10_step_188 : decode (mC mX10_step) 188 = .ok (.iload 8, 2) := by decide +kernel
theorem dX10_step_190 : decode (mC mX10_step) 190 = .ok (.iload 7, 2) := by decide +kernel
theorem dX10_step_192 : decode (mC mX10_step) 192 = .ok (.iastore, 1) := by decide +kernel
theorem dX10_step_193 : decode (mC mX10_step) 193 = .ok (.aload_n 0, 1) := by decide +kernel
theorem dX10_step_194 : decode (mC mX10_step) 194 = .ok (.getfield 15, 3) := by decide +kernel
theorem dX10_step_197 : decode (mC mX10_step) 197 = .ok (.iload 8, 2) := by decide +kernel
theorem dX10_step_199 : decode (mC mX10_step) 199 = .ok (.iload 6, 2) := by decide +kernel
theorem dX10_step_201 : decode (mC mX10_step) 201 = .ok (.aload_n 0, 1) := by decide +kernel
theorem dX10_step_202 : decode (mC mX10_step) 202 = .ok (.getfield 53, 3) := by decide +kernel
theorem dX10_step_205 : decode (mC mX10_step) 205 = .ok (.ior, 1) := by decide +kernel
theorem dX10_step_206 : decode (mC mX10_step) 206 = .ok (.iastore, 1) := by decide +kernel
theorem dX10_step_207 : decode (mC mX10_step) 207 = .ok (.iload_n 1, 1) := by decide +kernel
theorem dX10_step_208 : decode (mC mX10_step) 208 = .ok (.iconst 1, 1) := by decide +kernel
theorem dX10_step_209 : decode (mC mX10_step) 209 = .ok (.iadd, 1) := by decide +kernel
theorem dX10_step_210 : decode (mC mX10_step) 210 = .ok (.ireturn, 1) := by decide +kernel
set_option maxRecDepth 100000 in
theorem bX10_step_0 {sc : Nat × (Nat → Int32)} {h : jH} {Q : jQ} {l1 l2 : Int32} {P1 : Int32 → jH → Prop}
    (k1 : JM mX11_kindOf [.int l2] (jG0 sc) h (jint sc P1))
    (v1 : ∀ (x1 : Int32) (h1 : jH), P1 x1 h1 → ¬ x1 = 4 → WP mX10_step Q 14 [some (.ref 69), some (.int l1), some (.int l2), some (.int x1), none, none, none, none, none] [] (jG0 sc) h1 (0, 0))
    (v2 : ∀ (x1 : Int32) (h1 : jH), P1 x1 h1 → x1 = 4 → WP mX10_step Q 10 [some (.ref 69), some (.int l1), some (.int l2), some (.int x1), none, none, none, none, none] [] (jG0 sc) h1 (0, 0)) :
    WP mX10_step Q 0 [some (.ref 69), some (.int l1), some (.int l2), none, none, none, none, none, none] [] (jG0 sc) h (0, 0) := by
  refine j_iload_n (i := 2) rfl dX10_step_0 ?_
  refine j_callSN (idx := 65) (As := [.int l2]) (n := 1) k1 jint_nt (jTbl (jtb3 22 rfl)) sX11_kindOf kX11_kindOf rfl ⟨by decide +kernel, by decide +kernel, by decide +kernel⟩ rfl ⟨by decide, by decide⟩ (Nat.le_of_ble_eq_true rfl) ⟨Nat.zero_le _, Nat.zero_le _⟩ dX10_step_1 (fun r Γ' h1 q => ?_)
  obtain ⟨x1, q0, rfl, p1⟩ := q; cases q0
  refine j_eqst [.int x1] (by rfl) ?_
  refine j_istore_n (i := 3) dX10_step_4 (Nat.le_of_ble_eq_true rfl) ?_
  refine j_iload_n (i := 3) rfl dX10_step_5 ?_
  refine j_iconst (n := 4) 4 (by decide) dX10_step_6 ?_
  refine j_icmp_ne (off := 7) 14 dX10_step_7 (by decide) (fun c1 => ?_) (fun c1 => ?_)
  · exact j_le [some (.ref 69), some (.int l1), some (.int l2), some (.int x1), none, none, none, none, none] (And.intro rfl (And.intro rfl (And.intro rfl (And.intro rfl True.intro)))) (v1 x1 h1 p1 c1)
  · exact j_le [some (.ref 69), some (.int l1), some (.int l2), some (.int x1), none, none, none, none, none] (And.intro rfl (And.intro rfl (And.intro rfl (And.intro rfl True.intro)))) (v2 x1 h1 p1 c1)
set_option maxRecDepth 100000 in
theorem bX10_step_10 {sc : Nat × (Nat → Int32)} {h : jH} {Q : jQ} {l1 l2 l3 : Int32}
    (v1 : Q (.inl (some (.int (l1 + 1)))) (jG0 sc) h) :
    WP mX10_step Q 10 [some (.ref 69), some (.int l1), some (.int l2), some (.int l3), none, none, none, none, none] [] (jG0 sc) h (0, 0) := by
  refine j_iload_n (i := 1) rfl dX10_step_10 ?_
  refine j_iconst (n := 1) 1 (by decide) dX10_step_11 ?_
  refine j_iadd dX10_step_12 ?_
  exact j_iret rfl rfl (Nat.zero_le _) (Nat.zero_le _) dX10_step_13 v1
set_option maxRecDepth 100000 in
theorem bX10_step_14 {sc : Nat × (Nat → Int32)} {h : jH} {Q : jQ} {l1 l2 l3 : Int32} {P1 : Int32 → jH → Prop} {P2 : Int32 → jH → Prop} {P3 : Int32 → jH → Prop}
    (k1 : JM mX11_firstOf [.int l2] (jG0 sc) h (jint sc P1))
    (k2 : ∀ (x1 : Int32) (h1 : jH), P1 x1 h1 → JM mX11_secondOf [.int l2] (jG0 sc) h1 (jint sc P2))
    (k3 : ∀ (x1 : Int32) (h1 : jH), P1 x1 h1 → ∀ (x2 : Int32) (h2 : jH), P2 x2 h2 → JM mX10_restsOf [.ref 69, .int x1] (jG0 sc) h2 (jint sc P3))
    (v1 : ∀ (x1 : Int32) (h1 : jH), P1 x1 h1 → ∀ (x2 : Int32) (h2 : jH), P2 x2 h2 → ∀ (x3 : Int32) (h3 : jH), P3 x3 h3 → WP mX10_step Q 37 [some (.ref 69), some (.int l1), some (.int l2), some (.int l3), some (.int x1), some (.int x2), none, none, none] [.ref 69, .int (((1 : Int32) <<< (l1 &&& 31)) ||| x3)] (jG0 sc) h3 (0, 0)) :
    WP mX10_step Q 14 [some (.ref 69), some (.int l1), some (.int l2), some (.int l3), none, none, none, none, none] [] (jG0 sc) h (0, 0) := by
  refine j_iload_n (i := 2) rfl dX10_step_14 ?_
  refine j_callSN (idx := 68) (As := [.int l2]) (n := 1) k1 jint_nt (jTbl (jtb3 25 rfl)) sX11_firstOf kX11_firstOf rfl ⟨by decide +kernel, by decide +kernel, by decide +kernel⟩ rfl ⟨by decide, by decide⟩ (Nat.le_of_ble_eq_true rfl) ⟨Nat.zero_le _, Nat.zero_le _⟩ dX10_step_15 (fun r Γ' h1 q => ?_)
  obtain ⟨x1, q0, rfl, p1⟩ := q; cases q0
  refine j_eqst [.int x1] (by rfl) ?_
  refine j_istore (i := 4) dX10_step_18 (Nat.le_of_ble_eq_true rfl) ?_
  refine j_iload_n (i := 2) rfl dX10_step_20 ?_
  refine j_callSN (idx := 71) (As := [.int l2]) (n := 1) (k2 x1 h1 p1) jint_nt (jTbl (jtb3 28 rfl)) sX11_secondOf kX11_secondOf rfl ⟨by decide +kernel, by decide +kernel, by decide +kernel⟩ rfl ⟨by decide, by decide⟩ (Nat.le_of_ble_eq_true rfl) ⟨Nat.zero_le _, Nat.zero_le _⟩ dX10_step_21 (fun r Γ' h2 q => ?_)
  obtain ⟨x2, q0, rfl, p2⟩ := q; cases q0
  refine j_eqst [.int x2] (by rfl) ?_
  refine j_istore (i := 5) dX10_step_24 (Nat.le_of_ble_eq_true rfl) ?_
  refine j_iconst (n := 1) 1 (by decide) dX10_step_26 ?_
  refine j_iload_n (i := 1) rfl dX10_step_27 ?_
  refine j_ishl dX10_step_28 ?_
  refine j_aload_n (i := 0) rfl dX10_step_29 ?_
  refine j_iload (i := 4) rfl dX10_step_30 ?_
  refine j_callV (idx := 74) (As := [.int x1]) (ci := 10) (n := 1) (k3 x1 h1 p1 x2 h2 p2) jint_nt (jlkT (jtb3 31 rfl) rfl) sX10_restsOf kX10_restsOf rfl ⟨rfl, by decide +kernel, by decide +kernel, by decide +kernel⟩ rfl ⟨by decide, by decide⟩ (Nat.le_of_ble_eq_true rfl) rfl (Nat.le_of_ble_eq_true rfl) (Nat.le_of_ble_eq_true rfl) ⟨Nat.zero_le _, Nat.zero_le _⟩ dX10_step_32 (fun r Γ' h3 q => ?_)
  obtain ⟨x3, q0, rfl, p3⟩ := q; cases q0
  refine j_eqst [.int x3, .int ((1 : Int32) <<< (l1 &&& 31))] (by rfl) ?_
  refine j_ior dX10_step_35 ?_
  refine j_aload_n (i := 0) rfl dX10_step_36 ?_
  exact j_le [some (.ref 69), some (.int l1), some (.int l2), some (.int l3), some (.int x1), some (.int x2), none, none, none] (And.intro rfl (And.intro rfl (And.intro rfl (And.intro rfl (And.intro rfl (And.intro rfl True.intro)))))) (v1 x1 h1 p1 x2 h2 p2 x3 h3 p3)
set_option maxRecDepth 100000 in
theorem bX10_step_37 {sc : Nat × (Nat → Int32)} {h : jH} {Q : jQ} {l1 l2 l3 l4 l5 s1 : Int32} {P1 : Int32 → jH → Prop}
    (k1 : JM mX10_restsOf [.ref 69, .int l5] (jG0 sc) h (jint sc P1))
    (v1 : ∀ (x1 : Int32) (h1 : jH), P1 x1 h1 → l3 = 1 → WP mX10_step Q 55 [some (.ref 69), some (.int l1), some (.int l2), some (.int l3), some (.int l4), some (.int l5), some (.int (s1 ||| x1)), none, none] [] (jG0 sc) h1 (0, 0))
    (v2 : ∀ (x1 : Int32) (h1 : jH), P1 x1 h1 → ¬ l3 = 1 → WP mX10_step Q 50 [some (.ref 69), some (.int l1), some (.int l2), some (.int l3), some (.int l4), some (.int l5), some (.int (s1 ||| x1)), none, none] [] (jG0 sc) h1 (0, 0)) :
    WP mX10_step Q 37 [some (.ref 69), some (.int l1), some (.int l2), some (.int l3), some (.int l4), some (.int l5), none, none, none] [.ref 69, .int s1] (jG0 sc) h (0, 0) := by
  refine j_iload (i := 5) rfl dX10_step_37 ?_
  refine j_callV (idx := 74) (As := [.int l5]) (ci := 10) (n := 1) k1 jint_nt (jlkT (jtb3 31 rfl) rfl) sX10_restsOf kX10_restsOf rfl ⟨rfl, by decide +kernel, by decide +kernel, by decide +kernel⟩ rfl ⟨by decide, by decide⟩ (Nat.le_of_ble_eq_true rfl) rfl (Nat.le_of_ble_eq_true rfl) (Nat.le_of_ble_eq_true rfl) ⟨Nat.zero_le _, Nat.zero_le _⟩ dX10_step_39 (fun r Γ' h1 q => ?_)
  obtain ⟨x1, q0, rfl, p1⟩ := q; cases q0
  refine j_eqst [.int x1, .int s1] (by rfl) ?_
  refine j_ior dX10_step_42 ?_
  refine j_istore (i := 6) dX10_step_43 (Nat.le_of_ble_eq_true rfl) ?_
  refine j_iload_n (i := 3) rfl dX10_step_45 ?_
  refine j_iconst (n := 1) 1 (by decide) dX10_step_46 ?_
  refine j_icmp_eq (off := 8) 55 dX10_step_47 (by decide) (fun c1 => ?_) (fun c1 => ?_)
  · exact j_le [some (.ref 69), some (.int l1), some (.int l2), some (.int l3), some (.int l4), some (.int l5), some (.int (s1 ||| x1)), none, none] (And.intro rfl (And.intro rfl (And.intro rfl (And.intro rfl (And.intro rfl (And.intro rfl (And.intro rfl True.intro))))))) (v1 x1 h1 p1 c1)
  · exact j_le [some (.ref 69), some (.int l1), some (.int l2), some (.int l3), some (.int l4), some (.int l5), some (.int (s1 ||| x1)), none, none] (And.intro rfl (And.intro rfl (And.intro rfl (And.intro rfl (And.intro rfl (And.intro rfl (And.intro rfl True.intro))))))) (v2 x1 h1 p1 c1)
set_option maxRecDepth 100000 in
theorem bX10_step_50 {sc : Nat × (Nat → Int32)} {h : jH} {Q : jQ} {l1 l2 l3 l4 l5 l6 : Int32}
    (v1 : ¬ l3 = 2 → WP mX10_step Q 97 [some (.ref 69), some (.int l1), some (.int l2), some (.int l3), some (.int l4), some (.int l5), some (.int l6), none, none] [] (jG0 sc) h (0, 0))
    (v2 : l3 = 2 → WP mX10_step Q 55 [some (.ref 69), some (.int l1), some (.int l2), some (.int l3), some (.int l4), some (.int l5), some (.int l6), none, none] [] (jG0 sc) h (0, 0)) :
    WP mX10_step Q 50 [some (.ref 69), some (.int l1), some (.int l2), some (.int l3), some (.int l4), some (.int l5), some (.int l6), none, none] [] (jG0 sc) h (0, 0) := by
  refine j_iload_n (i := 3) rfl dX10_step_50 ?_
  refine j_iconst (n := 2) 2 (by decide) dX10_step_51 ?_
  refine j_icmp_ne (off := 45) 97 dX10_step_52 (by decide) (fun c1 => ?_) (fun c1 => ?_)
  · exact j_le [some (.ref 69), some (.int l1), some (.int l2), some (.int l3), some (.int l4), some (.int l5), some (.int l6), none, none] (And.intro rfl (And.intro rfl (And.intro rfl (And.intro rfl (And.intro rfl (And.intro rfl (And.intro rfl True.intro))))))) (v1 c1)
  · exact j_le [some (.ref 69), some (.int l1), some (.int l2), some (.int l3), some (.int l4), some (.int l5), some (.int l6), none, none] (And.intro rfl (And.intro rfl (And.intro rfl (And.intro rfl (And.intro rfl (And.intro rfl (And.intro rfl True.intro))))))) (v2 c1)
set_option maxRecDepth 100000 in
theorem bX10_step_55 {sc : Nat × (Nat → Int32)} {h : jH} {Q : jQ} {l1 l2 l3 l4 l5 l6 : Int32} {P1 : Int32 → jH → Prop} {P2 : Int32 → jH → Prop}
    (k1 : JM mX11_signOf [.int l2] (jG0 sc) (jput h 69 2 ((h 69 2) ||| l6)) (jint sc P1))
    (k2 : ∀ (x1 : Int32) (h1 : jH), P1 x1 h1 → JM mX10_holds [.ref 69, .int l4, .int x1, .int l5] (jG0 sc) h1 (jint sc P2))
    (v1 : ∀ (x1 : Int32) (h1 : jH), P1 x1 h1 → ∀ (x2 : Int32) (h2 : jH), P2 x2 h2 → x2 = 0 → WP mX10_step Q 93 [some (.ref 69), some (.int l1), some (.int l2), some (.int l3), some (.int l4), some (.int l5), some (.int l6), none, none] [] (jG0 sc) h2 (0, 0))
    (v2 : ∀ (x1 : Int32) (h1 : jH), P1 x1 h1 → ∀ (x2 : Int32) (h2 : jH), P2 x2 h2 → ¬ x2 = 0 → WP mX10_step Q 81 [some (.ref 69), some (.int l1), some (.int l2), some (.int l3), some (.int l4), some (.int l5), some (.int l6), none, none] [] (jG0 sc) h2 (0, 0)) :
    WP mX10_step Q 55 [some (.ref 69), some (.int l1), some (.int l2), some (.int l3), some (.int l4), some (.int l5), some (.int l6), none, none] [] (jG0 sc) h (0, 0) := by
  refine j_aload_n (i := 0) rfl dX10_step_55 ?_
  refine j_dup rfl dX10_step_56 ?_
  refine j_getI (idx := 53) (ci := 10) (k := 2) (nest := false) (show (10, 53, 10, 2, false) ∈ jFT by decide) rfl (Nat.le_of_ble_eq_true rfl) rfl dX10_step_57 ?_
  refine j_iload (i := 6) rfl dX10_step_60 ?_
  refine j_ior dX10_step_62 ?_
  refine j_putI (idx := 53) (ci := 10) (k := 2) (nest := false) (show (10, 53, 10, 2, false) ∈ jFT by decide) rfl rfl rfl rfl (Nat.le_of_ble_eq_true rfl) rfl dX10_step_63 ?_
  refine j_aload_n (i := 0) rfl dX10_step_66 ?_
  refine j_iload (i := 4) rfl dX10_step_67 ?_
  refine j_iload_n (i := 2) rfl dX10_step_69 ?_
  refine j_callSN (idx := 77) (As := [.int l2]) (n := 1) k1 jint_nt (jTbl (jtb3 35 rfl)) sX11_signOf kX11_signOf rfl ⟨by decide +kernel, by decide +kernel, by decide +kernel⟩ rfl ⟨by decide, by decide⟩ (Nat.le_of_ble_eq_true rfl) ⟨Nat.zero_le _, Nat.zero_le _⟩ dX10_step_70 (fun r Γ' h1 q => ?_)
  obtain ⟨x1, q0, rfl, p1⟩ := q; cases q0
  refine j_eqst [.int x1, .int l4, .ref 69] (by rfl) ?_
  refine j_iload (i := 5) rfl dX10_step_73 ?_
  refine j_callV (idx := 80) (As := [.int l4, .int x1, .int l5]) (ci := 10) (n := 3) (k2 x1 h1 p1) jint_nt (jlkT (jtb3 38 rfl) rfl) sX10_holds kX10_holds rfl ⟨rfl, by decide +kernel, by decide +kernel, by decide +kernel⟩ rfl ⟨by decide, by decide⟩ (Nat.le_of_ble_eq_true rfl) rfl (Nat.le_of_ble_eq_true rfl) (Nat.le_of_ble_eq_true rfl) ⟨Nat.zero_le _, Nat.zero_le _⟩ dX10_step_75 (fun r Γ' h2 q => ?_)
  obtain ⟨x2, q0, rfl, p2⟩ := q; cases q0
  refine j_eqst [.int x2] (by rfl) ?_
  refine j_if_eq (off := 15) 93 dX10_step_78 (by decide) (fun c1 => ?_) (fun c1 => ?_)
  · exact j_le [some (.ref 69), some (.int l1), some (.int l2), some (.int l3), some (.int l4), some (.int l5), some (.int l6), none, none] (And.intro rfl (And.intro rfl (And.intro rfl (And.intro rfl (And.intro rfl (And.intro rfl (And.intro rfl True.intro))))))) (v1 x1 h1 p1 x2 h2 p2 c1)
  · exact j_le [some (.ref 69), some (.int l1), some (.int l2), some (.int l3), some (.int l4), some (.int l5), some (.int l6), none, none] (And.intro rfl (And.intro rfl (And.intro rfl (And.intro rfl (And.intro rfl (And.intro rfl (And.intro rfl True.intro))))))) (v2 x1 h1 p1 x2 h2 p2 c1)
set_option maxRecDepth 100000 in
theorem bX10_step_81 {sc : Nat × (Nat → Int32)} {h : jH} {Q : jQ} {l1 l2 l3 l4 l5 l6 : Int32} {P1 : Int32 → jH → Prop} {P2 : Int32 → jH → Prop}
    (k1 : JM mX11_countOf [.int l2] (jG0 sc) h (jint sc P1))
    (k2 : ∀ (x1 : Int32) (h1 : jH), P1 x1 h1 → JM mX10_jump [.int l1, .int l3, .int x1] (jG0 sc) h1 (jint sc P2))
    (v1 : ∀ (x1 : Int32) (h1 : jH), P1 x1 h1 → ∀ (x2 : Int32) (h2 : jH), P2 x2 h2 → WP mX10_step Q 96 [some (.ref 69), some (.int l1), some (.int l2), some (.int l3), some (.int l4), some (.int l5), some (.int l6), none, none] [.int x2] (jG0 sc) h2 (0, 0)) :
    WP mX10_step Q 81 [some (.ref 69), some (.int l1), some (.int l2), some (.int l3), some (.int l4), some (.int l5), some (.int l6), none, none] [] (jG0 sc) h (0, 0) := by
  refine j_iload_n (i := 1) rfl dX10_step_81 ?_
  refine j_iload_n (i := 3) rfl dX10_step_82 ?_
  refine j_iload_n (i := 2) rfl dX10_step_83 ?_
  refine j_callSN (idx := 84) (As := [.int l2]) (n := 1) k1 jint_nt (jTbl (jtb3 46 rfl)) sX11_countOf kX11_countOf rfl ⟨by decide +kernel, by decide +kernel, by decide +kernel⟩ rfl ⟨by decide, by decide⟩ (Nat.le_of_ble_eq_true rfl) ⟨Nat.zero_le _, Nat.zero_le _⟩ dX10_step_84 (fun r Γ' h1 q => ?_)
  obtain ⟨x1, q0, rfl, p1⟩ := q; cases q0
  refine j_eqst [.int x1, .int l3, .int l1] (by rfl) ?_
  refine j_callS (idx := 87) (As := [.int l1, .int l3, .int x1]) (n := 3) (k2 x1 h1 p1) jint_nt (jlkT (jtb3 49 rfl) rfl) sX10_jump kX10_jump rfl ⟨by decide +kernel, by decide +kernel, by decide +kernel⟩ rfl ⟨by decide, by decide⟩ (Nat.le_of_ble_eq_true rfl) ⟨Nat.zero_le _, Nat.zero_le _⟩ dX10_step_87 (fun r Γ' h2 q => ?_)
  obtain ⟨x2, q0, rfl, p2⟩ := q; cases q0
  refine j_eqst [.int x2] (by rfl) ?_
  refine j_goto (off := 6) 96 dX10_step_90 (by decide) ?_
  exact j_le [some (.ref 69), some (.int l1), some (.int l2), some (.int l3), some (.int l4), some (.int l5), some (.int l6), none, none] (And.intro rfl (And.intro rfl (And.intro rfl (And.intro rfl (And.intro rfl (And.intro rfl (And.intro rfl True.intro))))))) (v1 x1 h1 p1 x2 h2 p2)
set_option maxRecDepth 100000 in
theorem bX10_step_93 {sc : Nat × (Nat → Int32)} {h : jH} {Q : jQ} {l1 l2 l3 l4 l5 l6 : Int32}
    (v1 : WP mX10_step Q 96 [some (.ref 69), some (.int l1), some (.int l2), some (.int l3), some (.int l4), some (.int l5), some (.int l6), none, none] [.int (l1 + 1)] (jG0 sc) h (0, 0)) :
    WP mX10_step Q 93 [some (.ref 69), some (.int l1), some (.int l2), some (.int l3), some (.int l4), some (.int l5), some (.int l6), none, none] [] (jG0 sc) h (0, 0) := by
  refine j_iload_n (i := 1) rfl dX10_step_93 ?_
  refine j_iconst (n := 1) 1 (by decide) dX10_step_94 ?_
  refine j_iadd dX10_step_95 ?_
  exact j_le [some (.ref 69), some (.int l1), some (.int l2), some (.int l3), some (.int l4), some (.int l5), some (.int l6), none, none] (And.intro rfl (And.intro rfl (And.intro rfl (And.intro rfl (And.intro rfl (And.intro rfl (And.intro rfl True.intro))))))) v1
set_option maxRecDepth 100000 in
theorem bX10_step_96 {sc : Nat × (Nat → Int32)} {h : jH} {Q : jQ} {l1 l2 l3 l4 l5 l6 s0 : Int32}
    (v1 : Q (.inl (some (.int s0))) (jG0 sc) h) :
    WP mX10_step Q 96 [some (.ref 69), some (.int l1), some (.int l2), some (.int l3), some (.int l4), some (.int l5), some (.int l6), none, none] [.int s0] (jG0 sc) h (0, 0) := by
  exact j_iret rfl rfl (Nat.zero_le _) (Nat.zero_le _) dX10_step_96 v1
set_option maxRecDepth 100000 in
theorem bX10_step_97 {sc : Nat × (Nat → Int32)} {h : jH} {Q : jQ} {l1 l2 l3 l4 l5 l6 : Int32}
    (v1 : ¬ l3 = 0 → WP mX10_step Q 116 [some (.ref 69), some (.int l1), some (.int l2), some (.int l3), some (.int l4), some (.int l5), some (.int l6), none, none] [] (jG0 sc) h (0, 0))
    (v2 : l3 = 0 → WP mX10_step Q 101 [some (.ref 69), some (.int l1), some (.int l2), some (.int l3), some (.int l4), some (.int l5), some (.int l6), none, none] [] (jG0 sc) h (0, 0)) :
    WP mX10_step Q 97 [some (.ref 69), some (.int l1), some (.int l2), some (.int l3), some (.int l4), some (.int l5), some (.int l6), none, none] [] (jG0 sc) h (0, 0) := by
  refine j_iload_n (i := 3) rfl dX10_step_97 ?_
  refine j_if_ne (off := 18) 116 dX10_step_98 (by decide) (fun c1 => ?_) (fun c1 => ?_)
  · exact j_le [some (.ref 69), some (.int l1), some (.int l2), some (.int l3), some (.int l4), some (.int l5), some (.int l6), none, none] (And.intro rfl (And.intro rfl (And.intro rfl (And.intro rfl (And.intro rfl (And.intro rfl (And.intro rfl True.intro))))))) (v1 c1)
  · exact j_le [some (.ref 69), some (.int l1), some (.int l2), some (.int l3), some (.int l4), some (.int l5), some (.int l6), none, none] (And.intro rfl (And.intro rfl (And.intro rfl (And.intro rfl (And.intro rfl (And.intro rfl (And.intro rfl True.intro))))))) (v2 c1)
set_option maxRecDepth 100000 in
theorem bX10_step_101 {sc : Nat × (Nat → Int32)} {h : jH} {Q : jQ} {l1 l2 l3 l4 l5 l6 : Int32}
    (v1 : ¬ l1 = (h 69 5) → WP mX10_step Q 116 [some (.ref 69), some (.int l1), some (.int l2), some (.int l3), some (.int l4), some (.int l5), some (.int l6), none, none] [] (jG0 sc) h (0, 0))
    (v2 : l1 = (h 69 5) → WP mX10_step Q 109 [some (.ref 69), some (.int l1), some (.int l2), some (.int l3), some (.int l4), some (.int l5), some (.int l6), none, none] [] (jG0 sc) h (0, 0)) :
    WP mX10_step Q 101 [some (.ref 69), some (.int l1), some (.int l2), some (.int l3), some (.int l4), some (.int l5), some (.int l6), none, none] [] (jG0 sc) h (0, 0) := by
  refine j_iload_n (i := 1) rfl dX10_step_101 ?_
  refine j_aload_n (i := 0) rfl dX10_step_102 ?_
  refine j_getI (idx := 18) (ci := 10) (k := 5) (nest := false) (show (10, 18, 10, 5, false) ∈ jFT by decide) rfl (Nat.le_of_ble_eq_true rfl) rfl dX10_step_103 ?_
  refine j_icmp_ne (off := 10) 116 dX10_step_106 (by decide) (fun c1 => ?_) (fun c1 => ?_)
  · exact j_le [some (.ref 69), some (.int l1), some (.int l2), some (.int l3), some (.int l4), some (.int l5), some (.int l6), none, none] (And.intro rfl (And.intro rfl (And.intro rfl (And.intro rfl (And.intro rfl (And.intro rfl (And.intro rfl True.intro))))))) (v1 c1)
  · exact j_le [some (.ref 69), some (.int l1), some (.int l2), some (.int l3), some (.int l4), some (.int l5), some (.int l6), none, none] (And.intro rfl (And.intro rfl (And.intro rfl (And.intro rfl (And.intro rfl (And.intro rfl (And.intro rfl True.intro))))))) (v2 c1)
set_option maxRecDepth 100000 in
theorem bX10_step_109 {sc : Nat × (Nat → Int32)} {h : jH} {Q : jQ} {l1 l2 l3 l4 l5 l6 : Int32}
    (v1 : WP mX10_step Q 128 [some (.ref 69), some (.int l1), some (.int l2), some (.int l3), some (.int l4), some (.int l5), some (.int l6), none, none] [.int (h 69 6)] (jG0 sc) h (0, 0)) :
    WP mX10_step Q 109 [some (.ref 69), some (.int l1), some (.int l2), some (.int l3), some (.int l4), some (.int l5), some (.int l6), none, none] [] (jG0 sc) h (0, 0) := by
  refine j_aload_n (i := 0) rfl dX10_step_109 ?_
  refine j_getI (idx := 91) (ci := 10) (k := 6) (nest := false) (show (10, 91, 10, 6, false) ∈ jFT by decide) rfl (Nat.le_of_ble_eq_true rfl) rfl dX10_step_110 ?_
  refine j_goto (off := 15) 128 dX10_step_113 (by decide) ?_
  exact j_le [some (.ref 69), some (.int l1), some (.int l2), some (.int l3), some (.int l4), some (.int l5), some (.int l6), none, none] (And.intro rfl (And.intro rfl (And.intro rfl (And.intro rfl (And.intro rfl (And.intro rfl (And.intro rfl True.intro))))))) v1
set_option maxRecDepth 100000 in
theorem bX10_step_116 {sc : Nat × (Nat → Int32)} {h : jH} {Q : jQ} {l1 l2 l3 l4 l5 l6 : Int32} {P1 : Int32 → jH → Prop} {P2 : Int32 → jH → Prop}
    (k1 : JM mX11_signOf [.int l2] (jG0 sc) h (jint sc P1))
    (k2 : ∀ (x1 : Int32) (h1 : jH), P1 x1 h1 → JM mX10_sumOf [.ref 69, .int l4, .int x1, .int l5] (jG0 sc) h1 (jint sc P2))
    (v1 : ∀ (x1 : Int32) (h1 : jH), P1 x1 h1 → ∀ (x2 : Int32) (h2 : jH), P2 x2 h2 → WP mX10_step Q 128 [some (.ref 69), some (.int l1), some (.int l2), some (.int l3), some (.int l4), some (.int l5), some (.int l6), none, none] [.int x2] (jG0 sc) h2 (0, 0)) :
    WP mX10_step Q 116 [some (.ref 69), some (.int l1), some (.int l2), some (.int l3), some (.int l4), some (.int l5), some (.int l6), none, none] [] (jG0 sc) h (0, 0) := by
  refine j_aload_n (i := 0) rfl dX10_step_116 ?_
  refine j_iload (i := 4) rfl dX10_step_117 ?_
  refine j_iload_n (i := 2) rfl dX10_step_119 ?_
  refine j_callSN (idx := 77) (As := [.int l2]) (n := 1) k1 jint_nt (jTbl (jtb3 35 rfl)) sX11_signOf kX11_signOf rfl ⟨by decide +kernel, by decide +kernel, by decide +kernel⟩ rfl ⟨by decide, by decide⟩ (Nat.le_of_ble_eq_true rfl) ⟨Nat.zero_le _, Nat.zero_le _⟩ dX10_step_120 (fun r Γ' h1 q => ?_)
  obtain ⟨x1, q0, rfl, p1⟩ := q; cases q0
  refine j_eqst [.int x1, .int l4, .ref 69] (by rfl) ?_
  refine j_iload (i := 5) rfl dX10_step_123 ?_
  refine j_callV (idx := 94) (As := [.int l4, .int x1, .int l5]) (ci := 10) (n := 3) (k2 x1 h1 p1) jint_nt (jlkT (jtb3 55 rfl) rfl) sX10_sumOf kX10_sumOf rfl ⟨rfl, by decide +kernel, by decide +kernel, by decide +kernel⟩ rfl ⟨by decide, by decide⟩ (Nat.le_of_ble_eq_true rfl) rfl (Nat.le_of_ble_eq_true rfl) (Nat.le_of_ble_eq_true rfl) ⟨Nat.zero_le _, Nat.zero_le _⟩ dX10_step_125 (fun r Γ' h2 q => ?_)
  obtain ⟨x2, q0, rfl, p2⟩ := q; cases q0
  refine j_eqst [.int x2] (by rfl) ?_
  exact j_le [some (.ref 69), some (.int l1), some (.int l2), some (.int l3), some (.int l4), some (.int l5), some (.int l6), none, none] (And.intro rfl (And.intro rfl (And.intro rfl (And.intro rfl (And.intro rfl (And.intro rfl (And.intro rfl True.intro))))))) (v1 x1 h1 p1 x2 h2 p2)
set_option maxRecDepth 100000 in
theorem bX10_step_128 {sc : Nat × (Nat → Int32)} {h : jH} {Q : jQ} {l1 l2 l3 l4 l5 l6 s0 : Int32}
    (v1 : l3 = 3 → WP mX10_step Q 143 [some (.ref 69), some (.int l1), some (.int l2), some (.int l3), some (.int l4), some (.int l5), some (.int l6), some (.int s0), none] [] (jG0 sc) h (0, 0))
    (v2 : ¬ l3 = 3 → WP mX10_step Q 135 [some (.ref 69), some (.int l1), some (.int l2), some (.int l3), some (.int l4), some (.int l5), some (.int l6), some (.int s0), none] [] (jG0 sc) h (0, 0)) :
    WP mX10_step Q 128 [some (.ref 69), some (.int l1), some (.int l2), some (.int l3), some (.int l4), some (.int l5), some (.int l6), none, none] [.int s0] (jG0 sc) h (0, 0) := by
  refine j_istore (i := 7) dX10_step_128 (Nat.le_of_ble_eq_true rfl) ?_
  refine j_iload_n (i := 3) rfl dX10_step_130 ?_
  refine j_iconst (n := 3) 3 (by decide) dX10_step_131 ?_
  refine j_icmp_eq (off := 11) 143 dX10_step_132 (by decide) (fun c1 => ?_) (fun c1 => ?_)
  · exact j_le [some (.ref 69), some (.int l1), some (.int l2), some (.int l3), some (.int l4), some (.int l5), some (.int l6), some (.int s0), none] (And.intro rfl (And.intro rfl (And.intro rfl (And.intro rfl (And.intro rfl (And.intro rfl (And.intro rfl (And.intro rfl True.intro)))))))) (v1 c1)
  · exact j_le [some (.ref 69), some (.int l1), some (.int l2), some (.int l3), some (.int l4), some (.int l5), some (.int l6), some (.int s0), none] (And.intro rfl (And.intro rfl (And.intro rfl (And.intro rfl (And.intro rfl (And.intro rfl (And.intro rfl (And.intro rfl True.intro)))))))) (v2 c1)
set_option maxRecDepth 100000 in
theorem bX10_step_135 {sc : Nat × (Nat → Int32)} {h : jH} {Q : jQ} {l1 l2 l3 l4 l5 l6 l7 : Int32} {P1 : Int32 → jH → Prop}
    (k1 : JM mX11_isNumber [.int l7] (jG0 sc) h (jint sc P1))
    (v1 : ∀ (x1 : Int32) (h1 : jH), P1 x1 h1 → ¬ x1 = 0 → WP mX10_step Q 167 [some (.ref 69), some (.int l1), some (.int l2), some (.int l3), some (.int l4), some (.int l5), some (.int l6), some (.int l7), none] [] (jG0 sc) h1 (0, 0))
    (v2 : ∀ (x1 : Int32) (h1 : jH), P1 x1 h1 → x1 = 0 → WP mX10_step Q 143 [some (.ref 69), some (.int l1), some (.int l2), some (.int l3), some (.int l4), some (.int l5), some (.int l6), some (.int l7), none] [] (jG0 sc) h1 (0, 0)) :
    WP mX10_step Q 135 [some (.ref 69), some (.int l1), some (.int l2), some (.int l3), some (.int l4), some (.int l5), some (.int l6), some (.int l7), none] [] (jG0 sc) h (0, 0) := by
  refine j_iload (i := 7) rfl dX10_step_135 ?_
  refine j_callSN (idx := 97) (As := [.int l7]) (n := 1) k1 jint_nt (jTbl (jtb3 63 rfl)) sX11_isNumber kX11_isNumber rfl ⟨by decide +kernel, by decide +kernel, by decide +kernel⟩ rfl ⟨by decide, by decide⟩ (Nat.le_of_ble_eq_true rfl) ⟨Nat.zero_le _, Nat.zero_le _⟩ dX10_step_137 (fun r Γ' h1 q => ?_)
  obtain ⟨x1, q0, rfl, p1⟩ := q; cases q0
  refine j_eqst [.int x1] (by rfl) ?_
  refine j_if_ne (off := 27) 167 dX10_step_140 (by decide) (fun c1 => ?_) (fun c1 => ?_)
  · exact j_le [some (.ref 69), some (.int l1), some (.int l2), some (.int l3), some (.int l4), some (.int l5), some (.int l6), some (.int l7), none] (And.intro rfl (And.intro rfl (And.intro rfl (And.intro rfl (And.intro rfl (And.intro rfl (And.intro rfl (And.intro rfl True.intro)))))))) (v1 x1 h1 p1 c1)
  · exact j_le [some (.ref 69), some (.int l1), some (.int l2), some (.int l3), some (.int l4), some (.int l5), some (.int l6), some (.int l7), none] (And.intro rfl (And.intro rfl (And.intro rfl (And.intro rfl (And.intro rfl (And.intro rfl (And.intro rfl (And.intro rfl True.intro)))))))) (v2 x1 h1 p1 c1)
set_option maxRecDepth 100000 in
theorem bX10_step_143 {sc : Nat × (Nat → Int32)} {h : jH} {Q : jQ} {l1 l2 l3 l4 l5 l6 l7 : Int32}
    (v1 : Q (.inl (some (.int l1))) (jG0 sc) (jput (jput (jput h 69 10 l7) 69 9 (((jput h 69 10 l7) 69 2) ||| l6)) 69 11 1)) :
    WP mX10_step Q 143 [some (.ref 69), some (.int l1), some (.int l2), some (.int l3), some (.int l4), some (.int l5), some (.int l6), some (.int l7), none] [] (jG0 sc) h (0, 0) := by
  refine j_aload_n (i := 0) rfl dX10_step_143 ?_
  refine j_iload (i := 7) rfl dX10_step_144 ?_
  refine j_putI (idx := 50) (ci := 10) (k := 10) (nest := false) (show (10, 50, 10, 10, false) ∈ jFT by decide) rfl rfl rfl rfl (Nat.le_of_ble_eq_true rfl) rfl dX10_step_146 ?_
  refine j_aload_n (i := 0) rfl dX10_step_149 ?_
  refine j_aload_n (i := 0) rfl dX10_step_150 ?_
  refine j_getI (idx := 53) (ci := 10) (k := 2) (nest := false) (show (10, 53, 10, 2, false) ∈ jFT by decide) rfl (Nat.le_of_ble_eq_true rfl) rfl dX10_step_151 ?_
  refine j_iload (i := 6) rfl dX10_step_154 ?_
  refine j_ior dX10_step_156 ?_
  refine j_putI (idx := 56) (ci := 10) (k := 9) (nest := false) (show (10, 56, 10, 9, false) ∈ jFT by decide) rfl rfl rfl rfl (Nat.le_of_ble_eq_true rfl) rfl dX10_step_157 ?_
  refine j_aload_n (i := 0) rfl dX10_step_160 ?_
  refine j_iconst (n := 1) 1 (by decide) dX10_step_161 ?_
  refine j_putI (idx := 31) (ci := 10) (k := 11) (nest := false) (show (10, 31, 10, 11, false) ∈ jFT by decide) rfl rfl rfl rfl (Nat.le_of_ble_eq_true rfl) rfl dX10_step_162 ?_
  refine j_iload_n (i := 1) rfl dX10_step_165 ?_
  exact j_iret rfl rfl (Nat.zero_le _) (Nat.zero_le _) dX10_step_166 v1
set_option maxRecDepth 100000 in
theorem bX10_step_167 {sc : Nat × (Nat → Int32)} {h : jH} {Q : jQ} {l1 l2 l3 l4 l5 l6 l7 : Int32} {P1 : Int32 → jH → Prop}
    (k1 : JM mX11_madeOf [.int l2] (jG0 sc) h (jint sc P1))
    (v1 : ∀ (x1 : Int32) (h1 : jH), P1 x1 h1 → x1 < 0 → WP mX10_step Q 207 [some (.ref 69), some (.int l1), some (.int l2), some (.int l3), some (.int l4), some (.int l5), some (.int l6), some (.int l7), some (.int x1)] [] (jG0 sc) h1 (0, 0))
    (v2 : ∀ (x1 : Int32) (h1 : jH), P1 x1 h1 → ¬ x1 < 0 → WP mX10_step Q 178 [some (.ref 69), some (.int l1), some (.int l2), some (.int l3), some (.int l4), some (.int l5), some (.int l6), some (.int l7), some (.int x1)] [] (jG0 sc) h1 (0, 0)) :
    WP mX10_step Q 167 [some (.ref 69), some (.int l1), some (.int l2), some (.int l3), some (.int l4), some (.int l5), some (.int l6), some (.int l7), none] [] (jG0 sc) h (0, 0) := by
  refine j_iload_n (i := 2) rfl dX10_step_167 ?_
  refine j_callSN (idx := 101) (As := [.int l2]) (n := 1) k1 jint_nt (jTbl (jtb3 67 rfl)) sX11_madeOf kX11_madeOf rfl ⟨by decide +kernel, by decide +kernel, by decide +kernel⟩ rfl ⟨by decide, by decide⟩ (Nat.le_of_ble_eq_true rfl) ⟨Nat.zero_le _, Nat.zero_le _⟩ dX10_step_168 (fun r Γ' h1 q => ?_)
  obtain ⟨x1, q0, rfl, p1⟩ := q; cases q0
  refine j_eqst [.int x1] (by rfl) ?_
  refine j_istore (i := 8) dX10_step_171 (Nat.le_of_ble_eq_true rfl) ?_
  refine j_iload (i := 8) rfl dX10_step_173 ?_
  refine j_if_lt (off := 32) 207 dX10_step_175 (by decide) (fun c1 => ?_) (fun c1 => ?_)
  · exact j_le [some (.ref 69), some (.int l1), some (.int l2), some (.int l3), some (.int l4), some (.int l5), some (.int l6), some (.int l7), some (.int x1)] (And.intro rfl (And.intro rfl (And.intro rfl (And.intro rfl (And.intro rfl (And.intro rfl (And.intro rfl (And.intro rfl (And.intro rfl True.intro))))))))) (v1 x1 h1 p1 c1)
  · exact j_le [some (.ref 69), some (.int l1), some (.int l2), some (.int l3), some (.int l4), some (.int l5), some (.int l6), some (.int l7), some (.int x1)] (And.intro rfl (And.intro rfl (And.intro rfl (And.intro rfl (And.intro rfl (And.intro rfl (And.intro rfl (And.intro rfl (And.intro rfl True.intro))))))))) (v2 x1 h1 p1 c1)
set_option maxRecDepth 100000 in
theorem bX10_step_178 {sc : Nat × (Nat → Int32)} {h : jH} {Q : jQ} {l1 l2 l3 l4 l5 l6 l7 l8 : Int32}
    (v1 : 4 ≤ l8 → WP mX10_step Q 207 [some (.ref 69), some (.int l1), some (.int l2), some (.int l3), some (.int l4), some (.int l5), some (.int l6), some (.int l7), some (.int l8)] [] (jG0 sc) h (0, 0))
    (v2 : ¬ 4 ≤ l8 → WP mX10_step Q 184 [some (.ref 69), some (.int l1), some (.int l2), some (.int l3), some (.int l4), some (.int l5), some (.int l6), some (.int l7), some (.int l8)] [] (jG0 sc) h (0, 0)) :
    WP mX10_step Q 178 [some (.ref 69), some (.int l1), some (.int l2), some (.int l3), some (.int l4), some (.int l5), some (.int l6), some (.int l7), some (.int l8)] [] (jG0 sc) h (0, 0) := by
  refine j_iload (i := 8) rfl dX10_step_178 ?_
  refine j_iconst (n := 4) 4 (by decide) dX10_step_180 ?_
  refine j_icmp_ge (off := 26) 207 dX10_step_181 (by decide) (fun c1 => ?_) (fun c1 => ?_)
  · exact j_le [some (.ref 69), some (.int l1), some (.int l2), some (.int l3), some (.int l4), some (.int l5), some (.int l6), some (.int l7), some (.int l8)] (And.intro rfl (And.intro rfl (And.intro rfl (And.intro rfl (And.intro rfl (And.intro rfl (And.intro rfl (And.intro rfl (And.intro rfl True.intro))))))))) (v1 c1)
  · exact j_le [some (.ref 69), some (.int l1), some (.int l2), some (.int l3), some (.int l4), some (.int l5), some (.int l6), some (.int l7), some (.int l8)] (And.intro rfl (And.intro rfl (And.intro rfl (And.intro rfl (And.intro rfl (And.intro rfl (And.intro rfl (And.intro rfl (And.intro rfl True.intro))))))))) (v2 c1)
set_option maxRecDepth 100000 in
theorem bX10_step_184 {sc : Nat × (Nat → Int32)} {h : jH} {Q : jQ} {l1 l2 l3 l4 l5 l6 l7 l8 : Int32}
    (o1 : vp_in l8 4)
    (o2 : vp_in l8 4)
    (v1 : WP mX10_step Q 207 [some (.ref 69), some (.int l1), some (.int l2), some (.int l3), some (.int l4), some (.int l5), some (.int l6), some (.int l7), some (.int l8)] [] (jG0 sc) (jput (jput h 70 l8.toNatClampNeg l7) 71 l8.toNatClampNeg (l6 ||| ((jput h 70 l8.toNatClampNeg l7) 69 2))) (0, 0)) :
    WP mX10_step Q 184 [some (.ref 69), some (.int l1), some (.int l2), some (.int l3), some (.int l4), some (.int l5), some (.int l6), some (.int l7), some (.int l8)] [] (jG0 sc) h (0, 0) := by
  refine j_aload_n (i := 0) rfl dX10_step_184 ?_
  refine j_getR (idx := 9) (ci := 10) (k := 0) (nest := false) (show (10, 9, 10, 0, false) ∈ jFT by decide) rfl (Nat.le_of_ble_eq_true rfl) rfl (a := 70) rfl dX10_step_185 ?_
  refine j_iload (i := 8) rfl dX10_step_188 ?_
  refine j_iload (i := 7) rfl dX10_step_190 ?_
  refine j_iast (Nat.le_of_ble_eq_true rfl) rfl o1 dX10_step_192 ?_
  refine j_aload_n (i := 0) rfl dX10_step_193 ?_
  refine j_getR (idx := 15) (ci := 10) (k := 1) (nest := false) (show (10, 15, 10, 1, false) ∈ jFT by decide) rfl (Nat.le_of_ble_eq_true rfl) rfl (a := 71) rfl dX10_step_194 ?_
  refine j_iload (i := 8) rfl dX10_step_197 ?_
  refine j_iload (i := 6) rfl dX10_step_199 ?_
  refine j_aload_n (i := 0) rfl dX10_step_201 ?_
  refine j_getI (idx := 53) (ci := 10) (k := 2) (nest := false) (show (10, 53, 10, 2, false) ∈ jFT by decide) rfl (Nat.le_of_ble_eq_true rfl) rfl dX10_step_202 ?_
  refine j_ior dX10_step_205 ?_
  refine j_iast (Nat.le_of_ble_eq_true rfl) rfl o2 dX10_step_206 ?_
  exact j_le [some (.ref 69), some (.int l1), some (.int l2), some (.int l3), some (.int l4), some (.int l5), some (.int l6), some (.int l7), some (.int l8)] (And.intro rfl (And.intro rfl (And.intro rfl (And.intro rfl (And.intro rfl (And.intro rfl (And.intro rfl (And.intro rfl (And.intro rfl True.intro))))))))) v1
set_option maxRecDepth 100000 in
theorem bX10_step_207 {sc : Nat × (Nat → Int32)} {h : jH} {Q : jQ} {l1 l2 l3 l4 l5 l6 l7 l8 : Int32}
    (v1 : Q (.inl (some (.int (l1 + 1)))) (jG0 sc) h) :
    WP mX10_step Q 207 [some (.ref 69), some (.int l1), some (.int l2), some (.int l3), some (.int l4), some (.int l5), some (.int l6), some (.int l7), some (.int l8)] [] (jG0 sc) h (0, 0) := by
  refine j_iload_n (i := 1) rfl dX10_step_207 ?_
  refine j_iconst (n := 1) 1 (by decide) dX10_step_208 ?_
  refine j_iadd dX10_step_209 ?_
  exact j_iret rfl rfl (Nat.zero_le _) (Nat.zero_le _) dX10_step_210 v1
set_option maxRecDepth 100000 in
theorem rX10_step_0 {sc : Nat × (Nat → Int32)} {h : jH} {Q : jQ} {l1 l2 : Int32} {P1 : Int32 → jH → Prop} {P2 : Int32 → jH → Prop} {P3 : Int32 → jH → Prop} {P4 : Int32 → jH → Prop} {P5 : Int32 → jH → Prop} {P6 : Int32 → jH → Prop} {P7 : Int32 → jH → Prop} {P8 : Int32 → jH → Prop} {P9 : Int32 → jH → Prop} {P10 : Int32 → jH → Prop} {P11 : Int32 → jH → Prop} {P12 : Int32 → jH → Prop} {P13 : Int32 → jH → Prop} {P14 : Int32 → jH → Prop} {P15 : Int32 → jH → Prop} {P16 : Int32 → jH → Prop} {P17 : Int32 → jH → Prop} {P18 : Int32 → jH → Prop} {P19 : Int32 → jH → Prop} {P20 : Int32 → jH → Prop} {P21 : Int32 → jH → Prop} {P22 : Int32 → jH → Prop} {P23 : Int32 → jH → Prop}
    (k1 : JM mX11_kindOf [.int l2] (jG0 sc) h (jint sc P1))
    (k2 : ∀ (x1 : Int32) (h1 : jH), P1 x1 h1 → ¬ x1 = 4 → JM mX11_firstOf [.int l2] (jG0 sc) h1 (jint sc P2))
    (k3 : ∀ (x1 : Int32) (h1 : jH), P1 x1 h1 → ¬ x1 = 4 → ∀ (x2 : Int32) (h2 : jH), P2 x2 h2 → JM mX11_secondOf [.int l2] (jG0 sc) h2 (jint sc P3))
    (k4 : ∀ (x1 : Int32) (h1 : jH), P1 x1 h1 → ¬ x1 = 4 → ∀ (x2 : Int32) (h2 : jH), P2 x2 h2 → ∀ (x3 : Int32) (h3 : jH), P3 x3 h3 → JM mX10_restsOf [.ref 69, .int x2] (jG0 sc) h3 (jint sc P4))
    (k5 : ∀ (x1 : Int32) (h1 : jH), P1 x1 h1 → ¬ x1 = 4 → ∀ (x2 : Int32) (h2 : jH), P2 x2 h2 → ∀ (x3 : Int32) (h3 : jH), P3 x3 h3 → ∀ (x4 : Int32) (h4 : jH), P4 x4 h4 → JM mX10_restsOf [.ref 69, .int x3] (jG0 sc) h4 (jint sc P5))
    (k6 : ∀ (x1 : Int32) (h1 : jH), P1 x1 h1 → ¬ x1 = 4 → ∀ (x2 : Int32) (h2 : jH), P2 x2 h2 → ∀ (x3 : Int32) (h3 : jH), P3 x3 h3 → ∀ (x4 : Int32) (h4 : jH), P4 x4 h4 → ∀ (x5 : Int32) (h5 : jH), P5 x5 h5 → x1 = 1 → JM mX11_signOf [.int l2] (jG0 sc) (jput h5 69 2 ((h5 69 2) ||| ((((1 : Int32) <<< (l1 &&& 31)) ||| x4) ||| x5))) (jint sc P6))
    (k7 : ∀ (x1 : Int32) (h1 : jH), P1 x1 h1 → ¬ x1 = 4 → ∀ (x2 : Int32) (h2 : jH), P2 x2 h2 → ∀ (x3 : Int32) (h3 : jH), P3 x3 h3 → ∀ (x4 : Int32) (h4 : jH), P4 x4 h4 → ∀ (x5 : Int32) (h5 : jH), P5 x5 h5 → x1 = 1 → ∀ (x6 : Int32) (h6 : jH), P6 x6 h6 → JM mX10_holds [.ref 69, .int x2, .int x6, .int x3] (jG0 sc) h6 (jint sc P7))
    (v1 : ∀ (x1 : Int32) (h1 : jH), P1 x1 h1 → ¬ x1 = 4 → ∀ (x2 : Int32) (h2 : jH), P2 x2 h2 → ∀ (x3 : Int32) (h3 : jH), P3 x3 h3 → ∀ (x4 : Int32) (h4 : jH), P4 x4 h4 → ∀ (x5 : Int32) (h5 : jH), P5 x5 h5 → x1 = 1 → ∀ (x6 : Int32) (h6 : jH), P6 x6 h6 → ∀ (x7 : Int32) (h7 : jH), P7 x7 h7 → x7 = 0 → Q (.inl (some (.int (l1 + 1)))) (jG0 sc) h7)
    (k8 : ∀ (x1 : Int32) (h1 : jH), P1 x1 h1 → ¬ x1 = 4 → ∀ (x2 : Int32) (h2 : jH), P2 x2 h2 → ∀ (x3 : Int32) (h3 : jH), P3 x3 h3 → ∀ (x4 : Int32) (h4 : jH), P4 x4 h4 → ∀ (x5 : Int32) (h5 : jH), P5 x5 h5 → x1 = 1 → ∀ (x6 : Int32) (h6 : jH), P6 x6 h6 → ∀ (x7 : Int32) (h7 : jH), P7 x7 h7 → ¬ x7 = 0 → JM mX11_countOf [.int l2] (jG0 sc) h7 (jint sc P8))
    (k9 : ∀ (x1 : Int32) (h1 : jH), P1 x1 h1 → ¬ x1 = 4 → ∀ (x2 : Int32) (h2 : jH), P2 x2 h2 → ∀ (x3 : Int32) (h3 : jH), P3 x3 h3 → ∀ (x4 : Int32) (h4 : jH), P4 x4 h4 → ∀ (x5 : Int32) (h5 : jH), P5 x5 h5 → x1 = 1 → ∀ (x6 : Int32) (h6 : jH), P6 x6 h6 → ∀ (x7 : Int32) (h7 : jH), P7 x7 h7 → ¬ x7 = 0 → ∀ (x8 : Int32) (h8 : jH), P8 x8 h8 → JM mX10_jump [.int l1, .int x1, .int x8] (jG0 sc) h8 (jint sc P9))
    (v2 : ∀ (x1 : Int32) (h1 : jH), P1 x1 h1 → ¬ x1 = 4 → ∀ (x2 : Int32) (h2 : jH), P2 x2 h2 → ∀ (x3 : Int32) (h3 : jH), P3 x3 h3 → ∀ (x4 : Int32) (h4 : jH), P4 x4 h4 → ∀ (x5 : Int32) (h5 : jH), P5 x5 h5 → x1 = 1 → ∀ (x6 : Int32) (h6 : jH), P6 x6 h6 → ∀ (x7 : Int32) (h7 : jH), P7 x7 h7 → ¬ x7 = 0 → ∀ (x8 : Int32) (h8 : jH), P8 x8 h8 → ∀ (x9 : Int32) (h9 : jH), P9 x9 h9 → Q (.inl (some (.int x9))) (jG0 sc) h9)
    (k10 : ∀ (x1 : Int32) (h1 : jH), P1 x1 h1 → ¬ x1 = 4 → ∀ (x2 : Int32) (h2 : jH), P2 x2 h2 → ∀ (x3 : Int32) (h3 : jH), P3 x3 h3 → ∀ (x4 : Int32) (h4 : jH), P4 x4 h4 → ∀ (x5 : Int32) (h5 : jH), P5 x5 h5 → ¬ x1 = 1 → ¬ x1 = 2 → ¬ x1 = 0 → JM mX11_signOf [.int l2] (jG0 sc) h5 (jint sc P10))
    (k11 : ∀ (x1 : Int32) (h1 : jH), P1 x1 h1 → ¬ x1 = 4 → ∀ (x2 : Int32) (h2 : jH), P2 x2 h2 → ∀ (x3 : Int32) (h3 : jH), P3 x3 h3 → ∀ (x4 : Int32) (h4 : jH), P4 x4 h4 → ∀ (x5 : Int32) (h5 : jH), P5 x5 h5 → ¬ x1 = 1 → ¬ x1 = 2 → ¬ x1 = 0 → ∀ (x10 : Int32) (h10 : jH), P10 x10 h10 → JM mX10_sumOf [.ref 69, .int x2, .int x10, .int x3] (jG0 sc) h10 (jint sc P11))
    (v3 : ∀ (x1 : Int32) (h1 : jH), P1 x1 h1 → ¬ x1 = 4 → ∀ (x2 : Int32) (h2 : jH), P2 x2 h2 → ∀ (x3 : Int32) (h3 : jH), P3 x3 h3 → ∀ (x4 : Int32) (h4 : jH), P4 x4 h4 → ∀ (x5 : Int32) (h5 : jH), P5 x5 h5 → ¬ x1 = 1 → ¬ x1 = 2 → ¬ x1 = 0 → ∀ (x10 : Int32) (h10 : jH), P10 x10 h10 → ∀ (x11 : Int32) (h11 : jH), P11 x11 h11 → x1 = 3 → Q (.inl (some (.int l1))) (jG0 sc) (jput (jput (jput h11 69 10 x11) 69 9 (((jput h11 69 10 x11) 69 2) ||| ((((1 : Int32) <<< (l1 &&& 31)) ||| x4) ||| x5))) 69 11 1))
    (k12 : ∀ (x1 : Int32) (h1 : jH), P1 x1 h1 → ¬ x1 = 4 → ∀ (x2 : Int32) (h2 : jH), P2 x2 h2 → ∀ (x3 : Int32) (h3 : jH), P3 x3 h3 → ∀ (x4 : Int32) (h4 : jH), P4 x4 h4 → ∀ (x5 : Int32) (h5 : jH), P5 x5 h5 → ¬ x1 = 1 → ¬ x1 = 2 → ¬ x1 = 0 → ∀ (x10 : Int32) (h10 : jH), P10 x10 h10 → ∀ (x11 : Int32) (h11 : jH), P11 x11 h11 → ¬ x1 = 3 → JM mX11_isNumber [.int x11] (jG0 sc) h11 (jint sc P12))
    (k13 : ∀ (x1 : Int32) (h1 : jH), P1 x1 h1 → ¬ x1 = 4 → ∀ (x2 : Int32) (h2 : jH), P2 x2 h2 → ∀ (x3 : Int32) (h3 : jH), P3 x3 h3 → ∀ (x4 : Int32) (h4 : jH), P4 x4 h4 → ∀ (x5 : Int32) (h5 : jH), P5 x5 h5 → ¬ x1 = 1 → ¬ x1 = 2 → ¬ x1 = 0 → ∀ (x10 : Int32) (h10 : jH), P10 x10 h10 → ∀ (x11 : Int32) (h11 : jH), P11 x11 h11 → ¬ x1 = 3 → ∀ (x12 : Int32) (h12 : jH), P12 x12 h12 → ¬ x12 = 0 → JM mX11_madeOf [.int l2] (jG0 sc) h12 (jint sc P13))
    (v4 : ∀ (x1 : Int32) (h1 : jH), P1 x1 h1 → ¬ x1 = 4 → ∀ (x2 : Int32) (h2 : jH), P2 x2 h2 → ∀ (x3 : Int32) (h3 : jH), P3 x3 h3 → ∀ (x4 : Int32) (h4 : jH), P4 x4 h4 → ∀ (x5 : Int32) (h5 : jH), P5 x5 h5 → ¬ x1 = 1 → ¬ x1 = 2 → ¬ x1 = 0 → ∀ (x10 : Int32) (h10 : jH), P10 x10 h10 → ∀ (x11 : Int32) (h11 : jH), P11 x11 h11 → ¬ x1 = 3 → ∀ (x12 : Int32) (h12 : jH), P12 x12 h12 → ¬ x12 = 0 → ∀ (x13 : Int32) (h13 : jH), P13 x13 h13 → x13 < 0 → Q (.inl (some (.int (l1 + 1)))) (jG0 sc) h13)
    (v5 : ∀ (x1 : Int32) (h1 : jH), P1 x1 h1 → ¬ x1 = 4 → ∀ (x2 : Int32) (h2 : jH), P2 x2 h2 → ∀ (x3 : Int32) (h3 : jH), P3 x3 h3 → ∀ (x4 : Int32) (h4 : jH), P4 x4 h4 → ∀ (x5 : Int32) (h5 : jH), P5 x5 h5 → ¬ x1 = 1 → ¬ x1 = 2 → ¬ x1 = 0 → ∀ (x10 : Int32) (h10 : jH), P10 x10 h10 → ∀ (x11 : Int32) (h11 : jH), P11 x11 h11 → ¬ x1 = 3 → ∀ (x12 : Int32) (h12 : jH), P12 x12 h12 → ¬ x12 = 0 → ∀ (x13 : Int32) (h13 : jH), P13 x13 h13 → ¬ x13 < 0 → 4 ≤ x13 → Q (.inl (some (.int (l1 + 1)))) (jG0 sc) h13)
    (o1 : ∀ (x1 : Int32) (h1 : jH), P1 x1 h1 → ¬ x1 = 4 → ∀ (x2 : Int32) (h2 : jH), P2 x2 h2 → ∀ (x3 : Int32) (h3 : jH), P3 x3 h3 → ∀ (x4 : Int32) (h4 : jH), P4 x4 h4 → ∀ (x5 : Int32) (h5 : jH), P5 x5 h5 → ¬ x1 = 1 → ¬ x1 = 2 → ¬ x1 = 0 → ∀ (x10 : Int32) (h10 : jH), P10 x10 h10 → ∀ (x11 : Int32) (h11 : jH), P11 x11 h11 → ¬ x1 = 3 → ∀ (x12 : Int32) (h12 : jH), P12 x12 h12 → ¬ x12 = 0 → ∀ (x13 : Int32) (h13 : jH), P13 x13 h13 → ¬ x13 < 0 → ¬ 4 ≤ x13 → vp_in x13 4)
    (v6 : ∀ (x1 : Int32) (h1 : jH), P1 x1 h1 → ¬ x1 = 4 → ∀ (x2 : Int32) (h2 : jH), P2 x2 h2 → ∀ (x3 : Int32) (h3 : jH), P3 x3 h3 → ∀ (x4 : Int32) (h4 : jH), P4 x4 h4 → ∀ (x5 : Int32) (h5 : jH), P5 x5 h5 → ¬ x1 = 1 → ¬ x1 = 2 → ¬ x1 = 0 → ∀ (x10 : Int32) (h10 : jH), P10 x10 h10 → ∀ (x11 : Int32) (h11 : jH), P11 x11 h11 → ¬ x1 = 3 → ∀ (x12 : Int32) (h12 : jH), P12 x12 h12 → ¬ x12 = 0 → ∀ (x13 : Int32) (h13 : jH), P13 x13 h13 → ¬ x13 < 0 → ¬ 4 ≤ x13 → Q (.inl (some (.int (l1 + 1)))) (jG0 sc) (jput (jput h13 70 x13.toNatClampNeg x11) 71 x13.toNatClampNeg (((((1 : Int32) <<< (l1 &&& 31)) ||| x4) ||| x5) ||| ((jput h13 70 x13.toNatClampNeg x11) 69 2))))
    (v7 : ∀ (x1 : Int32) (h1 : jH), P1 x1 h1 → ¬ x1 = 4 → ∀ (x2 : Int32) (h2 : jH), P2 x2 h2 → ∀ (x3 : Int32) (h3 : jH), P3 x3 h3 → ∀ (x4 : Int32) (h4 : jH), P4 x4 h4 → ∀ (x5 : Int32) (h5 : jH), P5 x5 h5 → ¬ x1 = 1 → ¬ x1 = 2 → ¬ x1 = 0 → ∀ (x10 : Int32) (h10 : jH), P10 x10 h10 → ∀ (x11 : Int32) (h11 : jH), P11 x11 h11 → ¬ x1 = 3 → ∀ (x12 : Int32) (h12 : jH), P12 x12 h12 → x12 = 0 → Q (.inl (some (.int l1))) (jG0 sc) (jput (jput (jput h12 69 10 x11) 69 9 (((jput h12 69 10 x11) 69 2) ||| ((((1 : Int32) <<< (l1 &&& 31)) ||| x4) ||| x5))) 69 11 1))
    (k14 : ∀ (x1 : Int32) (h1 : jH), P1 x1 h1 → ¬ x1 = 4 → ∀ (x2 : Int32) (h2 : jH), P2 x2 h2 → ∀ (x3 : Int32) (h3 : jH), P3 x3 h3 → ∀ (x4 : Int32) (h4 : jH), P4 x4 h4 → ∀ (x5 : Int32) (h5 : jH), P5 x5 h5 → ¬ x1 = 1 → ¬ x1 = 2 → x1 = 0 → ¬ l1 = (h5 69 5) → JM mX11_signOf [.int l2] (jG0 sc) h5 (jint sc P14))
    (k15 : ∀ (x1 : Int32) (h1 : jH), P1 x1 h1 → ¬ x1 = 4 → ∀ (x2 : Int32) (h2 : jH), P2 x2 h2 → ∀ (x3 : Int32) (h3 : jH), P3 x3 h3 → ∀ (x4 : Int32) (h4 : jH), P4 x4 h4 → ∀ (x5 : Int32) (h5 : jH), P5 x5 h5 → ¬ x1 = 1 → ¬ x1 = 2 → x1 = 0 → ¬ l1 = (h5 69 5) → ∀ (x14 : Int32) (h14 : jH), P14 x14 h14 → JM mX10_sumOf [.ref 69, .int x2, .int x14, .int x3] (jG0 sc) h14 (jint sc P15))
    (v8 : ∀ (x1 : Int32) (h1 : jH), P1 x1 h1 → ¬ x1 = 4 → ∀ (x2 : Int32) (h2 : jH), P2 x2 h2 → ∀ (x3 : Int32) (h3 : jH), P3 x3 h3 → ∀ (x4 : Int32) (h4 : jH), P4 x4 h4 → ∀ (x5 : Int32) (h5 : jH), P5 x5 h5 → ¬ x1 = 1 → ¬ x1 = 2 → x1 = 0 → ¬ l1 = (h5 69 5) → ∀ (x14 : Int32) (h14 : jH), P14 x14 h14 → ∀ (x15 : Int32) (h15 : jH), P15 x15 h15 → x1 = 3 → Q (.inl (some (.int l1))) (jG0 sc) (jput (jput (jput h15 69 10 x15) 69 9 (((jput h15 69 10 x15) 69 2) ||| ((((1 : Int32) <<< (l1 &&& 31)) ||| x4) ||| x5))) 69 11 1))
    (k16 : ∀ (x1 : Int32) (h1 : jH), P1 x1 h1 → ¬ x1 = 4 → ∀ (x2 : Int32) (h2 : jH), P2 x2 h2 → ∀ (x3 : Int32) (h3 : jH), P3 x3 h3 → ∀ (x4 : Int32) (h4 : jH), P4 x4 h4 → ∀ (x5 : Int32) (h5 : jH), P5 x5 h5 → ¬ x1 = 1 → ¬ x1 = 2 → x1 = 0 → ¬ l1 = (h5 69 5) → ∀ (x14 : Int32) (h14 : jH), P14 x14 h14 → ∀ (x15 : Int32) (h15 : jH), P15 x15 h15 → ¬ x1 = 3 → JM mX11_isNumber [.int x15] (jG0 sc) h15 (jint sc P16))
    (k17 : ∀ (x1 : Int32) (h1 : jH), P1 x1 h1 → ¬ x1 = 4 → ∀ (x2 : Int32) (h2 : jH), P2 x2 h2 → ∀ (x3 : Int32) (h3 : jH), P3 x3 h3 → ∀ (x4 : Int32) (h4 : jH), P4 x4 h4 → ∀ (x5 : Int32) (h5 : jH), P5 x5 h5 → ¬ x1 = 1 → ¬ x1 = 2 → x1 = 0 → ¬ l1 = (h5 69 5) → ∀ (x14 : Int32) (h14 : jH), P14 x14 h14 → ∀ (x15 : Int32) (h15 : jH), P15 x15 h15 → ¬ x1 = 3 → ∀ (x16 : Int32) (h16 : jH), P16 x16 h16 → ¬ x16 = 0 → JM mX11_madeOf [.int l2] (jG0 sc) h16 (jint sc P17))
    (v9 : ∀ (x1 : Int32) (h1 : jH), P1 x1 h1 → ¬ x1 = 4 → ∀ (x2 : Int32) (h2 : jH), P2 x2 h2 → ∀ (x3 : Int32) (h3 : jH), P3 x3 h3 → ∀ (x4 : Int32) (h4 : jH), P4 x4 h4 → ∀ (x5 : Int32) (h5 : jH), P5 x5 h5 → ¬ x1 = 1 → ¬ x1 = 2 → x1 = 0 → ¬ l1 = (h5 69 5) → ∀ (x14 : Int32) (h14 : jH), P14 x14 h14 → ∀ (x15 : Int32) (h15 : jH), P15 x15 h15 → ¬ x1 = 3 → ∀ (x16 : Int32) (h16 : jH), P16 x16 h16 → ¬ x16 = 0 → ∀ (x17 : Int32) (h17 : jH), P17 x17 h17 → x17 < 0 → Q (.inl (some (.int (l1 + 1)))) (jG0 sc) h17)
    (v10 : ∀ (x1 : Int32) (h1 : jH), P1 x1 h1 → ¬ x1 = 4 → ∀ (x2 : Int32) (h2 : jH), P2 x2 h2 → ∀ (x3 : Int32) (h3 : jH), P3 x3 h3 → ∀ (x4 : Int32) (h4 : jH), P4 x4 h4 → ∀ (x5 : Int32) (h5 : jH), P5 x5 h5 → ¬ x1 = 1 → ¬ x1 = 2 → x1 = 0 → ¬ l1 = (h5 69 5) → ∀ (x14 : Int32) (h14 : jH), P14 x14 h14 → ∀ (x15 : Int32) (h15 : jH), P15 x15 h15 → ¬ x1 = 3 → ∀ (x16 : Int32) (h16 : jH), P16 x16 h16 → ¬ x16 = 0 → ∀ (x17 : Int32) (h17 : jH), P17 x17 h17 → ¬ x17 < 0 → 4 ≤ x17 → Q (.inl (some (.int (l1 + 1)))) (jG0 sc) h17)
    (o2 : ∀ (x1 : Int32) (h1 : jH), P1 x1 h1 → ¬ x1 = 4 → ∀ (x2 : Int32) (h2 : jH), P2 x2 h2 → ∀ (x3 : Int32) (h3 : jH), P3 x3 h3 → ∀ (x4 : Int32) (h4 : jH), P4 x4 h4 → ∀ (x5 : Int32) (h5 : jH), P5 x5 h5 → ¬ x1 = 1 → ¬ x1 = 2 → x1 = 0 → ¬ l1 = (h5 69 5) → ∀ (x14 : Int32) (h14 : jH), P14 x14 h14 → ∀ (x15 : Int32) (h15 : jH), P15 x15 h15 → ¬ x1 = 3 → ∀ (x16 : Int32) (h16 : jH), P16 x16 h16 → ¬ x16 = 0 → ∀ (x17 : Int32) (h17 : jH), P17 x17 h17 → ¬ x17 < 0 → ¬ 4 ≤ x17 → vp_in x17 4)
    (v11 : ∀ (x1 : Int32) (h1 : jH), P1 x1 h1 → ¬ x1 = 4 → ∀ (x2 : Int32) (h2 : jH), P2 x2 h2 → ∀ (x3 : Int32) (h3 : jH), P3 x3 h3 → ∀ (x4 : Int32) (h4 : jH), P4 x4 h4 → ∀ (x5 : Int32) (h5 : jH), P5 x5 h5 → ¬ x1 = 1 → ¬ x1 = 2 → x1 = 0 → ¬ l1 = (h5 69 5) → ∀ (x14 : Int32) (h14 : jH), P14 x14 h14 → ∀ (x15 : Int32) (h15 : jH), P15 x15 h15 → ¬ x1 = 3 → ∀ (x16 : Int32) (h16 : jH), P16 x16 h16 → ¬ x16 = 0 → ∀ (x17 : Int32) (h17 : jH), P17 x17 h17 → ¬ x17 < 0 → ¬ 4 ≤ x17 → Q (.inl (some (.int (l1 + 1)))) (jG0 sc) (jput (jput h17 70 x17.toNatClampNeg x15) 71 x17.toNatClampNeg (((((1 : Int32) <<< (l1 &&& 31)) ||| x4) ||| x5) ||| ((jput h17 70 x17.toNatClampNeg x15) 69 2))))
    (v12 : ∀ (x1 : Int32) (h1 : jH), P1 x1 h1 → ¬ x1 = 4 → ∀ (x2 : Int32) (h2 : jH), P2 x2 h2 → ∀ (x3 : Int32) (h3 : jH), P3 x3 h3 → ∀ (x4 : Int32) (h4 : jH), P4 x4 h4 → ∀ (x5 : Int32) (h5 : jH), P5 x5 h5 → ¬ x1 = 1 → ¬ x1 = 2 → x1 = 0 → ¬ l1 = (h5 69 5) → ∀ (x14 : Int32) (h14 : jH), P14 x14 h14 → ∀ (x15 : Int32) (h15 : jH), P15 x15 h15 → ¬ x1 = 3 → ∀ (x16 : Int32) (h16 : jH), P16 x16 h16 → x16 = 0 → Q (.inl (some (.int l1))) (jG0 sc) (jput (jput (jput h16 69 10 x15) 69 9 (((jput h16 69 10 x15) 69 2) ||| ((((1 : Int32) <<< (l1 &&& 31)) ||| x4) ||| x5))) 69 11 1))
    (v13 : ∀ (x1 : Int32) (h1 : jH), P1 x1 h1 → ¬ x1 = 4 → ∀ (x2 : Int32) (h2 : jH), P2 x2 h2 → ∀ (x3 : Int32) (h3 : jH), P3 x3 h3 → ∀ (x4 : Int32) (h4 : jH), P4 x4 h4 → ∀ (x5 : Int32) (h5 : jH), P5 x5 h5 → ¬ x1 = 1 → ¬ x1 = 2 → x1 = 0 → l1 = (h5 69 5) → x1 = 3 → Q (.inl (some (.int l1))) (jG0 sc) (jput (jput (jput h5 69 10 (h5 69 6)) 69 9 (((jput h5 69 10 (h5 69 6)) 69 2) ||| ((((1 : Int32) <<< (l1 &&& 31)) ||| x4) ||| x5))) 69 11 1))
    (k18 : ∀ (x1 : Int32) (h1 : jH), P1 x1 h1 → ¬ x1 = 4 → ∀ (x2 : Int32) (h2 : jH), P2 x2 h2 → ∀ (x3 : Int32) (h3 : jH), P3 x3 h3 → ∀ (x4 : Int32) (h4 : jH), P4 x4 h4 → ∀ (x5 : Int32) (h5 : jH), P5 x5 h5 → ¬ x1 = 1 → ¬ x1 = 2 → x1 = 0 → l1 = (h5 69 5) → ¬ x1 = 3 → JM mX11_isNumber [.int (h5 69 6)] (jG0 sc) h5 (jint sc P18))
    (k19 : ∀ (x1 : Int32) (h1 : jH), P1 x1 h1 → ¬ x1 = 4 → ∀ (x2 : Int32) (h2 : jH), P2 x2 h2 → ∀ (x3 : Int32) (h3 : jH), P3 x3 h3 → ∀ (x4 : Int32) (h4 : jH), P4 x4 h4 → ∀ (x5 : Int32) (h5 : jH), P5 x5 h5 → ¬ x1 = 1 → ¬ x1 = 2 → x1 = 0 → l1 = (h5 69 5) → ¬ x1 = 3 → ∀ (x18 : Int32) (h18 : jH), P18 x18 h18 → ¬ x18 = 0 → JM mX11_madeOf [.int l2] (jG0 sc) h18 (jint sc P19))
    (v14 : ∀ (x1 : Int32) (h1 : jH), P1 x1 h1 → ¬ x1 = 4 → ∀ (x2 : Int32) (h2 : jH), P2 x2 h2 → ∀ (x3 : Int32) (h3 : jH), P3 x3 h3 → ∀ (x4 : Int32) (h4 : jH), P4 x4 h4 → ∀ (x5 : Int32) (h5 : jH), P5 x5 h5 → ¬ x1 = 1 → ¬ x1 = 2 → x1 = 0 → l1 = (h5 69 5) → ¬ x1 = 3 → ∀ (x18 : Int32) (h18 : jH), P18 x18 h18 → ¬ x18 = 0 → ∀ (x19 : Int32) (h19 : jH), P19 x19 h19 → x19 < 0 → Q (.inl (some (.int (l1 + 1)))) (jG0 sc) h19)
    (v15 : ∀ (x1 : Int32) (h1 : jH), P1 x1 h1 → ¬ x1 = 4 → ∀ (x2 : Int32) (h2 : jH), P2 x2 h2 → ∀ (x3 : Int32) (h3 : jH), P3 x3 h3 → ∀ (x4 : Int32) (h4 : jH), P4 x4 h4 → ∀ (x5 : Int32) (h5 : jH), P5 x5 h5 → ¬ x1 = 1 → ¬ x1 = 2 → x1 = 0 → l1 = (h5 69 5) → ¬ x1 = 3 → ∀ (x18 : Int32) (h18 : jH), P18 x18 h18 → ¬ x18 = 0 → ∀ (x19 : Int32) (h19 : jH), P19 x19 h19 → ¬ x19 < 0 → 4 ≤ x19 → Q (.inl (some (.int (l1 + 1)))) (jG0 sc) h19)
    (o3 : ∀ (x1 : Int32) (h1 : jH), P1 x1 h1 → ¬ x1 = 4 → ∀ (x2 : Int32) (h2 : jH), P2 x2 h2 → ∀ (x3 : Int32) (h3 : jH), P3 x3 h3 → ∀ (x4 : Int32) (h4 : jH), P4 x4 h4 → ∀ (x5 : Int32) (h5 : jH), P5 x5 h5 → ¬ x1 = 1 → ¬ x1 = 2 → x1 = 0 → l1 = (h5 69 5) → ¬ x1 = 3 → ∀ (x18 : Int32) (h18 : jH), P18 x18 h18 → ¬ x18 = 0 → ∀ (x19 : Int32) (h19 : jH), P19 x19 h19 → ¬ x19 < 0 → ¬ 4 ≤ x19 → vp_in x19 4)
    (v16 : ∀ (x1 : Int32) (h1 : jH), P1 x1 h1 → ¬ x1 = 4 → ∀ (x2 : Int32) (h2 : jH), P2 x2 h2 → ∀ (x3 : Int32) (h3 : jH), P3 x3 h3 → ∀ (x4 : Int32) (h4 : jH), P4 x4 h4 → ∀ (x5 : Int32) (h5 : jH), P5 x5 h5 → ¬ x1 = 1 → ¬ x1 = 2 → x1 = 0 → l1 = (h5 69 5) → ¬ x1 = 3 → ∀ (x18 : Int32) (h18 : jH), P18 x18 h18 → ¬ x18 = 0 → ∀ (x19 : Int32) (h19 : jH), P19 x19 h19 → ¬ x19 < 0 → ¬ 4 ≤ x19 → Q (.inl (some (.int (l1 + 1)))) (jG0 sc) (jput (jput h19 70 x19.toNatClampNeg (h5 69 6)) 71 x19.toNatClampNeg (((((1 : Int32) <<< (l1 &&& 31)) ||| x4) ||| x5) ||| ((jput h19 70 x19.toNatClampNeg (h5 69 6)) 69 2))))
    (v17 : ∀ (x1 : Int32) (h1 : jH), P1 x1 h1 → ¬ x1 = 4 → ∀ (x2 : Int32) (h2 : jH), P2 x2 h2 → ∀ (x3 : Int32) (h3 : jH), P3 x3 h3 → ∀ (x4 : Int32) (h4 : jH), P4 x4 h4 → ∀ (x5 : Int32) (h5 : jH), P5 x5 h5 → ¬ x1 = 1 → ¬ x1 = 2 → x1 = 0 → l1 = (h5 69 5) → ¬ x1 = 3 → ∀ (x18 : Int32) (h18 : jH), P18 x18 h18 → x18 = 0 → Q (.inl (some (.int l1))) (jG0 sc) (jput (jput (jput h18 69 10 (h5 69 6)) 69 9 (((jput h18 69 10 (h5 69 6)) 69 2) ||| ((((1 : Int32) <<< (l1 &&& 31)) ||| x4) ||| x5))) 69 11 1))
    (k20 : ∀ (x1 : Int32) (h1 : jH), P1 x1 h1 → ¬ x1 = 4 → ∀ (x2 : Int32) (h2 : jH), P2 x2 h2 → ∀ (x3 : Int32) (h3 : jH), P3 x3 h3 → ∀ (x4 : Int32) (h4 : jH), P4 x4 h4 → ∀ (x5 : Int32) (h5 : jH), P5 x5 h5 → ¬ x1 = 1 → x1 = 2 → JM mX11_signOf [.int l2] (jG0 sc) (jput h5 69 2 ((h5 69 2) ||| ((((1 : Int32) <<< (l1 &&& 31)) ||| x4) ||| x5))) (jint sc P20))
    (k21 : ∀ (x1 : Int32) (h1 : jH), P1 x1 h1 → ¬ x1 = 4 → ∀ (x2 : Int32) (h2 : jH), P2 x2 h2 → ∀ (x3 : Int32) (h3 : jH), P3 x3 h3 → ∀ (x4 : Int32) (h4 : jH), P4 x4 h4 → ∀ (x5 : Int32) (h5 : jH), P5 x5 h5 → ¬ x1 = 1 → x1 = 2 → ∀ (x20 : Int32) (h20 : jH), P20 x20 h20 → JM mX10_holds [.ref 69, .int x2, .int x20, .int x3] (jG0 sc) h20 (jint sc P21))
    (v18 : ∀ (x1 : Int32) (h1 : jH), P1 x1 h1 → ¬ x1 = 4 → ∀ (x2 : Int32) (h2 : jH), P2 x2 h2 → ∀ (x3 : Int32) (h3 : jH), P3 x3 h3 → ∀ (x4 : Int32) (h4 : jH), P4 x4 h4 → ∀ (x5 : Int32) (h5 : jH), P5 x5 h5 → ¬ x1 = 1 → x1 = 2 → ∀ (x20 : Int32) (h20 : jH), P20 x20 h20 → ∀ (x21 : Int32) (h21 : jH), P21 x21 h21 → x21 = 0 → Q (.inl (some (.int (l1 + 1)))) (jG0 sc) h21)
    (k22 : ∀ (x1 : Int32) (h1 : jH), P1 x1 h1 → ¬ x1 = 4 → ∀ (x2 : Int32) (h2 : jH), P2 x2 h2 → ∀ (x3 : Int32) (h3 : jH), P3 x3 h3 → ∀ (x4 : Int32) (h4 : jH), P4 x4 h4 → ∀ (x5 : Int32) (h5 : jH), P5 x5 h5 → ¬ x1 = 1 → x1 = 2 → ∀ (x20 : Int32) (h20 : jH), P20 x20 h20 → ∀ (x21 : Int32) (h21 : jH), P21 x21 h21 → ¬ x21 = 0 → JM mX11_countOf [.int l2] (jG0 sc) h21 (jint sc P22))
    (k23 : ∀ (x1 : Int32) (h1 : jH), P1 x1 h1 → ¬ x1 = 4 → ∀ (x2 : Int32) (h2 : jH), P2 x2 h2 → ∀ (x3 : Int32) (h3 : jH), P3 x3 h3 → ∀ (x4 : Int32) (h4 : jH), P4 x4 h4 → ∀ (x5 : Int32) (h5 : jH), P5 x5 h5 → ¬ x1 = 1 → x1 = 2 → ∀ (x20 : Int32) (h20 : jH), P20 x20 h20 → ∀ (x21 : Int32) (h21 : jH), P21 x21 h21 → ¬ x21 = 0 → ∀ (x22 : Int32) (h22 : jH), P22 x22 h22 → JM mX10_jump [.int l1, .int x1, .int x22] (jG0 sc) h22 (jint sc P23))
    (v19 : ∀ (x1 : Int32) (h1 : jH), P1 x1 h1 → ¬ x1 = 4 → ∀ (x2 : Int32) (h2 : jH), P2 x2 h2 → ∀ (x3 : Int32) (h3 : jH), P3 x3 h3 → ∀ (x4 : Int32) (h4 : jH), P4 x4 h4 → ∀ (x5 : Int32) (h5 : jH), P5 x5 h5 → ¬ x1 = 1 → x1 = 2 → ∀ (x20 : Int32) (h20 : jH), P20 x20 h20 → ∀ (x21 : Int32) (h21 : jH), P21 x21 h21 → ¬ x21 = 0 → ∀ (x22 : Int32) (h22 : jH), P22 x22 h22 → ∀ (x23 : Int32) (h23 : jH), P23 x23 h23 → Q (.inl (some (.int x23))) (jG0 sc) h23)
    (v20 : ∀ (x1 : Int32) (h1 : jH), P1 x1 h1 → x1 = 4 → Q (.inl (some (.int (l1 + 1)))) (jG0 sc) h1) :
    WP mX10_step Q 0 [some (.ref 69), some (.int l1), some (.int l2), none, none, none, none, none, none] [] (jG0 sc) h (0, 0) := by
  exact (bX10_step_0 k1 (fun x1 h1 p1 c1 => (bX10_step_14 (k2 x1 h1 p1 c1) (fun x2 h2 p2 => (k3 x1 h1 p1 c1 x2 h2 p2)) (fun x2 h2 p2 x3 h3 p3 => (k4 x1 h1 p1 c1 x2 h2 p2 x3 h3 p3)) (fun x2 h2 p2 x3 h3 p3 x4 h4 p4 => (bX10_step_37 (k5 x1 h1 p1 c1 x2 h2 p2 x3 h3 p3 x4 h4 p4) (fun x5 h5 p5 c2 => (bX10_step_55 (k6 x1 h1 p1 c1 x2 h2 p2 x3 h3 p3 x4 h4 p4 x5 h5 p5 c2) (fun x6 h6 p6 => (k7 x1 h1 p1 c1 x2 h2 p2 x3 h3 p3 x4 h4 p4 x5 h5 p5 c2 x6 h6 p6)) (fun x6 h6 p6 x7 h7 p7 c3 => (bX10_step_93 (bX10_step_96 (v1 x1 h1 p1 c1 x2 h2 p2 x3 h3 p3 x4 h4 p4 x5 h5 p5 c2 x6 h6 p6 x7 h7 p7 c3)))) (fun x6 h6 p6 x7 h7 p7 c3 => (bX10_step_81 (k8 x1 h1 p1 c1 x2 h2 p2 x3 h3 p3 x4 h4 p4 x5 h5 p5 c2 x6 h6 p6 x7 h7 p7 c3) (fun x8 h8 p8 => (k9 x1 h1 p1 c1 x2 h2 p2 x3 h3 p3 x4 h4 p4 x5 h5 p5 c2 x6 h6 p6 x7 h7 p7 c3 x8 h8 p8)) (fun x8 h8 p8 x9 h9 p9 => (bX10_step_96 (v2 x1 h1 p1 c1 x2 h2 p2 x3 h3 p3 x4 h4 p4 x5 h5 p5 c2 x6 h6 p6 x7 h7 p7 c3 x8 h8 p8 x9 h9 p9))))))) (fun x5 h5 p5 c2 => (bX10_step_50 (fun c4 => (bX10_step_97 (fun c5 => (bX10_step_116 (k10 x1 h1 p1 c1 x2 h2 p2 x3 h3 p3 x4 h4 p4 x5 h5 p5 c2 c4 c5) (fun x10 h10 p10 => (k11 x1 h1 p1 c1 x2 h2 p2 x3 h3 p3 x4 h4 p4 x5 h5 p5 c2 c4 c5 x10 h10 p10)) (fun x10 h10 p10 x11 h11 p11 => (bX10_step_128 (fun c6 => (bX10_step_143 (v3 x1 h1 p1 c1 x2 h2 p2 x3 h3 p3 x4 h4 p4 x5 h5 p5 c2 c4 c5 x10 h10 p10 x11 h11 p11 c6))) (fun c6 => (bX10_step_135 (k12 x1 h1 p1 c1 x2 h2 p2 x3 h3 p3 x4 h4 p4 x5 h5 p5 c2 c4 c5 x10 h10 p10 x11 h11 p11 c6) (fun x12 h12 p12 c7 => (bX10_step_167 (k13 x1 h1 p1 c1 x2 h2 p2 x3 h3 p3 x4 h4 p4 x5 h5 p5 c2 c4 c5 x10 h10 p10 x11 h11 p11 c6 x12 h12 p12 c7) (fun x13 h13 p13 c8 => (bX10_step_207 (v4 x1 h1 p1 c1 x2 h2 p2 x3 h3 p3 x4 h4 p4 x5 h5 p5 c2 c4 c5 x10 h10 p10 x11 h11 p11 c6 x12 h12 p12 c7 x13 h13 p13 c8))) (fun x13 h13 p13 c8 => (bX10_step_178 (fun c9 => (bX10_step_207 (v5 x1 h1 p1 c1 x2 h2 p2 x3 h3 p3 x4 h4 p4 x5 h5 p5 c2 c4 c5 x10 h10 p10 x11 h11 p11 c6 x12 h12 p12 c7 x13 h13 p13 c8 c9))) (fun c9 => (bX10_step_184 (o1 x1 h1 p1 c1 x2 h2 p2 x3 h3 p3 x4 h4 p4 x5 h5 p5 c2 c4 c5 x10 h10 p10 x11 h11 p11 c6 x12 h12 p12 c7 x13 h13 p13 c8 c9) (o1 x1 h1 p1 c1 x2 h2 p2 x3 h3 p3 x4 h4 p4 x5 h5 p5 c2 c4 c5 x10 h10 p10 x11 h11 p11 c6 x12 h12 p12 c7 x13 h13 p13 c8 c9) (bX10_step_207 (v6 x1 h1 p1 c1 x2 h2 p2 x3 h3 p3 x4 h4 p4 x5 h5 p5 c2 c4 c5 x10 h10 p10 x11 h11 p11 c6 x12 h12 p12 c7 x13 h13 p13 c8 c9)))))))) (fun x12 h12 p12 c7 => (bX10_step_143 (v7 x1 h1 p1 c1 x2 h2 p2 x3 h3 p3 x4 h4 p4 x5 h5 p5 c2 c4 c5 x10 h10 p10 x11 h11 p11 c6 x12 h12 p12 c7))))))))) (fun c5 => (bX10_step_101 (fun c10 => (bX10_step_116 (k14 x1 h1 p1 c1 x2 h2 p2 x3 h3 p3 x4 h4 p4 x5 h5 p5 c2 c4 c5 c10) (fun x14 h14 p14 => (k15 x1 h1 p1 c1 x2 h2 p2 x3 h3 p3 x4 h4 p4 x5 h5 p5 c2 c4 c5 c10 x14 h14 p14)) (fun x14 h14 p14 x15 h15 p15 => (bX10_step_128 (fun c11 => (bX10_step_143 (v8 x1 h1 p1 c1 x2 h2 p2 x3 h3 p3 x4 h4 p4 x5 h5 p5 c2 c4 c5 c10 x14 h14 p14 x15 h15 p15 c11))) (fun c11 => (bX10_step_135 (k16 x1 h1 p1 c1 x2 h2 p2 x3 h3 p3 x4 h4 p4 x5 h5 p5 c2 c4 c5 c10 x14 h14 p14 x15 h15 p15 c11) (fun x16 h16 p16 c12 => (bX10_step_167 (k17 x1 h1 p1 c1 x2 h2 p2 x3 h3 p3 x4 h4 p4 x5 h5 p5 c2 c4 c5 c10 x14 h14 p14 x15 h15 p15 c11 x16 h16 p16 c12) (fun x17 h17 p17 c13 => (bX10_step_207 (v9 x1 h1 p1 c1 x2 h2 p2 x3 h3 p3 x4 h4 p4 x5 h5 p5 c2 c4 c5 c10 x14 h14 p14 x15 h15 p15 c11 x16 h16 p16 c12 x17 h17 p17 c13))) (fun x17 h17 p17 c13 => (bX10_step_178 (fun c14 => (bX10_step_207 (v10 x1 h1 p1 c1 x2 h2 p2 x3 h3 p3 x4 h4 p4 x5 h5 p5 c2 c4 c5 c10 x14 h14 p14 x15 h15 p15 c11 x16 h16 p16 c12 x17 h17 p17 c13 c14))) (fun c14 => (bX10_step_184 (o2 x1 h1 p1 c1 x2 h2 p2 x3 h3 p3 x4 h4 p4 x5 h5 p5 c2 c4 c5 c10 x14 h14 p14 x15 h15 p15 c11 x16 h16 p16 c12 x17 h17 p17 c13 c14) (o2 x1 h1 p1 c1 x2 h2 p2 x3 h3 p3 x4 h4 p4 x5 h5 p5 c2 c4 c5 c10 x14 h14 p14 x15 h15 p15 c11 x16 h16 p16 c12 x17 h17 p17 c13 c14) (bX10_step_207 (v11 x1 h1 p1 c1 x2 h2 p2 x3 h3 p3 x4 h4 p4 x5 h5 p5 c2 c4 c5 c10 x14 h14 p14 x15 h15 p15 c11 x16 h16 p16 c12 x17 h17 p17 c13 c14)))))))) (fun x16 h16 p16 c12 => (bX10_step_143 (v12 x1 h1 p1 c1 x2 h2 p2 x3 h3 p3 x4 h4 p4 x5 h5 p5 c2 c4 c5 c10 x14 h14 p14 x15 h15 p15 c11 x16 h16 p16 c12))))))))) (fun c10 => (bX10_step_109 (bX10_step_128 (fun c15 => (bX10_step_143 (v13 x1 h1 p1 c1 x2 h2 p2 x3 h3 p3 x4 h4 p4 x5 h5 p5 c2 c4 c5 c10 c15))) (fun c15 => (bX10_step_135 (k18 x1 h1 p1 c1 x2 h2 p2 x3 h3 p3 x4 h4 p4 x5 h5 p5 c2 c4 c5 c10 c15) (fun x18 h18 p18 c16 => (bX10_step_167 (k19 x1 h1 p1 c1 x2 h2 p2 x3 h3 p3 x4 h4 p4 x5 h5 p5 c2 c4 c5 c10 c15 x18 h18 p18 c16) (fun x19 h19 p19 c17 => (bX10_step_207 (v14 x1 h1 p1 c1 x2 h2 p2 x3 h3 p3 x4 h4 p4 x5 h5 p5 c2 c4 c5 c10 c15 x18 h18 p18 c16 x19 h19 p19 c17))) (fun x19 h19 p19 c17 => (bX10_step_178 (fun c18 => (bX10_step_207 (v15 x1 h1 p1 c1 x2 h2 p2 x3 h3 p3 x4 h4 p4 x5 h5 p5 c2 c4 c5 c10 c15 x18 h18 p18 c16 x19 h19 p19 c17 c18))) (fun c18 => (bX10_step_184 (o3 x1 h1 p1 c1 x2 h2 p2 x3 h3 p3 x4 h4 p4 x5 h5 p5 c2 c4 c5 c10 c15 x18 h18 p18 c16 x19 h19 p19 c17 c18) (o3 x1 h1 p1 c1 x2 h2 p2 x3 h3 p3 x4 h4 p4 x5 h5 p5 c2 c4 c5 c10 c15 x18 h18 p18 c16 x19 h19 p19 c17 c18) (bX10_step_207 (v16 x1 h1 p1 c1 x2 h2 p2 x3 h3 p3 x4 h4 p4 x5 h5 p5 c2 c4 c5 c10 c15 x18 h18 p18 c16 x19 h19 p19 c17 c18)))))))) (fun x18 h18 p18 c16 => (bX10_step_143 (v17 x1 h1 p1 c1 x2 h2 p2 x3 h3 p3 x4 h4 p4 x5 h5 p5 c2 c4 c5 c10 c15 x18 h18 p18 c16)))))))))))) (fun c4 => (bX10_step_55 (k20 x1 h1 p1 c1 x2 h2 p2 x3 h3 p3 x4 h4 p4 x5 h5 p5 c2 c4) (fun x20 h20 p20 => (k21 x1 h1 p1 c1 x2 h2 p2 x3 h3 p3 x4 h4 p4 x5 h5 p5 c2 c4 x20 h20 p20)) (fun x20 h20 p20 x21 h21 p21 c19 => (bX10_step_93 (bX10_step_96 (v18 x1 h1 p1 c1 x2 h2 p2 x3 h3 p3 x4 h4 p4 x5 h5 p5 c2 c4 x20 h20 p20 x21 h21 p21 c19)))) (fun x20 h20 p20 x21 h21 p21 c19 => (bX10_step_81 (k22 x1 h1 p1 c1 x2 h2 p2 x3 h3 p3 x4 h4 p4 x5 h5 p5 c2 c4 x20 h20 p20 x21 h21 p21 c19) (fun x22 h22 p22 => (k23 x1 h1 p1 c1 x2 h2 p2 x3 h3 p3 x4 h4 p4 x5 h5 p5 c2 c4 x20 h20 p20 x21 h21 p21 c19 x22 h22 p22)) (fun x22 h22 p22 x23 h23 p23 => (bX10_step_96 (v19 x1 h1 p1 c1 x2 h2 p2 x3 h3 p3 x4 h4 p4 x5 h5 p5 c2 c4 x20 h20 p20 x21 h21 p21 c19 x22 h22 p22 x23 h23 p23))))))))))))) (fun x1 h1 p1 c1 => (bX10_step_10 (v20 x1 h1 p1 c1))))
theorem dX10_jump_0 : decode (mC mX10_jump) 0 = .ok (.iload_n 1, 1) := by decide +kernel
theorem dX10_jump_1 : decode (mC mX10_jump) 1 = .ok (.iconst 1, 1) := by decide +kernel
theorem dX10_jump_2 : decode (mC mX10_jump) 2 = .ok (.if_icmp .ne 11, 3) := by decide +kernel
theorem dX10_jump_5 : decode (mC mX10_jump) 5 = .ok (.iload_n 0, 1) := by decide +kernel
theorem dX10_jump_6 : decode (mC mX10_jump) 6 = .ok (.iconst 1, 1) := by decide +kernel
theorem dX10_jump_7 : decode (mC mX10_jump) 7 = .ok (.iadd, 1) := by decide +kernel
theorem dX10_jump_8 : decode (mC mX10_jump) 8 = .ok (.iload_n 2, 1) := by decide +kernel
theorem dX10_jump_9 : decode (mC mX10_jump) 9 = .ok (.iadd, 1) := by decide +kernel
theorem dX10_jump_10 : decode (mC mX10_jump) 10 = .ok (.goto 10, 3) := by decide +kernel
theorem dX10_jump_13 : decode (mC mX10_jump) 13 = .ok (.iconst 0, 1) := by decide +kernel
theorem dX10_jump_14 : decode (mC mX10_jump) 14 = .ok (.iload_n 0, 1) := by decide +kernel
theorem dX10_jump_15 : decode (mC mX10_jump) 15 = .ok (.iload_n 2, 1) := by decide +kernel
theorem dX10_jump_16 : decode (mC mX10_jump) 16 = .ok (.isub, 1) := by decide +kernel
theorem dX10_jump_17 : decode (mC mX10_jump) 17 = .ok (.invokestatic 104, 3) := by decide +kernel
theorem dX10_jump_20 : decode (mC mX10_jump) 20 = .ok (.ireturn, 1) := by decide +kernel
set_option maxRecDepth 100000 in
theorem bX10_jump_0 {sc : Nat × (Nat → Int32)} {h : jH} {Q : jQ} {l0 l1 l2 : Int32}
    (v1 : ¬ l1 = 1 → WP mX10_jump Q 13 [some (.int l0), some (.int l1), some (.int l2)] [] (jG0 sc) h (0, 0))
    (v2 : l1 = 1 → WP mX10_jump Q 5 [some (.int l0), some (.int l1), some (.int l2)] [] (jG0 sc) h (0, 0)) :
    WP mX10_jump Q 0 [some (.int l0), some (.int l1), some (.int l2)] [] (jG0 sc) h (0, 0) := by
  refine j_iload_n (i := 1) rfl dX10_jump_0 ?_
  refine j_iconst (n := 1) 1 (by decide) dX10_jump_1 ?_
  refine j_icmp_ne (off := 11) 13 dX10_jump_2 (by decide) (fun c1 => ?_) (fun c1 => ?_)
  · exact j_le [some (.int l0), some (.int l1), some (.int l2)] (And.intro rfl (And.intro rfl (And.intro rfl True.intro))) (v1 c1)
  · exact j_le [some (.int l0), some (.int l1), some (.int l2)] (And.intro rfl (And.intro rfl (And.intro rfl True.intro))) (v2 c1)
set_option maxRecDepth 100000 in
theorem bX10_jump_5 {sc : Nat × (Nat → Int32)} {h : jH} {Q : jQ} {l0 l1 l2 : Int32}
    (v1 : WP mX10_jump Q 20 [some (.int l0), some (.int l1), some (.int l2)] [.int ((l0 + 1) + l2)] (jG0 sc) h (0, 0)) :
    WP mX10_jump Q 5 [some (.int l0), some (.int l1), some (.int l2)] [] (jG0 sc) h (0, 0) := by
  refine j_iload_n (i := 0) rfl dX10_jump_5 ?_
  refine j_iconst (n := 1) 1 (by decide) dX10_jump_6 ?_
  refine j_iadd dX10_jump_7 ?_
  refine j_iload_n (i := 2) rfl dX10_jump_8 ?_
  refine j_iadd dX10_jump_9 ?_
  refine j_goto (off := 10) 20 dX10_jump_10 (by decide) ?_
  exact j_le [some (.int l0), some (.int l1), some (.int l2)] (And.intro rfl (And.intro rfl (And.intro rfl True.intro))) v1
set_option maxRecDepth 100000 in
theorem bX10_jump_13 {sc : Nat × (Nat → Int32)} {h : jH} {Q : jQ} {l0 l1 l2 : Int32}
    (v1 : WP mX10_jump Q 20 [some (.int l0), some (.int l1), some (.int l2)] [.int (if 0 < (l0 - l2) then (l0 - l2) else 0)] (jG0 sc) h (0, 0)) :
    WP mX10_jump Q 13 [some (.int l0), some (.int l1), some (.int l2)] [] (jG0 sc) h (0, 0) := by
  refine j_iconst (n := 0) 0 (by decide) dX10_jump_13 ?_
  refine j_iload_n (i := 0) rfl dX10_jump_14 ?_
  refine j_iload_n (i := 2) rfl dX10_jump_15 ?_
  refine j_isub dX10_jump_16 ?_
  refine j_mmax (idx := 104) (jlkT (jtb3 52 rfl) rfl) dX10_jump_17 (Nat.le_of_ble_eq_true rfl) ⟨Nat.zero_le _, Nat.zero_le _⟩ ?_
  exact j_le [some (.int l0), some (.int l1), some (.int l2)] (And.intro rfl (And.intro rfl (And.intro rfl True.intro))) v1
set_option maxRecDepth 100000 in
theorem bX10_jump_20 {sc : Nat × (Nat → Int32)} {h : jH} {Q : jQ} {l0 l1 l2 s0 : Int32}
    (v1 : Q (.inl (some (.int s0))) (jG0 sc) h) :
    WP mX10_jump Q 20 [some (.int l0), some (.int l1), some (.int l2)] [.int s0] (jG0 sc) h (0, 0) := by
  exact j_iret rfl rfl (Nat.zero_le _) (Nat.zero_le _) dX10_jump_20 v1
set_option maxRecDepth 100000 in
theorem rX10_jump_0 {sc : Nat × (Nat → Int32)} {h : jH} {Q : jQ} {l0 l1 l2 : Int32}
    (v1 : ¬ l1 = 1 → Q (.inl (some (.int (if 0 < (l0 - l2) then (l0 - l2) else 0)))) (jG0 sc) h)
    (v2 : l1 = 1 → Q (.inl (some (.int ((l0 + 1) + l2)))) (jG0 sc) h) :
    WP mX10_jump Q 0 [some (.int l0), some (.int l1), some (.int l2)] [] (jG0 sc) h (0, 0) := by
  exact (bX10_jump_0 (fun c1 => (bX10_jump_13 (bX10_jump_20 (v1 c1)))) (fun c1 => (bX10_jump_5 (bX10_jump_20 (v2 c1)))))
theorem dX10_restsOf_0 : decode (mC mX10_restsOf) 0 = .ok (.iload_n 1, 1) := by decide +kernel
theorem dX10_restsOf_1 : decode (mC mX10_restsOf) 1 = .ok (.ifCond .lt 17, 3) := by decide +kernel
theorem dX10_restsOf_4 : decode (mC mX10_restsOf) 4 = .ok (.iload_n 1, 1) := by decide +kernel
theorem dX10_restsOf_5 : decode (mC mX10_restsOf) 5 = .ok (.iconst 4, 1) := by decide +kernel
theorem dX10_restsOf_6 : decode (mC mX10_restsOf) 6 = .ok (.if_icmp .ge 12, 3) := by decide +kernel
theorem dX10_restsOf_9 : decode (mC mX10_restsOf) 9 = .ok (.aload_n 0, 1) := by decide +kernel
theorem dX10_restsOf_10 : decode (mC mX10_restsOf) 10 = .ok (.getfield 15, 3) := by decide +kernel
theorem dX10_restsOf_13 : decode (mC mX10_restsOf) 13 = .ok (.iload_n 1, 1) := by decide +kernel
theorem dX10_restsOf_14 : decode (mC mX10_restsOf) 14 = .ok (.iaload, 1) := by decide +kernel
theorem dX10_restsOf_15 : decode (mC mX10_restsOf) 15 = .ok (.goto 4, 3) := by decide +kernel
theorem dX10_restsOf_18 : decode (mC mX10_restsOf) 18 = .ok (.iconst 0, 1) := by decide +kernel
theorem dX10_restsOf_19 : decode (mC mX10_restsOf) 19 = .ok (.ireturn, 1) := by decide +kernel
set_option maxRecDepth 100000 in
theorem bX10_restsOf_0 {sc : Nat × (Nat → Int32)} {h : jH} {Q : jQ} {l1 : Int32}
    (v1 : l1 < 0 → WP mX10_restsOf Q 18 [some (.ref 69), some (.int l1)] [] (jG0 sc) h (0, 0))
    (v2 : ¬ l1 < 0 → WP mX10_restsOf Q 4 [some (.ref 69), some (.int l1)] [] (jG0 sc) h (0, 0)) :
    WP mX10_restsOf Q 0 [some (.ref 69), some (.int l1)] [] (jG0 sc) h (0, 0) := by
  refine j_iload_n (i := 1) rfl dX10_restsOf_0 ?_
  refine j_if_lt (off := 17) 18 dX10_restsOf_1 (by decide) (fun c1 => ?_) (fun c1 => ?_)
  · exact j_le [some (.ref 69), some (.int l1)] (And.intro rfl (And.intro rfl True.intro)) (v1 c1)
  · exact j_le [some (.ref 69), some (.int l1)] (And.intro rfl (And.intro rfl True.intro)) (v2 c1)
set_option maxRecDepth 100000 in
theorem bX10_restsOf_4 {sc : Nat × (Nat → Int32)} {h : jH} {Q : jQ} {l1 : Int32}
    (v1 : 4 ≤ l1 → WP mX10_restsOf Q 18 [some (.ref 69), some (.int l1)] [] (jG0 sc) h (0, 0))
    (v2 : ¬ 4 ≤ l1 → WP mX10_restsOf Q 9 [some (.ref 69), some (.int l1)] [] (jG0 sc) h (0, 0)) :
    WP mX10_restsOf Q 4 [some (.ref 69), some (.int l1)] [] (jG0 sc) h (0, 0) := by
  refine j_iload_n (i := 1) rfl dX10_restsOf_4 ?_
  refine j_iconst (n := 4) 4 (by decide) dX10_restsOf_5 ?_
  refine j_icmp_ge (off := 12) 18 dX10_restsOf_6 (by decide) (fun c1 => ?_) (fun c1 => ?_)
  · exact j_le [some (.ref 69), some (.int l1)] (And.intro rfl (And.intro rfl True.intro)) (v1 c1)
  · exact j_le [some (.ref 69), some (.int l1)] (And.intro rfl (And.intro rfl True.intro)) (v2 c1)
set_option maxRecDepth 100000 in
theorem bX10_restsOf_9 {sc : Nat × (Nat → Int32)} {h : jH} {Q : jQ} {l1 : Int32}
    (o1 : vp_in l1 4)
    (v1 : WP mX10_restsOf Q 19 [some (.ref 69), some (.int l1)] [.int (h 71 l1.toNatClampNeg)] (jG0 sc) h (0, 0)) :
    WP mX10_restsOf Q 9 [some (.ref 69), some (.int l1)] [] (jG0 sc) h (0, 0) := by
  refine j_aload_n (i := 0) rfl dX10_restsOf_9 ?_
  refine j_getR (idx := 15) (ci := 10) (k := 1) (nest := false) (show (10, 15, 10, 1, false) ∈ jFT by decide) rfl (Nat.le_of_ble_eq_true rfl) rfl (a := 71) rfl dX10_restsOf_10 ?_
  refine j_iload_n (i := 1) rfl dX10_restsOf_13 ?_
  refine j_iald (Nat.le_of_ble_eq_true rfl) rfl o1 dX10_restsOf_14 ?_
  refine j_goto (off := 4) 19 dX10_restsOf_15 (by decide) ?_
  exact j_le [some (.ref 69), some (.int l1)] (And.intro rfl (And.intro rfl True.intro)) v1
set_option maxRecDepth 100000 in
theorem bX10_restsOf_18 {sc : Nat × (Nat → Int32)} {h : jH} {Q : jQ} {l1 : Int32}
    (v1 : WP mX10_restsOf Q 19 [some (.ref 69), some (.int l1)] [.int 0] (jG0 sc) h (0, 0)) :
    WP mX10_restsOf Q 18 [some (.ref 69), some (.int l1)] [] (jG0 sc) h (0, 0) := by
  refine j_iconst (n := 0) 0 (by decide) dX10_restsOf_18 ?_
  exact j_le [some (.ref 69), some (.int l1)] (And.intro rfl (And.intro rfl True.intro)) v1
set_option maxRecDepth 100000 in
theorem bX10_restsOf_19 {sc : Nat × (Nat → Int32)} {h : jH} {Q : jQ} {l1 s0 : Int32}
    (v1 : Q (.inl (some (.int s0))) (jG0 sc) h) :
    WP mX10_restsOf Q 19 [some (.ref 69), some (.int l1)] [.int s0] (jG0 sc) h (0, 0) := by
  exact j_iret rfl rfl (Nat.zero_le _) (Nat.zero_le _) dX10_restsOf_19 v1
set_option maxRecDepth 100000 in
theorem rX10_restsOf_0 {sc : Nat × (Nat → Int32)} {h : jH} {Q : jQ} {l1 : Int32}
    (v1 : l1 < 0 → Q (.inl (some (.int 0))) (jG0 sc) h)
    (v2 : ¬ l1 < 0 → 4 ≤ l1 → Q (.inl (some (.int 0))) (jG0 sc) h)
    (o1 : ¬ l1 < 0 → ¬ 4 ≤ l1 → vp_in l1 4)
    (v3 : ¬ l1 < 0 → ¬ 4 ≤ l1 → Q (.inl (some (.int (h 71 l1.toNatClampNeg)))) (jG0 sc) h) :
    WP mX10_restsOf Q 0 [some (.ref 69), some (.int l1)] [] (jG0 sc) h (0, 0) := by
  exact (bX10_restsOf_0 (fun c1 => (bX10_restsOf_18 (bX10_restsOf_19 (v1 c1)))) (fun c1 => (bX10_restsOf_4 (fun c2 => (bX10_restsOf_18 (bX10_restsOf_19 (v2 c1 c2)))) (fun c2 => (bX10_restsOf_9 (o1 c1 c2) (bX10_restsOf_19 (v3 c1 c2)))))))
theorem dX10_valueOf_0 : decode (mC mX10_valueOf) 0 = .ok (.iload_n 1, 1) := by decide +kernel
theorem dX10_valueOf_1 : decode (mC mX10_valueOf) 1 = .ok (.ifCond .lt 15, 3) := by decide +kernel
theorem dX10_valueOf_4 : decode (mC mX10_valueOf) 4 = .ok (.iload_n 1, 1) := by decide +kernel
theorem dX10_valueOf_5 : decode (mC mX10_valueOf) 5 = .ok (.iconst 4, 1) := by decide +kernel
theorem dX10_valueOf_6 : decode (mC mX10_valueOf) 6 = .ok (.if_icmp .ge 10, 3) := by decide +kernel
theorem dX10_valueOf_9 : decode (mC mX10_valueOf) 9 = .ok (.aload_n 0, 1) := by decide +kernel
theorem dX10_valueOf_10 : decode (mC mX10_valueOf) 10 = .ok (.getfield 9, 3) := by decide +kernel
theorem dX10_valueOf_13 : decode (mC mX10_valueOf) 13 = .ok (.iload_n 1, 1) := by decide +kernel
theorem dX10_valueOf_14 : decode (mC mX10_valueOf) 14 = .ok (.iaload, 1) := by decide +kernel
theorem dX10_valueOf_15 : decode (mC mX10_valueOf) 15 = .ok (.ireturn, 1) := by decide +kernel
theorem dX10_valueOf_16 : decode (mC mX10_valueOf) 16 = .ok (.iload_n 1, 1) := by decide +kernel
theorem dX10_valueOf_17 : decode (mC mX10_valueOf) 17 = .ok (.iconst 4, 1) := by decide +kernel
theorem dX10_valueOf_18 : decode (mC mX10_valueOf) 18 = .ok (.if_icmp .ne 8, 3) := by decide +kernel
theorem dX10_valueOf_21 : decode (mC mX10_valueOf) 21 = .ok (.aload_n 0, 1) := by decide +kernel
theorem dX10_valueOf_22 : decode (mC mX10_valueOf) 22 = .ok (.getfield 59, 3) := by decide +kernel
theorem dX10_valueOf_25 : decode (mC mX10_valueOf) 25 = .ok (.ireturn, 1) := by decide +kernel
theorem dX10_valueOf_26 : decode (mC mX10_valueOf) 26 = .ok (.iload_n 1, 1) := by decide +kernel
theorem dX10_valueOf_27 : decode (mC mX10_valueOf) 27 = .ok (.iconst 5, 1) := by decide +kernel
theorem dX10_valueOf_28 : decode (mC mX10_valueOf) 28 = .ok (.if_icmp .ne 10, 3) := by decide +kernel
theorem dX10_valueOf_31 : decode (mC mX10_valueOf) 31 = .ok (.aload_n 0, 1) := by decide +kernel
theorem dX10_valueOf_32 : decode (mC mX10_valueOf) 32 = .ok (.getfield 62, 3) := by decide +kernel
theorem dX10_valueOf_35 : decode (mC mX10_valueOf) 35 = .ok (.goto 7, 3) := by decide +kernel
theorem dX10_valueOf_38 : decode (mC mX10_valueOf) 38 = .ok (.iload_n 1, 1) := by decide +kernel
theorem dX10_valueOf_39 : decode (mC mX10_valueOf) 39 = .ok (.bipush 10, 2) := by decide +kernel
theorem dX10_valueOf_41 : decode (mC mX10_valueOf) 41 = .ok (.isub, 1) := by decide +kernel
theorem dX10_valueOf_42 : decode (mC mX10_valueOf) 42 = .ok (.ireturn, 1) := by decide +kernel
set_option maxRecDepth 100000 in
theorem bX10_valueOf_0 {sc : Nat × (Nat → Int32)} {h : jH} {Q : jQ} {l1 : Int32}
    (v1 : l1 < 0 → WP mX10_valueOf Q 16 [some (.ref 69), some (.int l1)] [] (jG0 sc) h (0, 0))
    (v2 : ¬ l1 < 0 → WP mX10_valueOf Q 4 [some (.ref 69), some (.int l1)] [] (jG0 sc) h (0, 0)) :
    WP mX10_valueOf Q 0 [some (.ref 69), some (.int l1)] [] (jG0 sc) h (0, 0) := by
  refine j_iload_n (i := 1) rfl dX10_valueOf_0 ?_
  refine j_if_lt (off := 15) 16 dX10_valueOf_1 (by decide) (fun c1 => ?_) (fun c1 => ?_)
  · exact j_le [some (.ref 69), some (.int l1)] (And.intro rfl (And.intro rfl True.intro)) (v1 c1)
  · exact j_le [some (.ref 69), some (.int l1)] (And.intro rfl (And.intro rfl True.intro)) (v2 c1)
set_option maxRecDepth 100000 in
theorem bX10_valueOf_4 {sc : Nat × (Nat → Int32)} {h : jH} {Q : jQ} {l1 : Int32}
    (v1 : 4 ≤ l1 → WP mX10_valueOf Q 16 [some (.ref 69), some (.int l1)] [] (jG0 sc) h (0, 0))
    (v2 : ¬ 4 ≤ l1 → WP mX10_valueOf Q 9 [some (.ref 69), some (.int l1)] [] (jG0 sc) h (0, 0)) :
    WP mX10_valueOf Q 4 [some (.ref 69), some (.int l1)] [] (jG0 sc) h (0, 0) := by
  refine j_iload_n (i := 1) rfl dX10_valueOf_4 ?_
  refine j_iconst (n := 4) 4 (by decide) dX10_valueOf_5 ?_
  refine j_icmp_ge (off := 10) 16 dX10_valueOf_6 (by decide) (fun c1 => ?_) (fun c1 => ?_)
  · exact j_le [some (.ref 69), some (.int l1)] (And.intro rfl (And.intro rfl True.intro)) (v1 c1)
  · exact j_le [some (.ref 69), some (.int l1)] (And.intro rfl (And.intro rfl True.intro)) (v2 c1)
set_option maxRecDepth 100000 in
theorem bX10_valueOf_9 {sc : Nat × (Nat → Int32)} {h : jH} {Q : jQ} {l1 : Int32}
    (o1 : vp_in l1 4)
    (v1 : Q (.inl (some (.int (h 70 l1.toNatClampNeg)))) (jG0 sc) h) :
    WP mX10_valueOf Q 9 [some (.ref 69), some (.int l1)] [] (jG0 sc) h (0, 0) := by
  refine j_aload_n (i := 0) rfl dX10_valueOf_9 ?_
  refine j_getR (idx := 9) (ci := 10) (k := 0) (nest := false) (show (10, 9, 10, 0, false) ∈ jFT by decide) rfl (Nat.le_of_ble_eq_true rfl) rfl (a := 70) rfl dX10_valueOf_10 ?_
  refine j_iload_n (i := 1) rfl dX10_valueOf_13 ?_
  refine j_iald (Nat.le_of_ble_eq_true rfl) rfl o1 dX10_valueOf_14 ?_
  exact j_iret rfl rfl (Nat.zero_le _) (Nat.zero_le _) dX10_valueOf_15 v1
set_option maxRecDepth 100000 in
theorem bX10_valueOf_16 {sc : Nat × (Nat → Int32)} {h : jH} {Q : jQ} {l1 : Int32}
    (v1 : ¬ l1 = 4 → WP mX10_valueOf Q 26 [some (.ref 69), some (.int l1)] [] (jG0 sc) h (0, 0))
    (v2 : l1 = 4 → WP mX10_valueOf Q 21 [some (.ref 69), some (.int l1)] [] (jG0 sc) h (0, 0)) :
    WP mX10_valueOf Q 16 [some (.ref 69), some (.int l1)] [] (jG0 sc) h (0, 0) := by
  refine j_iload_n (i := 1) rfl dX10_valueOf_16 ?_
  refine j_iconst (n := 4) 4 (by decide) dX10_valueOf_17 ?_
  refine j_icmp_ne (off := 8) 26 dX10_valueOf_18 (by decide) (fun c1 => ?_) (fun c1 => ?_)
  · exact j_le [some (.ref 69), some (.int l1)] (And.intro rfl (And.intro rfl True.intro)) (v1 c1)
  · exact j_le [some (.ref 69), some (.int l1)] (And.intro rfl (And.intro rfl True.intro)) (v2 c1)
set_option maxRecDepth 100000 in
theorem bX10_valueOf_21 {sc : Nat × (Nat → Int32)} {h : jH} {Q : jQ} {l1 : Int32}
    (v1 : Q (.inl (some (.int (h 69 3)))) (jG0 sc) h) :
    WP mX10_valueOf Q 21 [some (.ref 69), some (.int l1)] [] (jG0 sc) h (0, 0) := by
  refine j_aload_n (i := 0) rfl dX10_valueOf_21 ?_
  refine j_getI (idx := 59) (ci := 10) (k := 3) (nest := false) (show (10, 59, 10, 3, false) ∈ jFT by decide) rfl (Nat.le_of_ble_eq_true rfl) rfl dX10_valueOf_22 ?_
  exact j_iret rfl rfl (Nat.zero_le _) (Nat.zero_le _) dX10_valueOf_25 v1
set_option maxRecDepth 100000 in
theorem bX10_valueOf_26 {sc : Nat × (Nat → Int32)} {h : jH} {Q : jQ} {l1 : Int32}
    (v1 : ¬ l1 = 5 → WP mX10_valueOf Q 38 [some (.ref 69), some (.int l1)] [] (jG0 sc) h (0, 0))
    (v2 : l1 = 5 → WP mX10_valueOf Q 31 [some (.ref 69), some (.int l1)] [] (jG0 sc) h (0, 0)) :
    WP mX10_valueOf Q 26 [some (.ref 69), some (.int l1)] [] (jG0 sc) h (0, 0) := by
  refine j_iload_n (i := 1) rfl dX10_valueOf_26 ?_
  refine j_iconst (n := 5) 5 (by decide) dX10_valueOf_27 ?_
  refine j_icmp_ne (off := 10) 38 dX10_valueOf_28 (by decide) (fun c1 => ?_) (fun c1 => ?_)
  · exact j_le [some (.ref 69), some (.int l1)] (And.intro rfl (And.intro rfl True.intro)) (v1 c1)
  · exact j_le [some (.ref 69), some (.int l1)] (And.intro rfl (And.intro rfl True.intro)) (v2 c1)
set_option maxRecDepth 100000 in
theorem bX10_valueOf_31 {sc : Nat × (Nat → Int32)} {h : jH} {Q : jQ} {l1 : Int32}
    (v1 : WP mX10_valueOf Q 42 [some (.ref 69), some (.int l1)] [.int (h 69 4)] (jG0 sc) h (0, 0)) :
    WP mX10_valueOf Q 31 [some (.ref 69), some (.int l1)] [] (jG0 sc) h (0, 0) := by
  refine j_aload_n (i := 0) rfl dX10_valueOf_31 ?_
  refine j_getI (idx := 62) (ci := 10) (k := 4) (nest := false) (show (10, 62, 10, 4, false) ∈ jFT by decide) rfl (Nat.le_of_ble_eq_true rfl) rfl dX10_valueOf_32 ?_
  refine j_goto (off := 7) 42 dX10_valueOf_35 (by decide) ?_
  exact j_le [some (.ref 69), some (.int l1)] (And.intro rfl (And.intro rfl True.intro)) v1
set_option maxRecDepth 100000 in
theorem bX10_valueOf_38 {sc : Nat × (Nat → Int32)} {h : jH} {Q : jQ} {l1 : Int32}
    (v1 : WP mX10_valueOf Q 42 [some (.ref 69), some (.int l1)] [.int (l1 - 10)] (jG0 sc) h (0, 0)) :
    WP mX10_valueOf Q 38 [some (.ref 69), some (.int l1)] [] (jG0 sc) h (0, 0) := by
  refine j_iload_n (i := 1) rfl dX10_valueOf_38 ?_
  refine j_bipush (n := 10) 10 (by decide) dX10_valueOf_39 ?_
  refine j_isub dX10_valueOf_41 ?_
  exact j_le [some (.ref 69), some (.int l1)] (And.intro rfl (And.intro rfl True.intro)) v1
set_option maxRecDepth 100000 in
theorem bX10_valueOf_42 {sc : Nat × (Nat → Int32)} {h : jH} {Q : jQ} {l1 s0 : Int32}
    (v1 : Q (.inl (some (.int s0))) (jG0 sc) h) :
    WP mX10_valueOf Q 42 [some (.ref 69), some (.int l1)] [.int s0] (jG0 sc) h (0, 0) := by
  exact j_iret rfl rfl (Nat.zero_le _) (Nat.zero_le _) dX10_valueOf_42 v1
set_option maxRecDepth 100000 in
theorem rX10_valueOf_0 {sc : Nat × (Nat → Int32)} {h : jH} {Q : jQ} {l1 : Int32}
    (v1 : l1 < 0 → ¬ l1 = 4 → ¬ l1 = 5 → Q (.inl (some (.int (l1 - 10)))) (jG0 sc) h)
    (v2 : l1 < 0 → ¬ l1 = 4 → l1 = 5 → Q (.inl (some (.int (h 69 4)))) (jG0 sc) h)
    (v3 : l1 < 0 → l1 = 4 → Q (.inl (some (.int (h 69 3)))) (jG0 sc) h)
    (v4 : ¬ l1 < 0 → 4 ≤ l1 → ¬ l1 = 4 → ¬ l1 = 5 → Q (.inl (some (.int (l1 - 10)))) (jG0 sc) h)
    (v5 : ¬ l1 < 0 → 4 ≤ l1 → ¬ l1 = 4 → l1 = 5 → Q (.inl (some (.int (h 69 4)))) (jG0 sc) h)
    (v6 : ¬ l1 < 0 → 4 ≤ l1 → l1 = 4 → Q (.inl (some (.int (h 69 3)))) (jG0 sc) h)
    (o1 : ¬ l1 < 0 → ¬ 4 ≤ l1 → vp_in l1 4)
    (v7 : ¬ l1 < 0 → ¬ 4 ≤ l1 → Q (.inl (some (.int (h 70 l1.toNatClampNeg)))) (jG0 sc) h) :
    WP mX10_valueOf Q 0 [some (.ref 69), some (.int l1)] [] (jG0 sc) h (0, 0) := by
  exact (bX10_valueOf_0 (fun c1 => (bX10_valueOf_16 (fun c2 => (bX10_valueOf_26 (fun c3 => (bX10_valueOf_38 (bX10_valueOf_42 (v1 c1 c2 c3)))) (fun c3 => (bX10_valueOf_31 (bX10_valueOf_42 (v2 c1 c2 c3)))))) (fun c2 => (bX10_valueOf_21 (v3 c1 c2))))) (fun c1 => (bX10_valueOf_4 (fun c4 => (bX10_valueOf_16 (fun c5 => (bX10_valueOf_26 (fun c6 => (bX10_valueOf_38 (bX10_valueOf_42 (v4 c1 c4 c5 c6)))) (fun c6 => (bX10_valueOf_31 (bX10_valueOf_42 (v5 c1 c4 c5 c6)))))) (fun c5 => (bX10_valueOf_21 (v6 c1 c4 c5))))) (fun c4 => (bX10_valueOf_9 (o1 c1 c4) (v7 c1 c4))))))
theorem dX10_holds_0 : decode (mC mX10_holds) 0 = .ok (.aload_n 0, 1) := by decide +kernel
theorem dX10_holds_1 : decode (mC mX10_holds) 1 = .ok (.iload_n 1, 1) := by decide +kernel
theorem dX10_holds_2 : decode (mC mX10_holds) 2 = .ok (.invokevirtual 109, 3) := by decide +kernel
theorem dX10_holds_5 : decode (mC mX10_holds) 5 = .ok (.istore 4, 2) := by decide +kernel
theorem dX10_holds_7 : decode (mC mX10_holds) 7 = .ok (.aload_n 0, 1) := by decide +kernel
theorem dX10_holds_8 : decode (mC mX10_holds) 8 = .ok (.iload_n 3, 1) := by decide +kernel
theorem dX10_holds_9 : decode (mC mX10_holds) 9 = .ok (.invokevirtual 109, 3) := by decide +kernel
theorem dX10_holds_12 : decode (mC mX10_holds) 12 = .ok (.istore 5, 2) := by decide +kernel
theorem dX10_holds_14 : decode (mC mX10_holds) 14 = .ok (.iload_n 2, 1) := by decide +kernel
theorem dX10_holds_15 : decode (mC mX10_holds) 15 = .ok (.bipush 6, 2) := by decide +kernel
theorem dX10_holds_17 : decode (mC mX10_holds) 17 = .ok (.if_icmp .ne 16, 3) := by decide +kernel
theorem dX10_holds_20 : decode (mC mX10_holds) 20 = .ok (.iload 4, 2) := by decide +kernel
theorem dX10_holds_22 : decode (mC mX10_holds) 22 = .ok (.iload 5, 2) := by decide +kernel
theorem dX10_holds_24 : decode (mC mX10_holds) 24 = .ok (.if_icmp .ge 7, 3) := by decide +kernel
theorem dX10_holds_27 : decode (mC mX10_holds) 27 = .ok (.iconst 1, 1) := by decide +kernel
theorem dX10_holds_28 : decode (mC mX10_holds) 28 = .ok (.goto 4, 3) := by decide +kernel
theorem dX10_holds_31 : decode (mC mX10_holds) 31 = .ok (.iconst 0, 1) := by decide +kernel
theorem dX10_holds_32 : decode (mC mX10_holds) 32 = .ok (.ireturn, 1) := by decide +kernel
theorem dX10_holds_33 : decode (mC mX10_holds) 33 = .ok (.iload_n 2, 1) := by decide +kernel
theorem dX10_holds_34 : decode (mC mX10_holds) 34 = .ok (.bipush 7, 2) := by decide +kernel
theorem dX10_holds_36 : decode (mC mX10_holds) 36 = .ok (.if_icmp .ne 18, 3) := by decide +kernel
theorem dX10_holds_39 : decode (mC mX10_holds) 39 = .ok (.iload 4, 2) := by decide +kernel
theorem dX10_holds_41 : decode (mC mX10_holds) 41 = .ok (.iload 5, 2) := by decide +kernel
theorem dX10_holds_43 : decode (mC mX10_holds) 43 = .ok (.if_icmp .le 7, 3) := by decide +kernel
theorem dX10_holds_46 : decode (mC mX10_holds) 46 = .ok (.iconst 1, 1) := by decide +kernel
theorem dX10_holds_47 : decode (mC mX10_holds) 47 = .ok (.goto 19, 3) := by decide +kernel
theorem dX10_holds_50 : decode (mC mX10_holds) 50 = .ok (.iconst 0, 1) := by decide +kernel
theorem dX10_holds_51 : decode (mC mX10_holds) 51 = .ok (.goto 15, 3) := by decide +kernel
theorem dX10_holds_54 : decode (mC mX10_holds) 54 = .ok (.iload 4, 2) := by decide +kernel
theorem dX10_holds_56 : decode (mC mX10_holds) 56 = .ok (.iload 5, 2) := by decide +kernel
theorem dX10_holds_58 : decode (mC mX10_holds) 58 = .ok (.if_icmp .ne 7, 3) := by decide +kernel
theorem dX10_holds_61 : decode (mC mX10_holds) 61 = .ok (.iconst 1, 1) := by decide +kernel
theorem dX10_holds_62 : decode (mC mX10_holds) 62 = .ok (.goto 4, 3) := by decide +kernel
theorem dX10_holds_65 : decode (mC mX10_holds) 65 = .ok (.iconst 0, 1) := by decide +kernel
theorem dX10_holds_66 : decode (mC mX10_holds) 66 = .ok (.ireturn, 1) := by decide +kernel
set_option maxRecDepth 100000 in
theorem bX10_holds_0 {sc : Nat × (Nat → Int32)} {h : jH} {Q : jQ} {l1 l2 l3 : Int32} {P1 : Int32 → jH → Prop} {P2 : Int32 → jH → Prop}
    (k1 : JM mX10_valueOf [.ref 69, .int l1] (jG0 sc) h (jint sc P1))
    (k2 : ∀ (x1 : Int32) (h1 : jH), P1 x1 h1 → JM mX10_valueOf [.ref 69, .int l3] (jG0 sc) h1 (jint sc P2))
    (v1 : ∀ (x1 : Int32) (h1 : jH), P1 x1 h1 → ∀ (x2 : Int32) (h2 : jH), P2 x2 h2 → ¬ l2 = 6 → WP mX10_holds Q 33 [some (.ref 69), some (.int l1), some (.int l2), some (.int l3), some (.int x1), some (.int x2)] [] (jG0 sc) h2 (0, 0))
    (v2 : ∀ (x1 : Int32) (h1 : jH), P1 x1 h1 → ∀ (x2 : Int32) (h2 : jH), P2 x2 h2 → l2 = 6 → WP mX10_holds Q 20 [some (.ref 69), some (.int l1), some (.int l2), some (.int l3), some (.int x1), some (.int x2)] [] (jG0 sc) h2 (0, 0)) :
    WP mX10_holds Q 0 [some (.ref 69), some (.int l1), some (.int l2), some (.int l3), none, none] [] (jG0 sc) h (0, 0) := by
  refine j_aload_n (i := 0) rfl dX10_holds_0 ?_
  refine j_iload_n (i := 1) rfl dX10_holds_1 ?_
  refine j_callV (idx := 109) (As := [.int l1]) (ci := 10) (n := 1) k1 jint_nt (jlkT (jtb3 42 rfl) rfl) sX10_valueOf kX10_valueOf rfl ⟨rfl, by decide +kernel, by decide +kernel, by decide +kernel⟩ rfl ⟨by decide, by decide⟩ (Nat.le_of_ble_eq_true rfl) rfl (Nat.le_of_ble_eq_true rfl) (Nat.le_of_ble_eq_true rfl) ⟨Nat.zero_le _, Nat.zero_le _⟩ dX10_holds_2 (fun r Γ' h1 q => ?_)
  obtain ⟨x1, q0, rfl, p1⟩ := q; cases q0
  refine j_eqst [.int x1] (by rfl) ?_
  refine j_istore (i := 4) dX10_holds_5 (Nat.le_of_ble_eq_true rfl) ?_
  refine j_aload_n (i := 0) rfl dX10_holds_7 ?_
  refine j_iload_n (i := 3) rfl dX10_holds_8 ?_
  refine j_callV (idx := 109) (As := [.int l3]) (ci := 10) (n := 1) (k2 x1 h1 p1) jint_nt (jlkT (jtb3 42 rfl) rfl) sX10_valueOf kX10_valueOf rfl ⟨rfl, by decide +kernel, by decide +kernel, by decide +kernel⟩ rfl ⟨by decide, by decide⟩ (Nat.le_of_ble_eq_true rfl) rfl (Nat.le_of_ble_eq_true rfl) (Nat.le_of_ble_eq_true rfl) ⟨Nat.zero_le _, Nat.zero_le _⟩ dX10_holds_9 (fun r Γ' h2 q => ?_)
  obtain ⟨x2, q0, rfl, p2⟩ := q; cases q0
  refine j_eqst [.int x2] (by rfl) ?_
  refine j_istore (i := 5) dX10_holds_12 (Nat.le_of_ble_eq_true rfl) ?_
  refine j_iload_n (i := 2) rfl dX10_holds_14 ?_
  refine j_bipush (n := 6) 6 (by decide) dX10_holds_15 ?_
  refine j_icmp_ne (off := 16) 33 dX10_holds_17 (by decide) (fun c1 => ?_) (fun c1 => ?_)
  · exact j_le [some (.ref 69), some (.int l1), some (.int l2), some (.int l3), some (.int x1), some (.int x2)] (And.intro rfl (And.intro rfl (And.intro rfl (And.intro rfl (And.intro rfl (And.intro rfl True.intro)))))) (v1 x1 h1 p1 x2 h2 p2 c1)
  · exact j_le [some (.ref 69), some (.int l1), some (.int l2), some (.int l3), some (.int x1), some (.int x2)] (And.intro rfl (And.intro rfl (And.intro rfl (And.intro rfl (And.intro rfl (And.intro rfl True.intro)))))) (v2 x1 h1 p1 x2 h2 p2 c1)
set_option maxRecDepth 100000 in
theorem bX10_holds_20 {sc : Nat × (Nat → Int32)} {h : jH} {Q : jQ} {l1 l2 l3 l4 l5 : Int32}
    (v1 : l5 ≤ l4 → WP mX10_holds Q 31 [some (.ref 69), some (.int l1), some (.int l2), some (.int l3), some (.int l4), some (.int l5)] [] (jG0 sc) h (0, 0))
    (v2 : ¬ l5 ≤ l4 → WP mX10_holds Q 27 [some (.ref 69), some (.int l1), some (.int l2), some (.int l3), some (.int l4), some (.int l5)] [] (jG0 sc) h (0, 0)) :
    WP mX10_holds Q 20 [some (.ref 69), some (.int l1), some (.int l2), some (.int l3), some (.int l4), some (.int l5)] [] (jG0 sc) h (0, 0) := by
  refine j_iload (i := 4) rfl dX10_holds_20 ?_
  refine j_iload (i := 5) rfl dX10_holds_22 ?_
  refine j_icmp_ge (off := 7) 31 dX10_holds_24 (by decide) (fun c1 => ?_) (fun c1 => ?_)
  · exact j_le [some (.ref 69), some (.int l1), some (.int l2), some (.int l3), some (.int l4), some (.int l5)] (And.intro rfl (And.intro rfl (And.intro rfl (And.intro rfl (And.intro rfl (And.intro rfl True.intro)))))) (v1 c1)
  · exact j_le [some (.ref 69), some (.int l1), some (.int l2), some (.int l3), some (.int l4), some (.int l5)] (And.intro rfl (And.intro rfl (And.intro rfl (And.intro rfl (And.intro rfl (And.intro rfl True.intro)))))) (v2 c1)
set_option maxRecDepth 100000 in
theorem bX10_holds_27 {sc : Nat × (Nat → Int32)} {h : jH} {Q : jQ} {l1 l2 l3 l4 l5 : Int32}
    (v1 : WP mX10_holds Q 32 [some (.ref 69), some (.int l1), some (.int l2), some (.int l3), some (.int l4), some (.int l5)] [.int 1] (jG0 sc) h (0, 0)) :
    WP mX10_holds Q 27 [some (.ref 69), some (.int l1), some (.int l2), some (.int l3), some (.int l4), some (.int l5)] [] (jG0 sc) h (0, 0) := by
  refine j_iconst (n := 1) 1 (by decide) dX10_holds_27 ?_
  refine j_goto (off := 4) 32 dX10_holds_28 (by decide) ?_
  exact j_le [some (.ref 69), some (.int l1), some (.int l2), some (.int l3), some (.int l4), some (.int l5)] (And.intro rfl (And.intro rfl (And.intro rfl (And.intro rfl (And.intro rfl (And.intro rfl True.intro)))))) v1
set_option maxRecDepth 100000 in
theorem bX10_holds_31 {sc : Nat × (Nat → Int32)} {h : jH} {Q : jQ} {l1 l2 l3 l4 l5 : Int32}
    (v1 : WP mX10_holds Q 32 [some (.ref 69), some (.int l1), some (.int l2), some (.int l3), some (.int l4), some (.int l5)] [.int 0] (jG0 sc) h (0, 0)) :
    WP mX10_holds Q 31 [some (.ref 69), some (.int l1), some (.int l2), some (.int l3), some (.int l4), some (.int l5)] [] (jG0 sc) h (0, 0) := by
  refine j_iconst (n := 0) 0 (by decide) dX10_holds_31 ?_
  exact j_le [some (.ref 69), some (.int l1), some (.int l2), some (.int l3), some (.int l4), some (.int l5)] (And.intro rfl (And.intro rfl (And.intro rfl (And.intro rfl (And.intro rfl (And.intro rfl True.intro)))))) v1
set_option maxRecDepth 100000 in
theorem bX10_holds_32 {sc : Nat × (Nat → Int32)} {h : jH} {Q : jQ} {l1 l2 l3 l4 l5 s0 : Int32}
    (o1 : s0 = 0 ∨ s0 = 1)
    (v1 : Q (.inl (some (.int s0))) (jG0 sc) h) :
    WP mX10_holds Q 32 [some (.ref 69), some (.int l1), some (.int l2), some (.int l3), some (.int l4), some (.int l5)] [.int s0] (jG0 sc) h (0, 0) := by
  exact j_iret rfl (jbn o1) (Nat.zero_le _) (Nat.zero_le _) dX10_holds_32 v1
set_option maxRecDepth 100000 in
theorem bX10_holds_33 {sc : Nat × (Nat → Int32)} {h : jH} {Q : jQ} {l1 l2 l3 l4 l5 : Int32}
    (v1 : ¬ l2 = 7 → WP mX10_holds Q 54 [some (.ref 69), some (.int l1), some (.int l2), some (.int l3), some (.int l4), some (.int l5)] [] (jG0 sc) h (0, 0))
    (v2 : l2 = 7 → WP mX10_holds Q 39 [some (.ref 69), some (.int l1), some (.int l2), some (.int l3), some (.int l4), some (.int l5)] [] (jG0 sc) h (0, 0)) :
    WP mX10_holds Q 33 [some (.ref 69), some (.int l1), some (.int l2), some (.int l3), some (.int l4), some (.int l5)] [] (jG0 sc) h (0, 0) := by
  refine j_iload_n (i := 2) rfl dX10_holds_33 ?_
  refine j_bipush (n := 7) 7 (by decide) dX10_holds_34 ?_
  refine j_icmp_ne (off := 18) 54 dX10_holds_36 (by decide) (fun c1 => ?_) (fun c1 => ?_)
  · exact j_le [some (.ref 69), some (.int l1), some (.int l2), some (.int l3), some (.int l4), some (.int l5)] (And.intro rfl (And.intro rfl (And.intro rfl (And.intro rfl (And.intro rfl (And.intro rfl True.intro)))))) (v1 c1)
  · exact j_le [some (.ref 69), some (.int l1), some (.int l2), some (.int l3), some (.int l4), some (.int l5)] (And.intro rfl (And.intro rfl (And.intro rfl (And.intro rfl (And.intro rfl (And.intro rfl True.intro)))))) (v2 c1)
set_option maxRecDepth 100000 in
theorem bX10_holds_39 {sc : Nat × (Nat → Int32)} {h : jH} {Q : jQ} {l1 l2 l3 l4 l5 : Int32}
    (v1 : l4 ≤ l5 → WP mX10_holds Q 50 [some (.ref 69), some (.int l1), some (.int l2), some (.int l3), some (.int l4), some (.int l5)] [] (jG0 sc) h (0, 0))
    (v2 : ¬ l4 ≤ l5 → WP mX10_holds Q 46 [some (.ref 69), some (.int l1), some (.int l2), some (.int l3), some (.int l4), some (.int l5)] [] (jG0 sc) h (0, 0)) :
    WP mX10_holds Q 39 [some (.ref 69), some (.int l1), some (.int l2), some (.int l3), some (.int l4), some (.int l5)] [] (jG0 sc) h (0, 0) := by
  refine j_iload (i := 4) rfl dX10_holds_39 ?_
  refine j_iload (i := 5) rfl dX10_holds_41 ?_
  refine j_icmp_le (off := 7) 50 dX10_holds_43 (by decide) (fun c1 => ?_) (fun c1 => ?_)
  · exact j_le [some (.ref 69), some (.int l1), some (.int l2), some (.int l3), some (.int l4), some (.int l5)] (And.intro rfl (And.intro rfl (And.intro rfl (And.intro rfl (And.intro rfl (And.intro rfl True.intro)))))) (v1 c1)
  · exact j_le [some (.ref 69), some (.int l1), some (.int l2), some (.int l3), some (.int l4), some (.int l5)] (And.intro rfl (And.intro rfl (And.intro rfl (And.intro rfl (And.intro rfl (And.intro rfl True.intro)))))) (v2 c1)
set_option maxRecDepth 100000 in
theorem bX10_holds_46 {sc : Nat × (Nat → Int32)} {h : jH} {Q : jQ} {l1 l2 l3 l4 l5 : Int32}
    (v1 : WP mX10_holds Q 66 [some (.ref 69), some (.int l1), some (.int l2), some (.int l3), some (.int l4), some (.int l5)] [.int 1] (jG0 sc) h (0, 0)) :
    WP mX10_holds Q 46 [some (.ref 69), some (.int l1), some (.int l2), some (.int l3), some (.int l4), some (.int l5)] [] (jG0 sc) h (0, 0) := by
  refine j_iconst (n := 1) 1 (by decide) dX10_holds_46 ?_
  refine j_goto (off := 19) 66 dX10_holds_47 (by decide) ?_
  exact j_le [some (.ref 69), some (.int l1), some (.int l2), some (.int l3), some (.int l4), some (.int l5)] (And.intro rfl (And.intro rfl (And.intro rfl (And.intro rfl (And.intro rfl (And.intro rfl True.intro)))))) v1
set_option maxRecDepth 100000 in
theorem bX10_holds_50 {sc : Nat × (Nat → Int32)} {h : jH} {Q : jQ} {l1 l2 l3 l4 l5 : Int32}
    (v1 : WP mX10_holds Q 66 [some (.ref 69), some (.int l1), some (.int l2), some (.int l3), some (.int l4), some (.int l5)] [.int 0] (jG0 sc) h (0, 0)) :
    WP mX10_holds Q 50 [some (.ref 69), some (.int l1), some (.int l2), some (.int l3), some (.int l4), some (.int l5)] [] (jG0 sc) h (0, 0) := by
  refine j_iconst (n := 0) 0 (by decide) dX10_holds_50 ?_
  refine j_goto (off := 15) 66 dX10_holds_51 (by decide) ?_
  exact j_le [some (.ref 69), some (.int l1), some (.int l2), some (.int l3), some (.int l4), some (.int l5)] (And.intro rfl (And.intro rfl (And.intro rfl (And.intro rfl (And.intro rfl (And.intro rfl True.intro)))))) v1
set_option maxRecDepth 100000 in
theorem bX10_holds_54 {sc : Nat × (Nat → Int32)} {h : jH} {Q : jQ} {l1 l2 l3 l4 l5 : Int32}
    (v1 : ¬ l4 = l5 → WP mX10_holds Q 65 [some (.ref 69), some (.int l1), some (.int l2), some (.int l3), some (.int l4), some (.int l5)] [] (jG0 sc) h (0, 0))
    (v2 : l4 = l5 → WP mX10_holds Q 61 [some (.ref 69), some (.int l1), some (.int l2), some (.int l3), some (.int l4), some (.int l5)] [] (jG0 sc) h (0, 0)) :
    WP mX10_holds Q 54 [some (.ref 69), some (.int l1), some (.int l2), some (.int l3), some (.int l4), some (.int l5)] [] (jG0 sc) h (0, 0) := by
  refine j_iload (i := 4) rfl dX10_holds_54 ?_
  refine j_iload (i := 5) rfl dX10_holds_56 ?_
  refine j_icmp_ne (off := 7) 65 dX10_holds_58 (by decide) (fun c1 => ?_) (fun c1 => ?_)
  · exact j_le [some (.ref 69), some (.int l1), some (.int l2), some (.int l3), some (.int l4), some (.int l5)] (And.intro rfl (And.intro rfl (And.intro rfl (And.intro rfl (And.intro rfl (And.intro rfl True.intro)))))) (v1 c1)
  · exact j_le [some (.ref 69), some (.int l1), some (.int l2), some (.int l3), some (.int l4), some (.int l5)] (And.intro rfl (And.intro rfl (And.intro rfl (And.intro rfl (And.intro rfl (And.intro rfl True.intro)))))) (v2 c1)
set_option maxRecDepth 100000 in
theorem bX10_holds_61 {sc : Nat × (Nat → Int32)} {h : jH} {Q : jQ} {l1 l2 l3 l4 l5 : Int32}
    (v1 : WP mX10_holds Q 66 [some (.ref 69), some (.int l1), some (.int l2), some (.int l3), some (.int l4), some (.int l5)] [.int 1] (jG0 sc) h (0, 0)) :
    WP mX10_holds Q 61 [some (.ref 69), some (.int l1), some (.int l2), some (.int l3), some (.int l4), some (.int l5)] [] (jG0 sc) h (0, 0) := by
  refine j_iconst (n := 1) 1 (by decide) dX10_holds_61 ?_
  refine j_goto (off := 4) 66 dX10_holds_62 (by decide) ?_
  exact j_le [some (.ref 69), some (.int l1), some (.int l2), some (.int l3), some (.int l4), some (.int l5)] (And.intro rfl (And.intro rfl (And.intro rfl (And.intro rfl (And.intro rfl (And.intro rfl True.intro)))))) v1
set_option maxRecDepth 100000 in
theorem bX10_holds_65 {sc : Nat × (Nat → Int32)} {h : jH} {Q : jQ} {l1 l2 l3 l4 l5 : Int32}
    (v1 : WP mX10_holds Q 66 [some (.ref 69), some (.int l1), some (.int l2), some (.int l3), some (.int l4), some (.int l5)] [.int 0] (jG0 sc) h (0, 0)) :
    WP mX10_holds Q 65 [some (.ref 69), some (.int l1), some (.int l2), some (.int l3), some (.int l4), some (.int l5)] [] (jG0 sc) h (0, 0) := by
  refine j_iconst (n := 0) 0 (by decide) dX10_holds_65 ?_
  exact j_le [some (.ref 69), some (.int l1), some (.int l2), some (.int l3), some (.int l4), some (.int l5)] (And.intro rfl (And.intro rfl (And.intro rfl (And.intro rfl (And.intro rfl (And.intro rfl True.intro)))))) v1
set_option maxRecDepth 100000 in
theorem bX10_holds_66 {sc : Nat × (Nat → Int32)} {h : jH} {Q : jQ} {l1 l2 l3 l4 l5 s0 : Int32}
    (o1 : s0 = 0 ∨ s0 = 1)
    (v1 : Q (.inl (some (.int s0))) (jG0 sc) h) :
    WP mX10_holds Q 66 [some (.ref 69), some (.int l1), some (.int l2), some (.int l3), some (.int l4), some (.int l5)] [.int s0] (jG0 sc) h (0, 0) := by
  exact j_iret rfl (jbn o1) (Nat.zero_le _) (Nat.zero_le _) dX10_holds_66 v1
set_option maxRecDepth 100000 in
theorem rX10_holds_0 {sc : Nat × (Nat → Int32)} {h : jH} {Q : jQ} {l1 l2 l3 : Int32} {P1 : Int32 → jH → Prop} {P2 : Int32 → jH → Prop}
    (k1 : JM mX10_valueOf [.ref 69, .int l1] (jG0 sc) h (jint sc P1))
    (k2 : ∀ (x1 : Int32) (h1 : jH), P1 x1 h1 → JM mX10_valueOf [.ref 69, .int l3] (jG0 sc) h1 (jint sc P2))
    (v1 : ∀ (x1 : Int32) (h1 : jH), P1 x1 h1 → ∀ (x2 : Int32) (h2 : jH), P2 x2 h2 → ¬ l2 = 6 → ¬ l2 = 7 → ¬ x1 = x2 → Q (.inl (some (.int 0))) (jG0 sc) h2)
    (v2 : ∀ (x1 : Int32) (h1 : jH), P1 x1 h1 → ∀ (x2 : Int32) (h2 : jH), P2 x2 h2 → ¬ l2 = 6 → ¬ l2 = 7 → x1 = x2 → Q (.inl (some (.int 1))) (jG0 sc) h2)
    (v3 : ∀ (x1 : Int32) (h1 : jH), P1 x1 h1 → ∀ (x2 : Int32) (h2 : jH), P2 x2 h2 → ¬ l2 = 6 → l2 = 7 → x1 ≤ x2 → Q (.inl (some (.int 0))) (jG0 sc) h2)
    (v4 : ∀ (x1 : Int32) (h1 : jH), P1 x1 h1 → ∀ (x2 : Int32) (h2 : jH), P2 x2 h2 → ¬ l2 = 6 → l2 = 7 → ¬ x1 ≤ x2 → Q (.inl (some (.int 1))) (jG0 sc) h2)
    (v5 : ∀ (x1 : Int32) (h1 : jH), P1 x1 h1 → ∀ (x2 : Int32) (h2 : jH), P2 x2 h2 → l2 = 6 → x2 ≤ x1 → Q (.inl (some (.int 0))) (jG0 sc) h2)
    (v6 : ∀ (x1 : Int32) (h1 : jH), P1 x1 h1 → ∀ (x2 : Int32) (h2 : jH), P2 x2 h2 → l2 = 6 → ¬ x2 ≤ x1 → Q (.inl (some (.int 1))) (jG0 sc) h2) :
    WP mX10_holds Q 0 [some (.ref 69), some (.int l1), some (.int l2), some (.int l3), none, none] [] (jG0 sc) h (0, 0) := by
  exact (bX10_holds_0 k1 (fun x1 h1 p1 => (k2 x1 h1 p1)) (fun x1 h1 p1 x2 h2 p2 c1 => (bX10_holds_33 (fun c2 => (bX10_holds_54 (fun c3 => (bX10_holds_65 (bX10_holds_66 (by decide) (v1 x1 h1 p1 x2 h2 p2 c1 c2 c3)))) (fun c3 => (bX10_holds_61 (bX10_holds_66 (by decide) (v2 x1 h1 p1 x2 h2 p2 c1 c2 c3)))))) (fun c2 => (bX10_holds_39 (fun c4 => (bX10_holds_50 (bX10_holds_66 (by decide) (v3 x1 h1 p1 x2 h2 p2 c1 c2 c4)))) (fun c4 => (bX10_holds_46 (bX10_holds_66 (by decide) (v4 x1 h1 p1 x2 h2 p2 c1 c2 c4)))))))) (fun x1 h1 p1 x2 h2 p2 c1 => (bX10_holds_20 (fun c5 => (bX10_holds_31 (bX10_holds_32 (by decide) (v5 x1 h1 p1 x2 h2 p2 c1 c5)))) (fun c5 => (bX10_holds_27 (bX10_holds_32 (by decide) (v6 x1 h1 p1 x2 h2 p2 c1 c5)))))))
theorem dX10_sumOf_0 : decode (mC mX10_sumOf) 0 = .ok (.aload_n 0, 1) := by decide +kernel
theorem dX10_sumOf_1 : decode (mC mX10_sumOf) 1 = .ok (.iload_n 1, 1) := by decide +kernel
theorem dX10_sumOf_2 : decode (mC mX10_sumOf) 2 = .ok (.invokevirtual 109, 3) := by decide +kernel
theorem dX10_sumOf_5 : decode (mC mX10_sumOf) 5 = .ok (.i2l, 1) := by decide +kernel
theorem dX10_sumOf_6 : decode (mC mX10_sumOf) 6 = .ok (.lstore 4, 2) := by decide +kernel
theorem dX10_sumOf_8 : decode (mC mX10_sumOf) 8 = .ok (.aload_n 0, 1) := by decide +kernel
theorem dX10_sumOf_9 : decode (mC mX10_sumOf) 9 = .ok (.iload_n 3, 1) := by decide +kernel
theorem dX10_sumOf_10 : decode (mC mX10_sumOf) 10 = .ok (.invokevirtual 109, 3) := by decide +kernel
theorem dX10_sumOf_13 : decode (mC mX10_sumOf) 13 = .ok (.i2l, 1) := by decide +kernel
theorem dX10_sumOf_14 : decode (mC mX10_sumOf) 14 = .ok (.lstore 6, 2) := by decide +kernel
theorem dX10_sumOf_16 : decode (mC mX10_sumOf) 16 = .ok (.lload 4, 2) := by decide +kernel
theorem dX10_sumOf_18 : decode (mC mX10_sumOf) 18 = .ok (.lstore 8, 2) := by decide +kernel
theorem dX10_sumOf_20 : decode (mC mX10_sumOf) 20 = .ok (.iload_n 2, 1) := by decide +kernel
theorem dX10_sumOf_21 : decode (mC mX10_sumOf) 21 = .ok (.iconst 1, 1) := by decide +kernel
theorem dX10_sumOf_22 : decode (mC mX10_sumOf) 22 = .ok (.if_icmp .ne 13, 3) := by decide +kernel
theorem dX10_sumOf_25 : decode (mC mX10_sumOf) 25 = .ok (.lload 4, 2) := by decide +kernel
theorem dX10_sumOf_27 : decode (mC mX10_sumOf) 27 = .ok (.lload 6, 2) := by decide +kernel
theorem dX10_sumOf_29 : decode (mC mX10_sumOf) 29 = .ok (.ladd, 1) := by decide +kernel
theorem dX10_sumOf_30 : decode (mC mX10_sumOf) 30 = .ok (.lstore 8, 2) := by decide +kernel
theorem dX10_sumOf_32 : decode (mC mX10_sumOf) 32 = .ok (.goto 73, 3) := by decide +kernel
theorem dX10_sumOf_35 : decode (mC mX10_sumOf) 35 = .ok (.iload_n 2, 1) := by decide +kernel
theorem dX10_sumOf_36 : decode (mC mX10_sumOf) 36 = .ok (.iconst 2, 1) := by decide +kernel
theorem dX10_sumOf_37 : decode (mC mX10_sumOf) 37 = .ok (.if_icmp .ne 13, 3) := by decide +kernel
theorem dX10_sumOf_40 : decode (mC mX10_sumOf) 40 = .ok (.lload 4, 2) := by decide +kernel
theorem dX10_sumOf_42 : decode (mC mX10_sumOf) 42 = .ok (.lload 6, 2) := by decide +kernel
theorem dX10_sumOf_44 : decode (mC mX10_sumOf) 44 = .ok (.lsub, 1) := by decide +kernel
theorem dX10_sumOf_45 : decode (mC mX10_sumOf) 45 = .ok (.lstore 8, 2) := by decide +kernel
theorem dX10_sumOf_47 : decode (mC mX10_sumOf) 47 = .ok (.goto 58, 3) := by decide +kernel
theorem dX10_sumOf_50 : decode (mC mX10_sumOf) 50 = .ok (.iload_n 2, 1) := by decide +kernel
theorem dX10_sumOf_51 : decode (mC mX10_sumOf) 51 = .ok (.iconst 3, 1) := by decide +kernel
theorem dX10_sumOf_52 : decode (mC mX10_sumOf) 52 = .ok (.if_icmp .ne 13, 3) := by decide +kernel
theorem dX10_sumOf_55 : decode (mC mX10_sumOf) 55 = .ok (.lload 4, 2) := by decide +kernel
theorem dX10_sumOf_57 : decode (mC mX10_sumOf) 57 = .ok (.lload 6, 2) := by decide +kernel
theorem dX10_sumOf_59 : decode (mC mX10_sumOf) 59 = .ok (.lmul, 1) := by decide +kernel
theorem dX10_sumOf_60 : decode (mC mX10_sumOf) 60 = .ok (.lstore 8, 2) := by decide +kernel
theorem dX10_sumOf_62 : decode (mC mX10_sumOf) 62 = .ok (.goto 43, 3) := by decide +kernel
theorem dX10_sumOf_65 : decode (mC mX10_sumOf) 65 = .ok (.iload_n 2, 1) := by decide +kernel
theorem dX10_sumOf_66 : decode (mC mX10_sumOf) 66 = .ok (.iconst 4, 1) := by decide +kernel
theorem dX10_sumOf_67 : decode (mC mX10_sumOf) 67 = .ok (.if_icmp .eq 8, 3) := by decide +kernel
theorem dX10_sumOf_70 : decode (mC mX10_sumOf) 70 = .ok (.iload_n 2, 1) := by decide +kernel
theorem dX10_sumOf_71 : decode (mC mX10_sumOf) 71 = .ok (.iconst 5, 1) := by decide +kernel
theorem dX10_sumOf_72 : decode (mC mX10_sumOf) 72 = .ok (.if_icmp .ne 33, 3) := by decide +kernel
theorem dX10_sumOf_75 : decode (mC mX10_sumOf) 75 = .ok (.lload 6, 2) := by decide +kernel
theorem dX10_sumOf_77 : decode (mC mX10_sumOf) 77 = .ok (.lconst 0, 1) := by decide +kernel
theorem dX10_sumOf_78 : decode (mC mX10_sumOf) 78 = .ok (.lcmp, 1) := by decide +kernel
theorem dX10_sumOf_79 : decode (mC mX10_sumOf) 79 = .ok (.ifCond .ne 6, 3) := by decide +kernel
theorem dX10_sumOf_82 : decode (mC mX10_sumOf) 82 = .ok (.ldc 112, 2) := by decide +kernel
theorem dX10_sumOf_84 : decode (mC mX10_sumOf) 84 = .ok (.ireturn, 1) := by decide +kernel
theorem dX10_sumOf_85 : decode (mC mX10_sumOf) 85 = .ok (.iload_n 2, 1) := by decide +kernel
theorem dX10_sumOf_86 : decode (mC mX10_sumOf) 86 = .ok (.iconst 4, 1) := by decide +kernel
theorem dX10_sumOf_87 : decode (mC mX10_sumOf) 87 = .ok (.if_icmp .ne 11, 3) := by decide +kernel
theorem dX10_sumOf_90 : decode (mC mX10_sumOf) 90 = .ok (.lload 4, 2) := by decide +kernel
theorem dX10_sumOf_92 : decode (mC mX10_sumOf) 92 = .ok (.lload 6, 2) := by decide +kernel
theorem dX10_sumOf_94 : decode (mC mX10_sumOf) 94 = .ok (.ldiv, 1) := by decide +kernel
theorem dX10_sumOf_95 : decode (mC mX10_sumOf) 95 = .ok (.goto 8, 3) := by decide +kernel
theorem dX10_sumOf_98 : decode (mC mX10_sumOf) 98 = .ok (.lload 4, 2) := by decide +kernel
theorem dX10_sumOf_100 : decode (mC mX10_sumOf) 100 = .ok (.lload 6, 2) := by decide +kernel
theorem dX10_sumOf_102 : decode (mC mX10_sumOf) 102 = .ok (.lrem, 1) := by decide +kernel
theorem dX10_sumOf_103 : decode (mC mX10_sumOf) 103 = .ok (.lstore 8, 2) := by decide +kernel
theorem dX10_sumOf_105 : decode (mC mX10_sumOf) 105 = .ok (.lload 8, 2) := by decide +kernel
theorem dX10_sumOf_107 : decode (mC mX10_sumOf) 107 = .ok (.ldc2_w 113, 3) := by decide +kernel
theorem dX10_sumOf_110 : decode (mC mX10_sumOf) 110 = .ok (.lcmp, 1) := by decide +kernel
theorem dX10_sumOf_111 : decode (mC mX10_sumOf) 111 = .ok (.ifCond .gt 12, 3) := by decide +kernel
theorem dX10_sumOf_114 : decode (mC mX10_sumOf) 114 = .ok (.lload 8, 2) := by decide +kernel
theorem dX10_sumOf_116 : decode (mC mX10_sumOf) 116 = .ok (.ldc2_w 115, 3) := by decide +kernel
theorem dX10_sumOf_119 : decode (mC mX10_sumOf) 119 = .ok (.lcmp, 1) := by decide +kernel
theorem dX10_sumOf_120 : decode (mC mX10_sumOf) 120 = .ok (.ifCond .ge 8, 3) := by decide +kernel
theorem dX10_sumOf_123 : decode (mC mX10_sumOf) 123 = .ok (.ldc 117, 2) := by decide +kernel
theorem dX10_sumOf_125 : decode (mC mX10_sumOf) 125 = .ok (.goto 6, 3) := by decide +kernel
theorem dX10_sumOf_128 : decode (mC mX10_sumOf) 128 = .ok (.lload 8, 2) := by decide +kernel
theorem dX10_sumOf_130 : decode (mC mX10_sumOf) 130 = .ok (.l2i, 1) := by decide +kernel
theorem dX10_sumOf_131 : decode (mC mX10_sumOf) 131 = .ok (.ireturn, 1) := by decide +kernel
set_option maxRecDepth 100000 in
theorem bX10_sumOf_0 {sc : Nat × (Nat → Int32)} {h : jH} {Q : jQ} {l1 l2 l3 : Int32} {P1 : Int32 → jH → Prop} {P2 : Int32 → jH → Prop}
    (k1 : JM mX10_valueOf [.ref 69, .int l1] (jG0 sc) h (jint sc P1))
    (k2 : ∀ (x1 : Int32) (h1 : jH), P1 x1 h1 → JM mX10_valueOf [.ref 69, .int l3] (jG0 sc) h1 (jint sc P2))
    (v1 : ∀ (x1 : Int32) (h1 : jH), P1 x1 h1 → ∀ (x2 : Int32) (h2 : jH), P2 x2 h2 → ¬ l2 = 1 → WP mX10_sumOf Q 35 [some (.ref 69), some (.int l1), some (.int l2), some (.int l3), some (.long (Int32.toInt64 x1)), none, some (.long (Int32.toInt64 x2)), none, some (.long (Int32.toInt64 x1)), none] [] (jG0 sc) h2 (0, 0))
    (v2 : ∀ (x1 : Int32) (h1 : jH), P1 x1 h1 → ∀ (x2 : Int32) (h2 : jH), P2 x2 h2 → l2 = 1 → WP mX10_sumOf Q 25 [some (.ref 69), some (.int l1), some (.int l2), some (.int l3), some (.long (Int32.toInt64 x1)), none, some (.long (Int32.toInt64 x2)), none, some (.long (Int32.toInt64 x1)), none] [] (jG0 sc) h2 (0, 0)) :
    WP mX10_sumOf Q 0 [some (.ref 69), some (.int l1), some (.int l2), some (.int l3), none, none, none, none, none, none] [] (jG0 sc) h (0, 0) := by
  refine j_aload_n (i := 0) rfl dX10_sumOf_0 ?_
  refine j_iload_n (i := 1) rfl dX10_sumOf_1 ?_
  refine j_callV (idx := 109) (As := [.int l1]) (ci := 10) (n := 1) k1 jint_nt (jlkT (jtb3 42 rfl) rfl) sX10_valueOf kX10_valueOf rfl ⟨rfl, by decide +kernel, by decide +kernel, by decide +kernel⟩ rfl ⟨by decide, by decide⟩ (Nat.le_of_ble_eq_true rfl) rfl (Nat.le_of_ble_eq_true rfl) (Nat.le_of_ble_eq_true rfl) ⟨Nat.zero_le _, Nat.zero_le _⟩ dX10_sumOf_2 (fun r Γ' h1 q => ?_)
  obtain ⟨x1, q0, rfl, p1⟩ := q; cases q0
  refine j_eqst [.int x1] (by rfl) ?_
  refine j_i2l dX10_sumOf_5 ?_
  refine j_lstore (i := 4) dX10_sumOf_6 (Nat.le_of_ble_eq_true rfl) ?_
  refine j_aload_n (i := 0) rfl dX10_sumOf_8 ?_
  refine j_iload_n (i := 3) rfl dX10_sumOf_9 ?_
  refine j_callV (idx := 109) (As := [.int l3]) (ci := 10) (n := 1) (k2 x1 h1 p1) jint_nt (jlkT (jtb3 42 rfl) rfl) sX10_valueOf kX10_valueOf rfl ⟨rfl, by decide +kernel, by decide +kernel, by decide +kernel⟩ rfl ⟨by decide, by decide⟩ (Nat.le_of_ble_eq_true rfl) rfl (Nat.le_of_ble_eq_true rfl) (Nat.le_of_ble_eq_true rfl) ⟨Nat.zero_le _, Nat.zero_le _⟩ dX10_sumOf_10 (fun r Γ' h2 q => ?_)
  obtain ⟨x2, q0, rfl, p2⟩ := q; cases q0
  refine j_eqst [.int x2] (by rfl) ?_
  refine j_i2l dX10_sumOf_13 ?_
  refine j_lstore (i := 6) dX10_sumOf_14 (Nat.le_of_ble_eq_true rfl) ?_
  refine j_lload (i := 4) rfl dX10_sumOf_16 ?_
  refine j_lstore (i := 8) dX10_sumOf_18 (Nat.le_of_ble_eq_true rfl) ?_
  refine j_iload_n (i := 2) rfl dX10_sumOf_20 ?_
  refine j_iconst (n := 1) 1 (by decide) dX10_sumOf_21 ?_
  refine j_icmp_ne (off := 13) 35 dX10_sumOf_22 (by decide) (fun c1 => ?_) (fun c1 => ?_)
  · exact j_le [some (.ref 69), some (.int l1), some (.int l2), some (.int l3), some (.long (Int32.toInt64 x1)), none, some (.long (Int32.toInt64 x2)), none, some (.long (Int32.toInt64 x1)), none] (And.intro rfl (And.intro rfl (And.intro rfl (And.intro rfl (And.intro rfl (And.intro rfl (And.intro rfl True.intro))))))) (v1 x1 h1 p1 x2 h2 p2 c1)
  · exact j_le [some (.ref 69), some (.int l1), some (.int l2), some (.int l3), some (.long (Int32.toInt64 x1)), none, some (.long (Int32.toInt64 x2)), none, some (.long (Int32.toInt64 x1)), none] (And.intro rfl (And.intro rfl (And.intro rfl (And.intro rfl (And.intro rfl (And.intro rfl (And.intro rfl True.intro))))))) (v2 x1 h1 p1 x2 h2 p2 c1)
set_option maxRecDepth 100000 in
theorem bX10_sumOf_25 {sc : Nat × (Nat → Int32)} {h : jH} {Q : jQ} {l1 l2 l3 : Int32} {l4 l6 l8 : Int64}
    (v1 : WP mX10_sumOf Q 105 [some (.ref 69), some (.int l1), some (.int l2), some (.int l3), some (.long l4), none, some (.long l6), none, some (.long (l4 + l6)), none] [] (jG0 sc) h (0, 0)) :
    WP mX10_sumOf Q 25 [some (.ref 69), some (.int l1), some (.int l2), some (.int l3), some (.long l4), none, some (.long l6), none, some (.long l8), none] [] (jG0 sc) h (0, 0) := by
  refine j_lload (i := 4) rfl dX10_sumOf_25 ?_
  refine j_lload (i := 6) rfl dX10_sumOf_27 ?_
  refine j_ladd dX10_sumOf_29 ?_
  refine j_lstore (i := 8) dX10_sumOf_30 (Nat.le_of_ble_eq_true rfl) ?_
  refine j_goto (off := 73) 105 dX10_sumOf_32 (by decide) ?_
  exact j_le [some (.ref 69), some (.int l1), some (.int l2), some (.int l3), some (.long l4), none, some (.long l6), none, some (.long (l4 + l6)), none] (And.intro rfl (And.intro rfl (And.intro rfl (And.intro rfl (And.intro rfl (And.intro rfl (And.intro rfl True.intro))))))) v1
set_option maxRecDepth 100000 in
theorem bX10_sumOf_35 {sc : Nat × (Nat → Int32)} {h : jH} {Q : jQ} {l1 l2 l3 : Int32} {l4 l6 l8 : Int64}
    (v1 : ¬ l2 = 2 → WP mX10_sumOf Q 50 [some (.ref 69), some (.int l1), some (.int l2), some (.int l3), some (.long l4), none, some (.long l6), none, some (.long l8), none] [] (jG0 sc) h (0, 0))
    (v2 : l2 = 2 → WP mX10_sumOf Q 40 [some (.ref 69), some (.int l1), some (.int l2), some (.int l3), some (.long l4), none, some (.long l6), none, some (.long l8), none] [] (jG0 sc) h (0, 0)) :
    WP mX10_sumOf Q 35 [some (.ref 69), some (.int l1), some (.int l2), some (.int l3), some (.long l4), none, some (.long l6), none, some (.long l8), none] [] (jG0 sc) h (0, 0) := by
  refine j_iload_n (i := 2) rfl dX10_sumOf_35 ?_
  refine j_iconst (n := 2) 2 (by decide) dX10_sumOf_36 ?_
  refine j_icmp_ne (off := 13) 50 dX10_sumOf_37 (by decide) (fun c1 => ?_) (fun c1 => ?_)
  · exact j_le [some (.ref 69), some (.int l1), some (.int l2), some (.int l3), some (.long l4), none, some (.long l6), none, some (.long l8), none] (And.intro rfl (And.intro rfl (And.intro rfl (And.intro rfl (And.intro rfl (And.intro rfl (And.intro rfl True.intro))))))) (v1 c1)
  · exact j_le [some (.ref 69), some (.int l1), some (.int l2), some (.int l3), some (.long l4), none, some (.long l6), none, some (.long l8), none] (And.intro rfl (And.intro rfl (And.intro rfl (And.intro rfl (And.intro rfl (And.intro rfl (And.intro rfl True.intro))))))) (v2 c1)
set_option maxRecDepth 100000 in
theorem bX10_sumOf_40 {sc : Nat × (Nat → Int32)} {h : jH} {Q : jQ} {l1 l2 l3 : Int32} {l4 l6 l8 : Int64}
    (v1 : WP mX10_sumOf Q 105 [some (.ref 69), some (.int l1), some (.int l2), some (.int l3), some (.long l4), none, some (.long l6), none, some (.long (l4 - l6)), none] [] (jG0 sc) h (0, 0)) :
    WP mX10_sumOf Q 40 [some (.ref 69), some (.int l1), some (.int l2), some (.int l3), some (.long l4), none, some (.long l6), none, some (.long l8), none] [] (jG0 sc) h (0, 0) := by
  refine j_lload (i := 4) rfl dX10_sumOf_40 ?_
  refine j_lload (i := 6) rfl dX10_sumOf_42 ?_
  refine j_lsub dX10_sumOf_44 ?_
  refine j_lstore (i := 8) dX10_sumOf_45 (Nat.le_of_ble_eq_true rfl) ?_
  refine j_goto (off := 58) 105 dX10_sumOf_47 (by decide) ?_
  exact j_le [some (.ref 69), some (.int l1), some (.int l2), some (.int l3), some (.long l4), none, some (.long l6), none, some (.long (l4 - l6)), none] (And.intro rfl (And.intro rfl (And.intro rfl (And.intro rfl (And.intro rfl (And.intro rfl (And.intro rfl True.intro))))))) v1
set_option maxRecDepth 100000 in
theorem bX10_sumOf_50 {sc : Nat × (Nat → Int32)} {h : jH} {Q : jQ} {l1 l2 l3 : Int32} {l4 l6 l8 : Int64}
    (v1 : ¬ l2 = 3 → WP mX10_sumOf Q 65 [some (.ref 69), some (.int l1), some (.int l2), some (.int l3), some (.long l4), none, some (.long l6), none, some (.long l8), none] [] (jG0 sc) h (0, 0))
    (v2 : l2 = 3 → WP mX10_sumOf Q 55 [some (.ref 69), some (.int l1), some (.int l2), some (.int l3), some (.long l4), none, some (.long l6), none, some (.long l8), none] [] (jG0 sc) h (0, 0)) :
    WP mX10_sumOf Q 50 [some (.ref 69), some (.int l1), some (.int l2), some (.int l3), some (.long l4), none, some (.long l6), none, some (.long l8), none] [] (jG0 sc) h (0, 0) := by
  refine j_iload_n (i := 2) rfl dX10_sumOf_50 ?_
  refine j_iconst (n := 3) 3 (by decide) dX10_sumOf_51 ?_
  refine j_icmp_ne (off := 13) 65 dX10_sumOf_52 (by decide) (fun c1 => ?_) (fun c1 => ?_)
  · exact j_le [some (.ref 69), some (.int l1), some (.int l2), some (.int l3), some (.long l4), none, some (.long l6), none, some (.long l8), none] (And.intro rfl (And.intro rfl (And.intro rfl (And.intro rfl (And.intro rfl (And.intro rfl (And.intro rfl True.intro))))))) (v1 c1)
  · exact j_le [some (.ref 69), some (.int l1), some (.int l2), some (.int l3), some (.long l4), none, some (.long l6), none, some (.long l8), none] (And.intro rfl (And.intro rfl (And.intro rfl (And.intro rfl (And.intro rfl (And.intro rfl (And.intro rfl True.intro))))))) (v2 c1)
set_option maxRecDepth 100000 in
theorem bX10_sumOf_55 {sc : Nat × (Nat → Int32)} {h : jH} {Q : jQ} {l1 l2 l3 : Int32} {l4 l6 l8 : Int64}
    (v1 : WP mX10_sumOf Q 105 [some (.ref 69), some (.int l1), some (.int l2), some (.int l3), some (.long l4), none, some (.long l6), none, some (.long (l4 * l6)), none] [] (jG0 sc) h (0, 0)) :
    WP mX10_sumOf Q 55 [some (.ref 69), some (.int l1), some (.int l2), some (.int l3), some (.long l4), none, some (.long l6), none, some (.long l8), none] [] (jG0 sc) h (0, 0) := by
  refine j_lload (i := 4) rfl dX10_sumOf_55 ?_
  refine j_lload (i := 6) rfl dX10_sumOf_57 ?_
  refine j_lmul dX10_sumOf_59 ?_
  refine j_lstore (i := 8) dX10_sumOf_60 (Nat.le_of_ble_eq_true rfl) ?_
  refine j_goto (off := 43) 105 dX10_sumOf_62 (by decide) ?_
  exact j_le [some (.ref 69), some (.int l1), some (.int l2), some (.int l3), some (.long l4), none, some (.long l6), none, some (.long (l4 * l6)), none] (And.intro rfl (And.intro rfl (And.intro rfl (And.intro rfl (And.intro rfl (And.intro rfl (And.intro rfl True.intro))))))) v1
set_option maxRecDepth 100000 in
theorem bX10_sumOf_65 {sc : Nat × (Nat → Int32)} {h : jH} {Q : jQ} {l1 l2 l3 : Int32} {l4 l6 l8 : Int64}
    (v1 : l2 = 4 → WP mX10_sumOf Q 75 [some (.ref 69), some (.int l1), some (.int l2), some (.int l3), some (.long l4), none, some (.long l6), none, some (.long l8), none] [] (jG0 sc) h (0, 0))
    (v2 : ¬ l2 = 4 → WP mX10_sumOf Q 70 [some (.ref 69), some (.int l1), some (.int l2), some (.int l3), some (.long l4), none, some (.long l6), none, some (.long l8), none] [] (jG0 sc) h (0, 0)) :
    WP mX10_sumOf Q 65 [some (.ref 69), some (.int l1), some (.int l2), some (.int l3), some (.long l4), none, some (.long l6), none, some (.long l8), none] [] (jG0 sc) h (0, 0) := by
  refine j_iload_n (i := 2) rfl dX10_sumOf_65 ?_
  refine j_iconst (n := 4) 4 (by decide) dX10_sumOf_66 ?_
  refine j_icmp_eq (off := 8) 75 dX10_sumOf_67 (by decide) (fun c1 => ?_) (fun c1 => ?_)
  · exact j_le [some (.ref 69), some (.int l1), some (.int l2), some (.int l3), some (.long l4), none, some (.long l6), none, some (.long l8), none] (And.intro rfl (And.intro rfl (And.intro rfl (And.intro rfl (And.intro rfl (And.intro rfl (And.intro rfl True.intro))))))) (v1 c1)
  · exact j_le [some (.ref 69), some (.int l1), some (.int l2), some (.int l3), some (.long l4), none, some (.long l6), none, some (.long l8), none] (And.intro rfl (And.intro rfl (And.intro rfl (And.intro rfl (And.intro rfl (And.intro rfl (And.intro rfl True.intro))))))) (v2 c1)
set_option maxRecDepth 100000 in
theorem bX10_sumOf_70 {sc : Nat × (Nat → Int32)} {h : jH} {Q : jQ} {l1 l2 l3 : Int32} {l4 l6 l8 : Int64}
    (v1 : ¬ l2 = 5 → WP mX10_sumOf Q 105 [some (.ref 69), some (.int l1), some (.int l2), some (.int l3), some (.long l4), none, some (.long l6), none, some (.long l8), none] [] (jG0 sc) h (0, 0))
    (v2 : l2 = 5 → WP mX10_sumOf Q 75 [some (.ref 69), some (.int l1), some (.int l2), some (.int l3), some (.long l4), none, some (.long l6), none, some (.long l8), none] [] (jG0 sc) h (0, 0)) :
    WP mX10_sumOf Q 70 [some (.ref 69), some (.int l1), some (.int l2), some (.int l3), some (.long l4), none, some (.long l6), none, some (.long l8), none] [] (jG0 sc) h (0, 0) := by
  refine j_iload_n (i := 2) rfl dX10_sumOf_70 ?_
  refine j_iconst (n := 5) 5 (by decide) dX10_sumOf_71 ?_
  refine j_icmp_ne (off := 33) 105 dX10_sumOf_72 (by decide) (fun c1 => ?_) (fun c1 => ?_)
  · exact j_le [some (.ref 69), some (.int l1), some (.int l2), some (.int l3), some (.long l4), none, some (.long l6), none, some (.long l8), none] (And.intro rfl (And.intro rfl (And.intro rfl (And.intro rfl (And.intro rfl (And.intro rfl (And.intro rfl True.intro))))))) (v1 c1)
  · exact j_le [some (.ref 69), some (.int l1), some (.int l2), some (.int l3), some (.long l4), none, some (.long l6), none, some (.long l8), none] (And.intro rfl (And.intro rfl (And.intro rfl (And.intro rfl (And.intro rfl (And.intro rfl (And.intro rfl True.intro))))))) (v2 c1)
set_option maxRecDepth 100000 in
theorem bX10_sumOf_75 {sc : Nat × (Nat → Int32)} {h : jH} {Q : jQ} {l1 l2 l3 : Int32} {l4 l6 l8 : Int64}
    (v1 : ¬ (lg_cmp l6 0) = 0 → WP mX10_sumOf Q 85 [some (.ref 69), some (.int l1), some (.int l2), some (.int l3), some (.long l4), none, some (.long l6), none, some (.long l8), none] [] (jG0 sc) h (0, 0))
    (v2 : (lg_cmp l6 0) = 0 → WP mX10_sumOf Q 82 [some (.ref 69), some (.int l1), some (.int l2), some (.int l3), some (.long l4), none, some (.long l6), none, some (.long l8), none] [] (jG0 sc) h (0, 0)) :
    WP mX10_sumOf Q 75 [some (.ref 69), some (.int l1), some (.int l2), some (.int l3), some (.long l4), none, some (.long l6), none, some (.long l8), none] [] (jG0 sc) h (0, 0) := by
  refine j_lload (i := 6) rfl dX10_sumOf_75 ?_
  refine j_lconst (n := 0) 0 (by decide) dX10_sumOf_77 ?_
  refine j_lcmp dX10_sumOf_78 ?_
  refine j_if_ne (off := 6) 85 dX10_sumOf_79 (by decide) (fun c1 => ?_) (fun c1 => ?_)
  · exact j_le [some (.ref 69), some (.int l1), some (.int l2), some (.int l3), some (.long l4), none, some (.long l6), none, some (.long l8), none] (And.intro rfl (And.intro rfl (And.intro rfl (And.intro rfl (And.intro rfl (And.intro rfl (And.intro rfl True.intro))))))) (v1 c1)
  · exact j_le [some (.ref 69), some (.int l1), some (.int l2), some (.int l3), some (.long l4), none, some (.long l6), none, some (.long l8), none] (And.intro rfl (And.intro rfl (And.intro rfl (And.intro rfl (And.intro rfl (And.intro rfl (And.intro rfl True.intro))))))) (v2 c1)
set_option maxRecDepth 100000 in
theorem bX10_sumOf_82 {sc : Nat × (Nat → Int32)} {h : jH} {Q : jQ} {l1 l2 l3 : Int32} {l4 l6 l8 : Int64}
    (v1 : Q (.inl (some (.int 2000001))) (jG0 sc) h) :
    WP mX10_sumOf Q 82 [some (.ref 69), some (.int l1), some (.int l2), some (.int l3), some (.long l4), none, some (.long l6), none, some (.long l8), none] [] (jG0 sc) h (0, 0) := by
  refine j_ldc (idx := 112) 2000001 (show (jCn 10, 112, 2000001) ∈ jCT by decide) dX10_sumOf_82 ?_
  exact j_iret rfl rfl (Nat.zero_le _) (Nat.zero_le _) dX10_sumOf_84 v1
set_option maxRecDepth 100000 in
theorem bX10_sumOf_85 {sc : Nat × (Nat → Int32)} {h : jH} {Q : jQ} {l1 l2 l3 : Int32} {l4 l6 l8 : Int64}
    (v1 : ¬ l2 = 4 → WP mX10_sumOf Q 98 [some (.ref 69), some (.int l1), some (.int l2), some (.int l3), some (.long l4), none, some (.long l6), none, some (.long l8), none] [] (jG0 sc) h (0, 0))
    (v2 : l2 = 4 → WP mX10_sumOf Q 90 [some (.ref 69), some (.int l1), some (.int l2), some (.int l3), some (.long l4), none, some (.long l6), none, some (.long l8), none] [] (jG0 sc) h (0, 0)) :
    WP mX10_sumOf Q 85 [some (.ref 69), some (.int l1), some (.int l2), some (.int l3), some (.long l4), none, some (.long l6), none, some (.long l8), none] [] (jG0 sc) h (0, 0) := by
  refine j_iload_n (i := 2) rfl dX10_sumOf_85 ?_
  refine j_iconst (n := 4) 4 (by decide) dX10_sumOf_86 ?_
  refine j_icmp_ne (off := 11) 98 dX10_sumOf_87 (by decide) (fun c1 => ?_) (fun c1 => ?_)
  · exact j_le [some (.ref 69), some (.int l1), some (.int l2), some (.int l3), some (.long l4), none, some (.long l6), none, some (.long l8), none] (And.intro rfl (And.intro rfl (And.intro rfl (And.intro rfl (And.intro rfl (And.intro rfl (And.intro rfl True.intro))))))) (v1 c1)
  · exact j_le [some (.ref 69), some (.int l1), some (.int l2), some (.int l3), some (.long l4), none, some (.long l6), none, some (.long l8), none] (And.intro rfl (And.intro rfl (And.intro rfl (And.intro rfl (And.intro rfl (And.intro rfl (And.intro rfl True.intro))))))) (v2 c1)
set_option maxRecDepth 100000 in
theorem bX10_sumOf_90 {sc : Nat × (Nat → Int32)} {h : jH} {Q : jQ} {l1 l2 l3 : Int32} {l4 l6 l8 : Int64}
    (o1 : ¬ l6 = 0)
    (v1 : WP mX10_sumOf Q 103 [some (.ref 69), some (.int l1), some (.int l2), some (.int l3), some (.long l4), none, some (.long l6), none, some (.long l8), none] [.long (l4 / l6)] (jG0 sc) h (0, 0)) :
    WP mX10_sumOf Q 90 [some (.ref 69), some (.int l1), some (.int l2), some (.int l3), some (.long l4), none, some (.long l6), none, some (.long l8), none] [] (jG0 sc) h (0, 0) := by
  refine j_lload (i := 4) rfl dX10_sumOf_90 ?_
  refine j_lload (i := 6) rfl dX10_sumOf_92 ?_
  refine j_ldiv o1 dX10_sumOf_94 ?_
  refine j_goto (off := 8) 103 dX10_sumOf_95 (by decide) ?_
  exact j_le [some (.ref 69), some (.int l1), some (.int l2), some (.int l3), some (.long l4), none, some (.long l6), none, some (.long l8), none] (And.intro rfl (And.intro rfl (And.intro rfl (And.intro rfl (And.intro rfl (And.intro rfl (And.intro rfl True.intro))))))) v1
set_option maxRecDepth 100000 in
theorem bX10_sumOf_98 {sc : Nat × (Nat → Int32)} {h : jH} {Q : jQ} {l1 l2 l3 : Int32} {l4 l6 l8 : Int64}
    (o1 : ¬ l6 = 0)
    (v1 : WP mX10_sumOf Q 103 [some (.ref 69), some (.int l1), some (.int l2), some (.int l3), some (.long l4), none, some (.long l6), none, some (.long l8), none] [.long (l4 - l4 / l6 * l6)] (jG0 sc) h (0, 0)) :
    WP mX10_sumOf Q 98 [some (.ref 69), some (.int l1), some (.int l2), some (.int l3), some (.long l4), none, some (.long l6), none, some (.long l8), none] [] (jG0 sc) h (0, 0) := by
  refine j_lload (i := 4) rfl dX10_sumOf_98 ?_
  refine j_lload (i := 6) rfl dX10_sumOf_100 ?_
  refine j_lrem o1 dX10_sumOf_102 ?_
  exact j_le [some (.ref 69), some (.int l1), some (.int l2), some (.int l3), some (.long l4), none, some (.long l6), none, some (.long l8), none] (And.intro rfl (And.intro rfl (And.intro rfl (And.intro rfl (And.intro rfl (And.intro rfl (And.intro rfl True.intro))))))) v1
set_option maxRecDepth 100000 in
theorem bX10_sumOf_103 {sc : Nat × (Nat → Int32)} {h : jH} {Q : jQ} {l1 l2 l3 : Int32} {l4 l6 l8 s0 : Int64}
    (v1 : WP mX10_sumOf Q 105 [some (.ref 69), some (.int l1), some (.int l2), some (.int l3), some (.long l4), none, some (.long l6), none, some (.long s0), none] [] (jG0 sc) h (0, 0)) :
    WP mX10_sumOf Q 103 [some (.ref 69), some (.int l1), some (.int l2), some (.int l3), some (.long l4), none, some (.long l6), none, some (.long l8), none] [.long s0] (jG0 sc) h (0, 0) := by
  refine j_lstore (i := 8) dX10_sumOf_103 (Nat.le_of_ble_eq_true rfl) ?_
  exact j_le [some (.ref 69), some (.int l1), some (.int l2), some (.int l3), some (.long l4), none, some (.long l6), none, some (.long s0), none] (And.intro rfl (And.intro rfl (And.intro rfl (And.intro rfl (And.intro rfl (And.intro rfl (And.intro rfl True.intro))))))) v1
set_option maxRecDepth 100000 in
theorem bX10_sumOf_105 {sc : Nat × (Nat → Int32)} {h : jH} {Q : jQ} {l1 l2 l3 : Int32} {l4 l6 l8 : Int64}
    (v1 : 0 < (lg_cmp l8 999999) → WP mX10_sumOf Q 123 [some (.ref 69), some (.int l1), some (.int l2), some (.int l3), some (.long l4), none, some (.long l6), none, some (.long l8), none] [] (jG0 sc) h (0, 0))
    (v2 : ¬ 0 < (lg_cmp l8 999999) → WP mX10_sumOf Q 114 [some (.ref 69), some (.int l1), some (.int l2), some (.int l3), some (.long l4), none, some (.long l6), none, some (.long l8), none] [] (jG0 sc) h (0, 0)) :
    WP mX10_sumOf Q 105 [some (.ref 69), some (.int l1), some (.int l2), some (.int l3), some (.long l4), none, some (.long l6), none, some (.long l8), none] [] (jG0 sc) h (0, 0) := by
  refine j_lload (i := 8) rfl dX10_sumOf_105 ?_
  refine j_ldc2 (idx := 113) 999999 (show (jCn 10, 113, 999999) ∈ jCLT by decide) dX10_sumOf_107 ?_
  refine j_lcmp dX10_sumOf_110 ?_
  refine j_if_gt (off := 12) 123 dX10_sumOf_111 (by decide) (fun c1 => ?_) (fun c1 => ?_)
  · exact j_le [some (.ref 69), some (.int l1), some (.int l2), some (.int l3), some (.long l4), none, some (.long l6), none, some (.long l8), none] (And.intro rfl (And.intro rfl (And.intro rfl (And.intro rfl (And.intro rfl (And.intro rfl (And.intro rfl True.intro))))))) (v1 c1)
  · exact j_le [some (.ref 69), some (.int l1), some (.int l2), some (.int l3), some (.long l4), none, some (.long l6), none, some (.long l8), none] (And.intro rfl (And.intro rfl (And.intro rfl (And.intro rfl (And.intro rfl (And.intro rfl (And.intro rfl True.intro))))))) (v2 c1)
set_option maxRecDepth 100000 in
theorem bX10_sumOf_114 {sc : Nat × (Nat → Int32)} {h : jH} {Q : jQ} {l1 l2 l3 : Int32} {l4 l6 l8 : Int64}
    (v1 : 0 ≤ (lg_cmp l8 (-999999)) → WP mX10_sumOf Q 128 [some (.ref 69), some (.int l1), some (.int l2), some (.int l3), some (.long l4), none, some (.long l6), none, some (.long l8), none] [] (jG0 sc) h (0, 0))
    (v2 : ¬ 0 ≤ (lg_cmp l8 (-999999)) → WP mX10_sumOf Q 123 [some (.ref 69), some (.int l1), some (.int l2), some (.int l3), some (.long l4), none, some (.long l6), none, some (.long l8), none] [] (jG0 sc) h (0, 0)) :
    WP mX10_sumOf Q 114 [some (.ref 69), some (.int l1), some (.int l2), some (.int l3), some (.long l4), none, some (.long l6), none, some (.long l8), none] [] (jG0 sc) h (0, 0) := by
  refine j_lload (i := 8) rfl dX10_sumOf_114 ?_
  refine j_ldc2 (idx := 115) (-999999) (show (jCn 10, 115, (-999999)) ∈ jCLT by decide) dX10_sumOf_116 ?_
  refine j_lcmp dX10_sumOf_119 ?_
  refine j_if_ge (off := 8) 128 dX10_sumOf_120 (by decide) (fun c1 => ?_) (fun c1 => ?_)
  · exact j_le [some (.ref 69), some (.int l1), some (.int l2), some (.int l3), some (.long l4), none, some (.long l6), none, some (.long l8), none] (And.intro rfl (And.intro rfl (And.intro rfl (And.intro rfl (And.intro rfl (And.intro rfl (And.intro rfl True.intro))))))) (v1 c1)
  · exact j_le [some (.ref 69), some (.int l1), some (.int l2), some (.int l3), some (.long l4), none, some (.long l6), none, some (.long l8), none] (And.intro rfl (And.intro rfl (And.intro rfl (And.intro rfl (And.intro rfl (And.intro rfl (And.intro rfl True.intro))))))) (v2 c1)
set_option maxRecDepth 100000 in
theorem bX10_sumOf_123 {sc : Nat × (Nat → Int32)} {h : jH} {Q : jQ} {l1 l2 l3 : Int32} {l4 l6 l8 : Int64}
    (v1 : WP mX10_sumOf Q 131 [some (.ref 69), some (.int l1), some (.int l2), some (.int l3), some (.long l4), none, some (.long l6), none, some (.long l8), none] [.int 2000002] (jG0 sc) h (0, 0)) :
    WP mX10_sumOf Q 123 [some (.ref 69), some (.int l1), some (.int l2), some (.int l3), some (.long l4), none, some (.long l6), none, some (.long l8), none] [] (jG0 sc) h (0, 0) := by
  refine j_ldc (idx := 117) 2000002 (show (jCn 10, 117, 2000002) ∈ jCT by decide) dX10_sumOf_123 ?_
  refine j_goto (off := 6) 131 dX10_sumOf_125 (by decide) ?_
  exact j_le [some (.ref 69), some (.int l1), some (.int l2), some (.int l3), some (.long l4), none, some (.long l6), none, some (.long l8), none] (And.intro rfl (And.intro rfl (And.intro rfl (And.intro rfl (And.intro rfl (And.intro rfl (And.intro rfl True.intro))))))) v1
set_option maxRecDepth 100000 in
theorem bX10_sumOf_128 {sc : Nat × (Nat → Int32)} {h : jH} {Q : jQ} {l1 l2 l3 : Int32} {l4 l6 l8 : Int64}
    (v1 : WP mX10_sumOf Q 131 [some (.ref 69), some (.int l1), some (.int l2), some (.int l3), some (.long l4), none, some (.long l6), none, some (.long l8), none] [.int (Int64.toInt32 l8)] (jG0 sc) h (0, 0)) :
    WP mX10_sumOf Q 128 [some (.ref 69), some (.int l1), some (.int l2), some (.int l3), some (.long l4), none, some (.long l6), none, some (.long l8), none] [] (jG0 sc) h (0, 0) := by
  refine j_lload (i := 8) rfl dX10_sumOf_128 ?_
  refine j_l2i dX10_sumOf_130 ?_
  exact j_le [some (.ref 69), some (.int l1), some (.int l2), some (.int l3), some (.long l4), none, some (.long l6), none, some (.long l8), none] (And.intro rfl (And.intro rfl (And.intro rfl (And.intro rfl (And.intro rfl (And.intro rfl (And.intro rfl True.intro))))))) v1
set_option maxRecDepth 100000 in
theorem bX10_sumOf_131 {sc : Nat × (Nat → Int32)} {h : jH} {Q : jQ} {l1 l2 l3 s0 : Int32} {l4 l6 l8 : Int64}
    (v1 : Q (.inl (some (.int s0))) (jG0 sc) h) :
    WP mX10_sumOf Q 131 [some (.ref 69), some (.int l1), some (.int l2), some (.int l3), some (.long l4), none, some (.long l6), none, some (.long l8), none] [.int s0] (jG0 sc) h (0, 0) := by
  exact j_iret rfl rfl (Nat.zero_le _) (Nat.zero_le _) dX10_sumOf_131 v1
set_option maxRecDepth 100000 in
theorem rX10_sumOf_0 {sc : Nat × (Nat → Int32)} {h : jH} {Q : jQ} {l1 l2 l3 : Int32} {P1 : Int32 → jH → Prop} {P2 : Int32 → jH → Prop}
    (k1 : JM mX10_valueOf [.ref 69, .int l1] (jG0 sc) h (jint sc P1))
    (k2 : ∀ (x1 : Int32) (h1 : jH), P1 x1 h1 → JM mX10_valueOf [.ref 69, .int l3] (jG0 sc) h1 (jint sc P2))
    (o1 : ∀ (x1 : Int32) (h1 : jH), P1 x1 h1 → ∀ (x2 : Int32) (h2 : jH), P2 x2 h2 → ¬ l2 = 1 → ¬ l2 = 2 → ¬ l2 = 3 → l2 = 4 → ¬ (lg_cmp (Int32.toInt64 x2) 0) = 0 → ¬ l2 = 4 → ¬ (Int32.toInt64 x2) = 0)
    (v1 : ∀ (x1 : Int32) (h1 : jH), P1 x1 h1 → ∀ (x2 : Int32) (h2 : jH), P2 x2 h2 → ¬ l2 = 1 → ¬ l2 = 2 → ¬ l2 = 3 → l2 = 4 → ¬ (lg_cmp (Int32.toInt64 x2) 0) = 0 → ¬ l2 = 4 → 0 < (lg_cmp ((Int32.toInt64 x1) - (Int32.toInt64 x1) / (Int32.toInt64 x2) * (Int32.toInt64 x2)) 999999) → Q (.inl (some (.int 2000002))) (jG0 sc) h2)
    (v2 : ∀ (x1 : Int32) (h1 : jH), P1 x1 h1 → ∀ (x2 : Int32) (h2 : jH), P2 x2 h2 → ¬ l2 = 1 → ¬ l2 = 2 → ¬ l2 = 3 → l2 = 4 → ¬ (lg_cmp (Int32.toInt64 x2) 0) = 0 → ¬ l2 = 4 → ¬ 0 < (lg_cmp ((Int32.toInt64 x1) - (Int32.toInt64 x1) / (Int32.toInt64 x2) * (Int32.toInt64 x2)) 999999) → 0 ≤ (lg_cmp ((Int32.toInt64 x1) - (Int32.toInt64 x1) / (Int32.toInt64 x2) * (Int32.toInt64 x2)) (-999999)) → Q (.inl (some (.int (Int64.toInt32 ((Int32.toInt64 x1) - (Int32.toInt64 x1) / (Int32.toInt64 x2) * (Int32.toInt64 x2)))))) (jG0 sc) h2)
    (v3 : ∀ (x1 : Int32) (h1 : jH), P1 x1 h1 → ∀ (x2 : Int32) (h2 : jH), P2 x2 h2 → ¬ l2 = 1 → ¬ l2 = 2 → ¬ l2 = 3 → l2 = 4 → ¬ (lg_cmp (Int32.toInt64 x2) 0) = 0 → ¬ l2 = 4 → ¬ 0 < (lg_cmp ((Int32.toInt64 x1) - (Int32.toInt64 x1) / (Int32.toInt64 x2) * (Int32.toInt64 x2)) 999999) → ¬ 0 ≤ (lg_cmp ((Int32.toInt64 x1) - (Int32.toInt64 x1) / (Int32.toInt64 x2) * (Int32.toInt64 x2)) (-999999)) → Q (.inl (some (.int 2000002))) (jG0 sc) h2)
    (o2 : ∀ (x1 : Int32) (h1 : jH), P1 x1 h1 → ∀ (x2 : Int32) (h2 : jH), P2 x2 h2 → ¬ l2 = 1 → ¬ l2 = 2 → ¬ l2 = 3 → l2 = 4 → ¬ (lg_cmp (Int32.toInt64 x2) 0) = 0 → l2 = 4 → ¬ (Int32.toInt64 x2) = 0)
    (v4 : ∀ (x1 : Int32) (h1 : jH), P1 x1 h1 → ∀ (x2 : Int32) (h2 : jH), P2 x2 h2 → ¬ l2 = 1 → ¬ l2 = 2 → ¬ l2 = 3 → l2 = 4 → ¬ (lg_cmp (Int32.toInt64 x2) 0) = 0 → l2 = 4 → 0 < (lg_cmp ((Int32.toInt64 x1) / (Int32.toInt64 x2)) 999999) → Q (.inl (some (.int 2000002))) (jG0 sc) h2)
    (v5 : ∀ (x1 : Int32) (h1 : jH), P1 x1 h1 → ∀ (x2 : Int32) (h2 : jH), P2 x2 h2 → ¬ l2 = 1 → ¬ l2 = 2 → ¬ l2 = 3 → l2 = 4 → ¬ (lg_cmp (Int32.toInt64 x2) 0) = 0 → l2 = 4 → ¬ 0 < (lg_cmp ((Int32.toInt64 x1) / (Int32.toInt64 x2)) 999999) → 0 ≤ (lg_cmp ((Int32.toInt64 x1) / (Int32.toInt64 x2)) (-999999)) → Q (.inl (some (.int (Int64.toInt32 ((Int32.toInt64 x1) / (Int32.toInt64 x2)))))) (jG0 sc) h2)
    (v6 : ∀ (x1 : Int32) (h1 : jH), P1 x1 h1 → ∀ (x2 : Int32) (h2 : jH), P2 x2 h2 → ¬ l2 = 1 → ¬ l2 = 2 → ¬ l2 = 3 → l2 = 4 → ¬ (lg_cmp (Int32.toInt64 x2) 0) = 0 → l2 = 4 → ¬ 0 < (lg_cmp ((Int32.toInt64 x1) / (Int32.toInt64 x2)) 999999) → ¬ 0 ≤ (lg_cmp ((Int32.toInt64 x1) / (Int32.toInt64 x2)) (-999999)) → Q (.inl (some (.int 2000002))) (jG0 sc) h2)
    (v7 : ∀ (x1 : Int32) (h1 : jH), P1 x1 h1 → ∀ (x2 : Int32) (h2 : jH), P2 x2 h2 → ¬ l2 = 1 → ¬ l2 = 2 → ¬ l2 = 3 → l2 = 4 → (lg_cmp (Int32.toInt64 x2) 0) = 0 → Q (.inl (some (.int 2000001))) (jG0 sc) h2)
    (v8 : ∀ (x1 : Int32) (h1 : jH), P1 x1 h1 → ∀ (x2 : Int32) (h2 : jH), P2 x2 h2 → ¬ l2 = 1 → ¬ l2 = 2 → ¬ l2 = 3 → ¬ l2 = 4 → ¬ l2 = 5 → 0 < (lg_cmp (Int32.toInt64 x1) 999999) → Q (.inl (some (.int 2000002))) (jG0 sc) h2)
    (v9 : ∀ (x1 : Int32) (h1 : jH), P1 x1 h1 → ∀ (x2 : Int32) (h2 : jH), P2 x2 h2 → ¬ l2 = 1 → ¬ l2 = 2 → ¬ l2 = 3 → ¬ l2 = 4 → ¬ l2 = 5 → ¬ 0 < (lg_cmp (Int32.toInt64 x1) 999999) → 0 ≤ (lg_cmp (Int32.toInt64 x1) (-999999)) → Q (.inl (some (.int (Int64.toInt32 (Int32.toInt64 x1))))) (jG0 sc) h2)
    (v10 : ∀ (x1 : Int32) (h1 : jH), P1 x1 h1 → ∀ (x2 : Int32) (h2 : jH), P2 x2 h2 → ¬ l2 = 1 → ¬ l2 = 2 → ¬ l2 = 3 → ¬ l2 = 4 → ¬ l2 = 5 → ¬ 0 < (lg_cmp (Int32.toInt64 x1) 999999) → ¬ 0 ≤ (lg_cmp (Int32.toInt64 x1) (-999999)) → Q (.inl (some (.int 2000002))) (jG0 sc) h2)
    (o3 : ∀ (x1 : Int32) (h1 : jH), P1 x1 h1 → ∀ (x2 : Int32) (h2 : jH), P2 x2 h2 → ¬ l2 = 1 → ¬ l2 = 2 → ¬ l2 = 3 → ¬ l2 = 4 → l2 = 5 → ¬ (lg_cmp (Int32.toInt64 x2) 0) = 0 → ¬ l2 = 4 → ¬ (Int32.toInt64 x2) = 0)
    (v11 : ∀ (x1 : Int32) (h1 : jH), P1 x1 h1 → ∀ (x2 : Int32) (h2 : jH), P2 x2 h2 → ¬ l2 = 1 → ¬ l2 = 2 → ¬ l2 = 3 → ¬ l2 = 4 → l2 = 5 → ¬ (lg_cmp (Int32.toInt64 x2) 0) = 0 → ¬ l2 = 4 → 0 < (lg_cmp ((Int32.toInt64 x1) - (Int32.toInt64 x1) / (Int32.toInt64 x2) * (Int32.toInt64 x2)) 999999) → Q (.inl (some (.int 2000002))) (jG0 sc) h2)
    (v12 : ∀ (x1 : Int32) (h1 : jH), P1 x1 h1 → ∀ (x2 : Int32) (h2 : jH), P2 x2 h2 → ¬ l2 = 1 → ¬ l2 = 2 → ¬ l2 = 3 → ¬ l2 = 4 → l2 = 5 → ¬ (lg_cmp (Int32.toInt64 x2) 0) = 0 → ¬ l2 = 4 → ¬ 0 < (lg_cmp ((Int32.toInt64 x1) - (Int32.toInt64 x1) / (Int32.toInt64 x2) * (Int32.toInt64 x2)) 999999) → 0 ≤ (lg_cmp ((Int32.toInt64 x1) - (Int32.toInt64 x1) / (Int32.toInt64 x2) * (Int32.toInt64 x2)) (-999999)) → Q (.inl (some (.int (Int64.toInt32 ((Int32.toInt64 x1) - (Int32.toInt64 x1) / (Int32.toInt64 x2) * (Int32.toInt64 x2)))))) (jG0 sc) h2)
    (v13 : ∀ (x1 : Int32) (h1 : jH), P1 x1 h1 → ∀ (x2 : Int32) (h2 : jH), P2 x2 h2 → ¬ l2 = 1 → ¬ l2 = 2 → ¬ l2 = 3 → ¬ l2 = 4 → l2 = 5 → ¬ (lg_cmp (Int32.toInt64 x2) 0) = 0 → ¬ l2 = 4 → ¬ 0 < (lg_cmp ((Int32.toInt64 x1) - (Int32.toInt64 x1) / (Int32.toInt64 x2) * (Int32.toInt64 x2)) 999999) → ¬ 0 ≤ (lg_cmp ((Int32.toInt64 x1) - (Int32.toInt64 x1) / (Int32.toInt64 x2) * (Int32.toInt64 x2)) (-999999)) → Q (.inl (some (.int 2000002))) (jG0 sc) h2)
    (o4 : ∀ (x1 : Int32) (h1 : jH), P1 x1 h1 → ∀ (x2 : Int32) (h2 : jH), P2 x2 h2 → ¬ l2 = 1 → ¬ l2 = 2 → ¬ l2 = 3 → ¬ l2 = 4 → l2 = 5 → ¬ (lg_cmp (Int32.toInt64 x2) 0) = 0 → l2 = 4 → ¬ (Int32.toInt64 x2) = 0)
    (v14 : ∀ (x1 : Int32) (h1 : jH), P1 x1 h1 → ∀ (x2 : Int32) (h2 : jH), P2 x2 h2 → ¬ l2 = 1 → ¬ l2 = 2 → ¬ l2 = 3 → ¬ l2 = 4 → l2 = 5 → ¬ (lg_cmp (Int32.toInt64 x2) 0) = 0 → l2 = 4 → 0 < (lg_cmp ((Int32.toInt64 x1) / (Int32.toInt64 x2)) 999999) → Q (.inl (some (.int 2000002))) (jG0 sc) h2)
    (v15 : ∀ (x1 : Int32) (h1 : jH), P1 x1 h1 → ∀ (x2 : Int32) (h2 : jH), P2 x2 h2 → ¬ l2 = 1 → ¬ l2 = 2 → ¬ l2 = 3 → ¬ l2 = 4 → l2 = 5 → ¬ (lg_cmp (Int32.toInt64 x2) 0) = 0 → l2 = 4 → ¬ 0 < (lg_cmp ((Int32.toInt64 x1) / (Int32.toInt64 x2)) 999999) → 0 ≤ (lg_cmp ((Int32.toInt64 x1) / (Int32.toInt64 x2)) (-999999)) → Q (.inl (some (.int (Int64.toInt32 ((Int32.toInt64 x1) / (Int32.toInt64 x2)))))) (jG0 sc) h2)
    (v16 : ∀ (x1 : Int32) (h1 : jH), P1 x1 h1 → ∀ (x2 : Int32) (h2 : jH), P2 x2 h2 → ¬ l2 = 1 → ¬ l2 = 2 → ¬ l2 = 3 → ¬ l2 = 4 → l2 = 5 → ¬ (lg_cmp (Int32.toInt64 x2) 0) = 0 → l2 = 4 → ¬ 0 < (lg_cmp ((Int32.toInt64 x1) / (Int32.toInt64 x2)) 999999) → ¬ 0 ≤ (lg_cmp ((Int32.toInt64 x1) / (Int32.toInt64 x2)) (-999999)) → Q (.inl (some (.int 2000002))) (jG0 sc) h2)
    (v17 : ∀ (x1 : Int32) (h1 : jH), P1 x1 h1 → ∀ (x2 : Int32) (h2 : jH), P2 x2 h2 → ¬ l2 = 1 → ¬ l2 = 2 → ¬ l2 = 3 → ¬ l2 = 4 → l2 = 5 → (lg_cmp (Int32.toInt64 x2) 0) = 0 → Q (.inl (some (.int 2000001))) (jG0 sc) h2)
    (v18 : ∀ (x1 : Int32) (h1 : jH), P1 x1 h1 → ∀ (x2 : Int32) (h2 : jH), P2 x2 h2 → ¬ l2 = 1 → ¬ l2 = 2 → l2 = 3 → 0 < (lg_cmp ((Int32.toInt64 x1) * (Int32.toInt64 x2)) 999999) → Q (.inl (some (.int 2000002))) (jG0 sc) h2)
    (v19 : ∀ (x1 : Int32) (h1 : jH), P1 x1 h1 → ∀ (x2 : Int32) (h2 : jH), P2 x2 h2 → ¬ l2 = 1 → ¬ l2 = 2 → l2 = 3 → ¬ 0 < (lg_cmp ((Int32.toInt64 x1) * (Int32.toInt64 x2)) 999999) → 0 ≤ (lg_cmp ((Int32.toInt64 x1) * (Int32.toInt64 x2)) (-999999)) → Q (.inl (some (.int (Int64.toInt32 ((Int32.toInt64 x1) * (Int32.toInt64 x2)))))) (jG0 sc) h2)
    (v20 : ∀ (x1 : Int32) (h1 : jH), P1 x1 h1 → ∀ (x2 : Int32) (h2 : jH), P2 x2 h2 → ¬ l2 = 1 → ¬ l2 = 2 → l2 = 3 → ¬ 0 < (lg_cmp ((Int32.toInt64 x1) * (Int32.toInt64 x2)) 999999) → ¬ 0 ≤ (lg_cmp ((Int32.toInt64 x1) * (Int32.toInt64 x2)) (-999999)) → Q (.inl (some (.int 2000002))) (jG0 sc) h2)
    (v21 : ∀ (x1 : Int32) (h1 : jH), P1 x1 h1 → ∀ (x2 : Int32) (h2 : jH), P2 x2 h2 → ¬ l2 = 1 → l2 = 2 → 0 < (lg_cmp ((Int32.toInt64 x1) - (Int32.toInt64 x2)) 999999) → Q (.inl (some (.int 2000002))) (jG0 sc) h2)
    (v22 : ∀ (x1 : Int32) (h1 : jH), P1 x1 h1 → ∀ (x2 : Int32) (h2 : jH), P2 x2 h2 → ¬ l2 = 1 → l2 = 2 → ¬ 0 < (lg_cmp ((Int32.toInt64 x1) - (Int32.toInt64 x2)) 999999) → 0 ≤ (lg_cmp ((Int32.toInt64 x1) - (Int32.toInt64 x2)) (-999999)) → Q (.inl (some (.int (Int64.toInt32 ((Int32.toInt64 x1) - (Int32.toInt64 x2)))))) (jG0 sc) h2)
    (v23 : ∀ (x1 : Int32) (h1 : jH), P1 x1 h1 → ∀ (x2 : Int32) (h2 : jH), P2 x2 h2 → ¬ l2 = 1 → l2 = 2 → ¬ 0 < (lg_cmp ((Int32.toInt64 x1) - (Int32.toInt64 x2)) 999999) → ¬ 0 ≤ (lg_cmp ((Int32.toInt64 x1) - (Int32.toInt64 x2)) (-999999)) → Q (.inl (some (.int 2000002))) (jG0 sc) h2)
    (v24 : ∀ (x1 : Int32) (h1 : jH), P1 x1 h1 → ∀ (x2 : Int32) (h2 : jH), P2 x2 h2 → l2 = 1 → 0 < (lg_cmp ((Int32.toInt64 x1) + (Int32.toInt64 x2)) 999999) → Q (.inl (some (.int 2000002))) (jG0 sc) h2)
    (v25 : ∀ (x1 : Int32) (h1 : jH), P1 x1 h1 → ∀ (x2 : Int32) (h2 : jH), P2 x2 h2 → l2 = 1 → ¬ 0 < (lg_cmp ((Int32.toInt64 x1) + (Int32.toInt64 x2)) 999999) → 0 ≤ (lg_cmp ((Int32.toInt64 x1) + (Int32.toInt64 x2)) (-999999)) → Q (.inl (some (.int (Int64.toInt32 ((Int32.toInt64 x1) + (Int32.toInt64 x2)))))) (jG0 sc) h2)
    (v26 : ∀ (x1 : Int32) (h1 : jH), P1 x1 h1 → ∀ (x2 : Int32) (h2 : jH), P2 x2 h2 → l2 = 1 → ¬ 0 < (lg_cmp ((Int32.toInt64 x1) + (Int32.toInt64 x2)) 999999) → ¬ 0 ≤ (lg_cmp ((Int32.toInt64 x1) + (Int32.toInt64 x2)) (-999999)) → Q (.inl (some (.int 2000002))) (jG0 sc) h2) :
    WP mX10_sumOf Q 0 [some (.ref 69), some (.int l1), some (.int l2), some (.int l3), none, none, none, none, none, none] [] (jG0 sc) h (0, 0) := by
  exact (bX10_sumOf_0 k1 (fun x1 h1 p1 => (k2 x1 h1 p1)) (fun x1 h1 p1 x2 h2 p2 c1 => (bX10_sumOf_35 (fun c2 => (bX10_sumOf_50 (fun c3 => (bX10_sumOf_65 (fun c4 => (bX10_sumOf_75 (fun c5 => (bX10_sumOf_85 (fun c6 => (bX10_sumOf_98 (o1 x1 h1 p1 x2 h2 p2 c1 c2 c3 c4 c5 c6) (bX10_sumOf_103 (bX10_sumOf_105 (fun c7 => (bX10_sumOf_123 (bX10_sumOf_131 (v1 x1 h1 p1 x2 h2 p2 c1 c2 c3 c4 c5 c6 c7)))) (fun c7 => (bX10_sumOf_114 (fun c8 => (bX10_sumOf_128 (bX10_sumOf_131 (v2 x1 h1 p1 x2 h2 p2 c1 c2 c3 c4 c5 c6 c7 c8)))) (fun c8 => (bX10_sumOf_123 (bX10_sumOf_131 (v3 x1 h1 p1 x2 h2 p2 c1 c2 c3 c4 c5 c6 c7 c8)))))))))) (fun c6 => (bX10_sumOf_90 (o2 x1 h1 p1 x2 h2 p2 c1 c2 c3 c4 c5 c6) (bX10_sumOf_103 (bX10_sumOf_105 (fun c9 => (bX10_sumOf_123 (bX10_sumOf_131 (v4 x1 h1 p1 x2 h2 p2 c1 c2 c3 c4 c5 c6 c9)))) (fun c9 => (bX10_sumOf_114 (fun c10 => (bX10_sumOf_128 (bX10_sumOf_131 (v5 x1 h1 p1 x2 h2 p2 c1 c2 c3 c4 c5 c6 c9 c10)))) (fun c10 => (bX10_sumOf_123 (bX10_sumOf_131 (v6 x1 h1 p1 x2 h2 p2 c1 c2 c3 c4 c5 c6 c9 c10)))))))))))) (fun c5 => (bX10_sumOf_82 (v7 x1 h1 p1 x2 h2 p2 c1 c2 c3 c4 c5))))) (fun c4 => (bX10_sumOf_70 (fun c11 => (bX10_sumOf_105 (fun c12 => (bX10_sumOf_123 (bX10_sumOf_131 (v8 x1 h1 p1 x2 h2 p2 c1 c2 c3 c4 c11 c12)))) (fun c12 => (bX10_sumOf_114 (fun c13 => (bX10_sumOf_128 (bX10_sumOf_131 (v9 x1 h1 p1 x2 h2 p2 c1 c2 c3 c4 c11 c12 c13)))) (fun c13 => (bX10_sumOf_123 (bX10_sumOf_131 (v10 x1 h1 p1 x2 h2 p2 c1 c2 c3 c4 c11 c12 c13)))))))) (fun c11 => (bX10_sumOf_75 (fun c14 => (bX10_sumOf_85 (fun c15 => (bX10_sumOf_98 (o3 x1 h1 p1 x2 h2 p2 c1 c2 c3 c4 c11 c14 c15) (bX10_sumOf_103 (bX10_sumOf_105 (fun c16 => (bX10_sumOf_123 (bX10_sumOf_131 (v11 x1 h1 p1 x2 h2 p2 c1 c2 c3 c4 c11 c14 c15 c16)))) (fun c16 => (bX10_sumOf_114 (fun c17 => (bX10_sumOf_128 (bX10_sumOf_131 (v12 x1 h1 p1 x2 h2 p2 c1 c2 c3 c4 c11 c14 c15 c16 c17)))) (fun c17 => (bX10_sumOf_123 (bX10_sumOf_131 (v13 x1 h1 p1 x2 h2 p2 c1 c2 c3 c4 c11 c14 c15 c16 c17)))))))))) (fun c15 => (bX10_sumOf_90 (o4 x1 h1 p1 x2 h2 p2 c1 c2 c3 c4 c11 c14 c15) (bX10_sumOf_103 (bX10_sumOf_105 (fun c18 => (bX10_sumOf_123 (bX10_sumOf_131 (v14 x1 h1 p1 x2 h2 p2 c1 c2 c3 c4 c11 c14 c15 c18)))) (fun c18 => (bX10_sumOf_114 (fun c19 => (bX10_sumOf_128 (bX10_sumOf_131 (v15 x1 h1 p1 x2 h2 p2 c1 c2 c3 c4 c11 c14 c15 c18 c19)))) (fun c19 => (bX10_sumOf_123 (bX10_sumOf_131 (v16 x1 h1 p1 x2 h2 p2 c1 c2 c3 c4 c11 c14 c15 c18 c19)))))))))))) (fun c14 => (bX10_sumOf_82 (v17 x1 h1 p1 x2 h2 p2 c1 c2 c3 c4 c11 c14))))))))) (fun c3 => (bX10_sumOf_55 (bX10_sumOf_105 (fun c20 => (bX10_sumOf_123 (bX10_sumOf_131 (v18 x1 h1 p1 x2 h2 p2 c1 c2 c3 c20)))) (fun c20 => (bX10_sumOf_114 (fun c21 => (bX10_sumOf_128 (bX10_sumOf_131 (v19 x1 h1 p1 x2 h2 p2 c1 c2 c3 c20 c21)))) (fun c21 => (bX10_sumOf_123 (bX10_sumOf_131 (v20 x1 h1 p1 x2 h2 p2 c1 c2 c3 c20 c21))))))))))) (fun c2 => (bX10_sumOf_40 (bX10_sumOf_105 (fun c22 => (bX10_sumOf_123 (bX10_sumOf_131 (v21 x1 h1 p1 x2 h2 p2 c1 c2 c22)))) (fun c22 => (bX10_sumOf_114 (fun c23 => (bX10_sumOf_128 (bX10_sumOf_131 (v22 x1 h1 p1 x2 h2 p2 c1 c2 c22 c23)))) (fun c23 => (bX10_sumOf_123 (bX10_sumOf_131 (v23 x1 h1 p1 x2 h2 p2 c1 c2 c22 c23))))))))))) (fun x1 h1 p1 x2 h2 p2 c1 => (bX10_sumOf_25 (bX10_sumOf_105 (fun c24 => (bX10_sumOf_123 (bX10_sumOf_131 (v24 x1 h1 p1 x2 h2 p2 c1 c24)))) (fun c24 => (bX10_sumOf_114 (fun c25 => (bX10_sumOf_128 (bX10_sumOf_131 (v25 x1 h1 p1 x2 h2 p2 c1 c24 c25)))) (fun c25 => (bX10_sumOf_123 (bX10_sumOf_131 (v26 x1 h1 p1 x2 h2 p2 c1 c24 c25))))))))))
