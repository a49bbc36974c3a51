/-! Throws: throw new E("text"), E one of five, in the class MendBench. -/
def jxn : List String := ["java/lang/RuntimeException", "java/lang/Exception"]
theorem jx_IAE : (Cond.classLink "MendBench" 110 "java/lang/IllegalArgumentException" :: Cond.initialized "java/lang/IllegalArgumentException" :: vx_atS "MendBench" 114 "java/lang/IllegalArgumentException" jxn).all (fun w => decide (w ∈ tables_1) && (goodWord w || jNk w) && vx_ot w) = true := by decide +kernel
theorem jx_ISE : (Cond.classLink "MendBench" 203 "java/lang/IllegalStateException" :: Cond.initialized "java/lang/IllegalStateException" :: vx_atS "MendBench" 207 "java/lang/IllegalStateException" jxn).all (fun w => decide (w ∈ tables_1) && (goodWord w || jNk w) && vx_ot w) = true := by decide +kernel
theorem jx_IOB : (Cond.classLink "MendBench" 208 "java/lang/IndexOutOfBoundsException" :: Cond.initialized "java/lang/IndexOutOfBoundsException" :: vx_atS "MendBench" 212 "java/lang/IndexOutOfBoundsException" jxn).all (fun w => decide (w ∈ tables_1) && (goodWord w || jNk w) && vx_ot w) = true := by decide +kernel
theorem jx_UOE : (Cond.classLink "MendBench" 176 "java/lang/UnsupportedOperationException" :: Cond.initialized "java/lang/UnsupportedOperationException" :: vx_atS "MendBench" 180 "java/lang/UnsupportedOperationException" jxn).all (fun w => decide (w ∈ tables_1) && (goodWord w || jNk w) && vx_ot w) = true := by decide +kernel
section JT
variable {M : jM} {Q : jQ} {pc : Nat} {lv : List (Option Value)} {st : List Value} {Γ : jS} {h : jH} {u : Nat × Nat}
theorem jx_at {l : Launch} {G : jG} {p : Program} {s : State} {m : MethodId} {args : Array Value} {meth : Method} {c : Code} (C : jC l G M p s m args meth c) {L : List Cond} (hL : L.all (fun w => decide (w ∈ tables_1) && (goodWord w || jNk w) && vx_ot w) = true) : (∀ w ∈ L, w.before args s = true) ∧ ∀ w ∈ L, vx_ot w = true := by
  refine ⟨fun w hw => ?_, fun w hw => ?_⟩
  · have h := List.all_eq_true.mp hL w hw
    simp only [Bool.and_eq_true, Bool.or_eq_true, decide_eq_true_eq] at h
    rcases h.1.2 with g | g
    · exact jword C (jTbl h.1.1) g
    · refine jwordN C (List.mem_filter.mpr ⟨jTbl h.1.1, g⟩) ?_
      cases w <;> first | rfl | (exfalso; revert g; simp [jNk])
  · have h := List.all_eq_true.mp hL w hw
    simp only [Bool.and_eq_true] at h
    exact h.2
theorem j_thr {E text : String} {ik is ic num : Nat} (hx : (Cond.classLink "MendBench" ik E :: Cond.initialized E :: vx_atS "MendBench" ic E jxn).all (fun w => decide (w ∈ tables_1) && (goodWord w || jNk w) && vx_ot w) = true) (hfit : Bundle.fit E = true) (ho : mO M = 11) (hs : ("MendBench", is, text, num) ∈ jStr) (hX : mX M = []) (h1 : u.1 + 1 ≤ mMc M) (h2 : u.2 + 6 ≤ mMs M) (hst : (st.map fun v => v.category).sum ≤ 8)
    (d0 : decode (mC M) pc = .ok (.new ik, 3)) (d3 : decode (mC M) (pc + 3) = .ok (.dup, 1)) (d4 : decode (mC M) (pc + 4) = .ok (.ldc is, 2)) (d6 : decode (mC M) (pc + 6) = .ok (.invokespecial ic, 3)) (d9 : decode (mC M) (pc + 9) = .ok (.athrow, 1))
    (k : ∀ Γ' : jS, jN Γ' = jN Γ → jFr Γ' = false → jK Γ' = jK Γ → jL Γ' = jL Γ → jR Γ' = jR Γ → jSc Γ' = jSc Γ → Q (.inr E) Γ' h) : WP M Q pc lv st Γ h u := by
  intro l G p e s m args below meth c C H locs ls hP hS hl
  obtain ⟨hat, hot⟩ := jx_at C hx
  have ho2 : s.vm.findClass "MendBench" = some m.cls := by have := jown C; rw [ho] at this; exact this
  have hE := C.2.2.2.2.2.2.2.2.2.1
  have htab : ∀ x ∈ c.exceptionTable.toList, covers x (pc + 9) = false := by
    rw [C.2.2.2.2.2.2.2.1, hX]
    intro x hx
    cases hx
  refine vx_throwS C.1 C.2.1 C.2.2.2.2.2.2.2.2.2.2.2.1 (own := "MendBench") (cls := E) (text := text) (names := jxn) (A := jA G) ho2 hfit (by decide +kernel) (hat _ List.mem_cons_self) (hat _ (List.mem_cons_of_mem _ List.mem_cons_self)) (hE.2.2.2.1 _ hs) (fun w hw => hat w (List.mem_cons_of_mem _ (List.mem_cons_of_mem _ hw))) hot hE.2.2.2.2.2.1.1 hE.2.2.2.2.2.1.2 hS (hl.1.trans C.2.2.1.symm) d0 d3 d4 d6 d9 htab ?_ ?_ (by show _ ≤ mMc M; omega) (by show _ ≤ mMs M; omega) C.2.2.2.2.2.1 ?_ hS.2.2 h1 h2
  · show 2 + 3 < 8 + mH M
    omega
  · rw [jcat_map]
    show _ + (13 * (2 + 1) + 43) ≤ 200 + 100 * mH M
    omega
  · intro t hA hz hq
    refine ⟨⟨(jN Γ, false, jK Γ, jL Γ, jR Γ, jSc Γ), h, k _ rfl rfl rfl rfl rfl rfl, ?_⟩, ?_⟩
    · refine ⟨fun k' hk' => ?_, Nat.le_trans hP.2.1 hz, hP.2.2.1, (fun z => by cases z), hP.2.2.2.2⟩
      have hk : k' < jN Γ := hk'
      have hb : G.2.2.1 + k' < H.size := Nat.lt_of_lt_of_le (Nat.add_lt_add_left hk _) hP.2.1
      rcases hP.1 k' hk with ⟨r, g1, g2⟩ | ⟨g1, g2, g3⟩
      · exact Or.inl ⟨r, g1, g2.kept (hq _ hb)⟩
      · exact Or.inr ⟨g1, g2, (hq _ hb).trans g3⟩
    · exact ⟨Nat.le_trans hS.1 hz, fun q h1 h2 => (hq q (Nat.lt_of_lt_of_le h1 hS.1)).trans (hS.2.1 q h1 h2)⟩
theorem j_thrW {E text : String} {ik is ic num : Nat} (hx : (Cond.classLink "MendBench" ik E :: Cond.initialized E :: vx_atS "MendBench" ic E jxn).all (fun w => decide (w ∈ tables_1) && (goodWord w || jNk w) && vx_ot w) = true) (hfit : Bundle.fit E = true) (ho : mO M = 11) (hs : ("MendBench", is, text, num) ∈ jStr) (hX : mX M = []) (h1 : u.1 + 1 ≤ mMc M) (h2 : u.2 + 6 ≤ mMs M) (hst : (st.map fun v => v.category).sum ≤ 8)
    (d0 : decode (mC M) pc = .ok (.new ik, 3)) (d3 : decode (mC M) (pc + 3) = .ok (.dup, 1)) (d4 : decode (mC M) (pc + 4) = .ok (.ldc_w is, 3)) (d6 : decode (mC M) (pc + 7) = .ok (.invokespecial ic, 3)) (d9 : decode (mC M) (pc + 10) = .ok (.athrow, 1))
    (k : ∀ Γ' : jS, jN Γ' = jN Γ → jFr Γ' = false → jK Γ' = jK Γ → jL Γ' = jL Γ → jR Γ' = jR Γ → jSc Γ' = jSc Γ → Q (.inr E) Γ' h) : WP M Q pc lv st Γ h u := by
  intro l G p e s m args below meth c C H locs ls hP hS hl
  obtain ⟨hat, hot⟩ := jx_at C hx
  have ho2 : s.vm.findClass "MendBench" = some m.cls := by have := jown C; rw [ho] at this; exact this
  have hE := C.2.2.2.2.2.2.2.2.2.1
  have htab : ∀ x ∈ c.exceptionTable.toList, covers x (pc + 10) = false := by
    rw [C.2.2.2.2.2.2.2.1, hX]
    intro x hx
    cases hx
  refine vx_throwSW C.1 C.2.1 C.2.2.2.2.2.2.2.2.2.2.2.1 (own := "MendBench") (cls := E) (text := text) (names := jxn) (A := jA G) ho2 hfit (by decide +kernel) (hat _ List.mem_cons_self) (hat _ (List.mem_cons_of_mem _ List.mem_cons_self)) (hE.2.2.2.1 _ hs) (fun w hw => hat w (List.mem_cons_of_mem _ (List.mem_cons_of_mem _ hw))) hot hE.2.2.2.2.2.1.1 hE.2.2.2.2.2.1.2 hS (hl.1.trans C.2.2.1.symm) d0 d3 d4 d6 d9 htab ?_ ?_ (by show _ ≤ mMc M; omega) (by show _ ≤ mMs M; omega) C.2.2.2.2.2.1 ?_ hS.2.2 h1 h2
  · show 2 + 3 < 8 + mH M
    omega
  · rw [jcat_map]
    show _ + (13 * (2 + 1) + 43) ≤ 200 + 100 * mH M
    omega
  · intro t hA hz hq
    refine ⟨⟨(jN Γ, false, jK Γ, jL Γ, jR Γ, jSc Γ), h, k _ rfl rfl rfl rfl rfl rfl, ?_⟩, ?_⟩
    · refine ⟨fun k' hk' => ?_, Nat.le_trans hP.2.1 hz, hP.2.2.1, (fun z => by cases z), hP.2.2.2.2⟩
      have hk : k' < jN Γ := hk'
      have hb : G.2.2.1 + k' < H.size := Nat.lt_of_lt_of_le (Nat.add_lt_add_left hk _) hP.2.1
      rcases hP.1 k' hk with ⟨r, g1, g2⟩ | ⟨g1, g2, g3⟩
      · exact Or.inl ⟨r, g1, g2.kept (hq _ hb)⟩
      · exact Or.inr ⟨g1, g2, (hq _ hb).trans g3⟩
    · exact ⟨Nat.le_trans hS.1 hz, fun q h1 h2 => (hq q (Nat.lt_of_lt_of_le h1 hS.1)).trans (hS.2.1 q h1 h2)⟩
theorem jG0_eta {sc : Nat × (Nat → Int32)} {Γ' : jS} (h1 : jN Γ' = jN (jG0 sc)) (h2 : jFr Γ' = false) (h3 : jK Γ' = jK (jG0 sc)) (h4 : jL Γ' = jL (jG0 sc)) (h5 : jR Γ' = jR (jG0 sc)) (h6 : jSc Γ' = jSc (jG0 sc)) : Γ' = jG0 sc := by
  obtain ⟨a, b, c, d, e, f⟩ := Γ'
  dsimp only [jN, jFr, jK, jL, jR, jSc] at h1 h2 h3 h4 h5 h6
  subst h1; subst h2; subst h3; subst h4; subst h5; subst h6
  rfl
theorem j_thr_IAE {sc : Nat × (Nat → Int32)} {is : Nat} (text : String) (num : Nat) (hs : ("MendBench", is, text, num) ∈ jStr) (ho : mO M = 11) (hX : mX M = []) (h1 : u.1 + 1 ≤ mMc M) (h2 : u.2 + 6 ≤ mMs M) (hst : (st.map fun v => v.category).sum ≤ 8)
    (d0 : decode (mC M) pc = .ok (.new 110, 3)) (d3 : decode (mC M) (pc + 3) = .ok (.dup, 1)) (d4 : decode (mC M) (pc + 4) = .ok (.ldc is, 2)) (d6 : decode (mC M) (pc + 6) = .ok (.invokespecial 114, 3)) (d9 : decode (mC M) (pc + 9) = .ok (.athrow, 1))
    (k : Q (.inr "java/lang/IllegalArgumentException") (jG0 sc) h) : WP M Q pc lv st (jG0 sc) h u :=
  j_thr jx_IAE (by decide +kernel) ho hs hX h1 h2 hst d0 d3 d4 d6 d9 (fun Γ' a b c d e f => by rw [jG0_eta a b c d e f]; exact k)
theorem j_thr_ISE {sc : Nat × (Nat → Int32)} {is : Nat} (text : String) (num : Nat) (hs : ("MendBench", is, text, num) ∈ jStr) (ho : mO M = 11) (hX : mX M = []) (h1 : u.1 + 1 ≤ mMc M) (h2 : u.2 + 6 ≤ mMs M) (hst : (st.map fun v => v.category).sum ≤ 8)
    (d0 : decode (mC M) pc = .ok (.new 203, 3)) (d3 : decode (mC M) (pc + 3) = .ok (.dup, 1)) (d4 : decode (mC M) (pc + 4) = .ok (.ldc is, 2)) (d6 : decode (mC M) (pc + 6) = .ok (.invokespecial 207, 3)) (d9 : decode (mC M) (pc + 9) = .ok (.athrow, 1))
    (k : Q (.inr "java/lang/IllegalStateException") (jG0 sc) h) : WP M Q pc lv st (jG0 sc) h u :=
  j_thr jx_ISE (by decide +kernel) ho hs hX h1 h2 hst d0 d3 d4 d6 d9 (fun Γ' a b c d e f => by rw [jG0_eta a b c d e f]; exact k)
theorem j_thr_IOB {sc : Nat × (Nat → Int32)} {is : Nat} (text : String) (num : Nat) (hs : ("MendBench", is, text, num) ∈ jStr) (ho : mO M = 11) (hX : mX M = []) (h1 : u.1 + 1 ≤ mMc M) (h2 : u.2 + 6 ≤ mMs M) (hst : (st.map fun v => v.category).sum ≤ 8)
    (d0 : decode (mC M) pc = .ok (.new 208, 3)) (d3 : decode (mC M) (pc + 3) = .ok (.dup, 1)) (d4 : decode (mC M) (pc + 4) = .ok (.ldc is, 2)) (d6 : decode (mC M) (pc + 6) = .ok (.invokespecial 212, 3)) (d9 : decode (mC M) (pc + 9) = .ok (.athrow, 1))
    (k : Q (.inr "java/lang/IndexOutOfBoundsException") (jG0 sc) h) : WP M Q pc lv st (jG0 sc) h u :=
  j_thr jx_IOB (by decide +kernel) ho hs hX h1 h2 hst d0 d3 d4 d6 d9 (fun Γ' a b c d e f => by rw [jG0_eta a b c d e f]; exact k)
theorem j_thr_UOE {sc : Nat × (Nat → Int32)} {is : Nat} (text : String) (num : Nat) (hs : ("MendBench", is, text, num) ∈ jStr) (ho : mO M = 11) (hX : mX M = []) (h1 : u.1 + 1 ≤ mMc M) (h2 : u.2 + 6 ≤ mMs M) (hst : (st.map fun v => v.category).sum ≤ 8)
    (d0 : decode (mC M) pc = .ok (.new 176, 3)) (d3 : decode (mC M) (pc + 3) = .ok (.dup, 1)) (d4 : decode (mC M) (pc + 4) = .ok (.ldc is, 2)) (d6 : decode (mC M) (pc + 6) = .ok (.invokespecial 180, 3)) (d9 : decode (mC M) (pc + 9) = .ok (.athrow, 1))
    (k : Q (.inr "java/lang/UnsupportedOperationException") (jG0 sc) h) : WP M Q pc lv st (jG0 sc) h u :=
  j_thr jx_UOE (by decide +kernel) ho hs hX h1 h2 hst d0 d3 d4 d6 d9 (fun Γ' a b c d e f => by rw [jG0_eta a b c d e f]; exact k)
theorem j_thrW_IAE {sc : Nat × (Nat → Int32)} {is : Nat} (text : String) (num : Nat) (hs : ("MendBench", is, text, num) ∈ jStr) (ho : mO M = 11) (hX : mX M = []) (h1 : u.1 + 1 ≤ mMc M) (h2 : u.2 + 6 ≤ mMs M) (hst : (st.map fun v => v.category).sum ≤ 8)
    (d0 : decode (mC M) pc = .ok (.new 110, 3)) (d3 : decode (mC M) (pc + 3) = .ok (.dup, 1)) (d4 : decode (mC M) (pc + 4) = .ok (.ldc_w is, 3)) (d6 : decode (mC M) (pc + 7) = .ok (.invokespecial 114, 3)) (d9 : decode (mC M) (pc + 10) = .ok (.athrow, 1))
    (k : Q (.inr "java/lang/IllegalArgumentException") (jG0 sc) h) : WP M Q pc lv st (jG0 sc) h u :=
  j_thrW jx_IAE (by decide +kernel) ho hs hX h1 h2 hst d0 d3 d4 d6 d9 (fun Γ' a b c d e f => by rw [jG0_eta a b c d e f]; exact k)
theorem j_thrW_ISE {sc : Nat × (Nat → Int32)} {is : Nat} (text : String) (num : Nat) (hs : ("MendBench", is, text, num) ∈ jStr) (ho : mO M = 11) (hX : mX M = []) (h1 : u.1 + 1 ≤ mMc M) (h2 : u.2 + 6 ≤ mMs M) (hst : (st.map fun v => v.category).sum ≤ 8)
    (d0 : decode (mC M) pc = .ok (.new 203, 3)) (d3 : decode (mC M) (pc + 3) = .ok (.dup, 1)) (d4 : decode (mC M) (pc + 4) = .ok (.ldc_w is, 3)) (d6 : decode (mC M) (pc + 7) = .ok (.invokespecial 207, 3)) (d9 : decode (mC M) (pc + 10) = .ok (.athrow, 1))
    (k : Q (.inr "java/lang/IllegalStateException") (jG0 sc) h) : WP M Q pc lv st (jG0 sc) h u :=
  j_thrW jx_ISE (by decide +kernel) ho hs hX h1 h2 hst d0 d3 d4 d6 d9 (fun Γ' a b c d e f => by rw [jG0_eta a b c d e f]; exact k)
theorem j_thrW_IOB {sc : Nat × (Nat → Int32)} {is : Nat} (text : String) (num : Nat) (hs : ("MendBench", is, text, num) ∈ jStr) (ho : mO M = 11) (hX : mX M = []) (h1 : u.1 + 1 ≤ mMc M) (h2 : u.2 + 6 ≤ mMs M) (hst : (st.map fun v => v.category).sum ≤ 8)
    (d0 : decode (mC M) pc = .ok (.new 208, 3)) (d3 : decode (mC M) (pc + 3) = .ok (.dup, 1)) (d4 : decode (mC M) (pc + 4) = .ok (.ldc_w is, 3)) (d6 : decode (mC M) (pc + 7) = .ok (.invokespecial 212, 3)) (d9 : decode (mC M) (pc + 10) = .ok (.athrow, 1))
    (k : Q (.inr "java/lang/IndexOutOfBoundsException") (jG0 sc) h) : WP M Q pc lv st (jG0 sc) h u :=
  j_thrW jx_IOB (by decide +kernel) ho hs hX h1 h2 hst d0 d3 d4 d6 d9 (fun Γ' a b c d e f => by rw [jG0_eta a b c d e f]; exact k)
theorem j_thrW_UOE {sc : Nat × (Nat → Int32)} {is : Nat} (text : String) (num : Nat) (hs : ("MendBench", is, text, num) ∈ jStr) (ho : mO M = 11) (hX : mX M = []) (h1 : u.1 + 1 ≤ mMc M) (h2 : u.2 + 6 ≤ mMs M) (hst : (st.map fun v => v.category).sum ≤ 8)
    (d0 : decode (mC M) pc = .ok (.new 176, 3)) (d3 : decode (mC M) (pc + 3) = .ok (.dup, 1)) (d4 : decode (mC M) (pc + 4) = .ok (.ldc_w is, 3)) (d6 : decode (mC M) (pc + 7) = .ok (.invokespecial 180, 3)) (d9 : decode (mC M) (pc + 10) = .ok (.athrow, 1))
    (k : Q (.inr "java/lang/UnsupportedOperationException") (jG0 sc) h) : WP M Q pc lv st (jG0 sc) h u :=
  j_thrW jx_UOE (by decide +kernel) ho hs hX h1 h2 hst d0 d3 d4 d6 d9 (fun Γ' a b c d e f => by rw [jG0_eta a b c d e f]; exact k)
theorem j_thr_NSE {sc : Nat × (Nat → Int32)} {is : Nat} (text : String) (num : Nat) (hs : ("MendBench", is, text, num) ∈ jStr) (ho : mO M = 11) (hX : mX M = []) (h1 : u.1 + 1 ≤ mMc M) (h2 : u.2 + 6 ≤ mMs M) (hst : (st.map fun v => v.category).sum ≤ 8)
    (d0 : decode (mC M) pc = .ok (.new 234, 3)) (d3 : decode (mC M) (pc + 3) = .ok (.dup, 1)) (d4 : decode (mC M) (pc + 4) = .ok (.ldc is, 2)) (d6 : decode (mC M) (pc + 6) = .ok (.invokespecial 238, 3)) (d9 : decode (mC M) (pc + 9) = .ok (.athrow, 1))
    (k : Q (.inr "java/util/NoSuchElementException") (jG0 sc) h) : WP M Q pc lv st (jG0 sc) h u := by sorry
theorem j_thrW_NSE {sc : Nat × (Nat → Int32)} {is : Nat} (text : String) (num : Nat) (hs : ("MendBench", is, text, num) ∈ jStr) (ho : mO M = 11) (hX : mX M = []) (h1 : u.1 + 1 ≤ mMc M) (h2 : u.2 + 6 ≤ mMs M) (hst : (st.map fun v => v.category).sum ≤ 8)
    (d0 : decode (mC M) pc = .ok (.new 234, 3)) (d3 : decode (mC M) (pc + 3) = .ok (.dup, 1)) (d4 : decode (mC M) (pc + 4) = .ok (.ldc_w is, 3)) (d6 : decode (mC M) (pc + 7) = .ok (.invokespecial 238, 3)) (d9 : decode (mC M) (pc + 10) = .ok (.athrow, 1))
    (k : Q (.inr "java/util/NoSuchElementException") (jG0 sc) h) : WP M Q pc lv st (jG0 sc) h u := by sorry
end JT
