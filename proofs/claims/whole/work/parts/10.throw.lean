/-! Throws: throw new E("text"), E one of five, in the class MendBench. -/
def jxn : List String := ["java/lang/RuntimeException", "java/lang/Exception"]
theorem jx_IAE : (Cond.classLink "MendBench" 110 "java/lang/IllegalArgumentException" :: Cond.initialized "java/lang/IllegalArgumentException" :: vx_atS "MendBench" 114 "java/lang/IllegalArgumentException" jxn).all (fun w => decide (w ∈ tables_1) && (goodWord w || jNk w) && vx_ot w) = true := by decide +kernel
theorem jx_ISE : (Cond.classLink "MendBench" 203 "java/lang/IllegalStateException" :: Cond.initialized "java/lang/IllegalStateException" :: vx_atS "MendBench" 207 "java/lang/IllegalStateException" jxn).all (fun w => decide (w ∈ tables_1) && (goodWord w || jNk w) && vx_ot w) = true := by decide +kernel
theorem jx_IOB : (Cond.classLink "MendBench" 208 "java/lang/IndexOutOfBoundsException" :: Cond.initialized "java/lang/IndexOutOfBoundsException" :: vx_atS "MendBench" 212 "java/lang/IndexOutOfBoundsException" jxn).all (fun w => decide (w ∈ tables_1) && (goodWord w || jNk w) && vx_ot w) = true := by decide +kernel
theorem jx_UOE : (Cond.classLink "MendBench" 176 "java/lang/UnsupportedOperationException" :: Cond.initialized "java/lang/UnsupportedOperationException" :: vx_atS "MendBench" 180 "java/lang/UnsupportedOperationException" jxn).all (fun w => decide (w ∈ tables_1) && (goodWord w || jNk w) && vx_ot w) = true := by decide +kernel
section JT
variable {M : jM} {Q : jQ} {pc : Nat} {lv : List (Option Value)} {st : List Value} {Γ : jS} {h : jH} {u : Nat × Nat}
theorem jx_at {l : Launch} {G : jG} {p : Program} {s : State} {m : MethodId} {args : Array Value} {meth : Method} {c : Code} (C : jC l G M p s m args meth c) {L : List Cond} (hL : L.all (fun w => decide (w ∈ tables_1) && (goodWord w || jNk w) && vx_ot w) = true) : (∀ w ∈ L, w.before args s = true) ∧ ∀ w ∈ L, vx_ot w = true := by
  refine ⟨fun w hw => ?_, fun w hw => ?_⟩
  · have h := List.all_eq_true.mp hL w hw
    simp only [Bool.and_eq_true, Bool.or_eq_true, decide_eq_true_eq] at h
    rcases h.1.2 with g | g
    · exact jword C (jTbl h.1.1) g
    · refine jwordN C (List.mem_filter.mpr ⟨jTbl h.1.1, g⟩) ?_
      cases w <;> first | rfl | (exfalso; revert g; simp [jNk])
  · have h := List.all_eq_true.mp hL w hw
    simp only [Bool.and_eq_true] at h
    exact h.2
theorem j_thr {E text : String} {ik is ic num : Nat} (hx : (Cond.classLink "MendBench" ik E :: Cond.initialized E :: vx_atS "MendBench" ic E jxn).all (fun w => decide (w ∈ tables_1) && (goodWord w || jNk w) && vx_ot w) = true) (hfit : Bundle.fit E = true) (ho : mO M = 11) (hs : ("MendBench", is, text, num) ∈ jStr) (hX : mX M = []) (h1 : u.1 + 1 ≤ mMc M) (h2 : u.2 + 6 ≤ mMs M) (hst : (st.map fun v => v.category).sum ≤ 8)
    (d0 : decode (mC M) pc = .ok (.new ik, 3)) (d3 : decode (mC M) (pc + 3) = .ok (.dup, 1)) (d4 : decode (mC M) (pc + 4) = .ok (.ldc is, 2)) (d6 : decode (mC M) (pc + 6) = .ok (.invokespecial ic, 3)) (d9 : decode (mC M) (pc + 9) = .ok (.athrow, 1))
    (k : ∀ Γ' : jS, jN Γ' = jN Γ → jFr Γ' = false → jK Γ' = jK Γ → jL Γ' = jL Γ → jR Γ' = jR Γ → jSc Γ' = jSc Γ → Q (.inr E) Γ' h) : WP M Q pc lv st Γ h u := by
  intro l G p e s m args below meth c C H locs ls hP hS hl
  obtain ⟨hat, hot⟩ := jx_at C hx
  have ho2 : s.vm.findClass "MendBench" = some m.cls := by have := jown C; rw [ho] at this; exact this
  have hE := C.2.2.2.2.2.2.2.2.2.1
  have htab : ∀ x ∈ c.exceptionTable.toList, covers x (pc + 9) = false := by
    rw [C.2.2.2.2.2.2.2.1, hX]
    intro x hx
    cases hx
  refine vx_throwS C.1 C.2.1 C.2.2.2.2.2.2.2.2.2.2.2.1 (own := "MendBench") (cls := E) (text := text) (names := jxn) (A := jA G) ho2 hfit (by decide +kernel) (hat _ List.mem_cons_self) (hat _ (List.mem_cons_of_mem _ List.mem_cons_self)) (hE.2.2.2.1 _ hs) (fun w hw => hat w (List.mem_cons_of_mem _ (List.mem_cons_of_mem _ hw))) hot hE.2.2.2.2.2.1.1 hE.2.2.2.2.2.1.2 hS (hl.1.trans C.2.2.1.symm) d0 d3 d4 d6 d9 htab ?_ ?_ (by show _ ≤ mMc M; omega) (by show _ ≤ mMs M; omega) C.2.2.2.2.2.1 ?_ hS.2.2 h1 h2
  · show 2 + 3 < 8 + mH M
    omega
  · rw [jcat_map]
    show _ + (13 * (2 + 1) + 43) ≤ 200 + 100 * mH M
    omega
  · intro t hA hz hq
    refine ⟨⟨(jN Γ, false, jK Γ, jL Γ, jR Γ, jSc Γ), h, k _ rfl rfl rfl rfl rfl rfl, ?_⟩, ?_⟩
    · refine ⟨fun k' hk' => ?_, Nat.le_trans hP.2.1 hz, hP.2.2.1, (fun z => by cases z), hP.2.2.2.2⟩
      have hk : k' < jN Γ := hk'
      have hb : G.2.2.1 + k' < H.size := Nat.lt_of_lt_of_le (Nat.add_lt_add_left hk _) hP.2.1
      rcases hP.1 k' hk with ⟨r, g1, g2⟩ | ⟨g1, g2, g3⟩
      · exact Or.inl ⟨r, g1, g2.kept (hq _ hb)⟩
      · exact Or.inr ⟨g1, g2, (hq _ hb).trans g3⟩
    · exact ⟨Nat.le_trans hS.1 hz, fun q h1 h2 => (hq q (Nat.lt_of_lt_of_le h1 hS.1)).trans (hS.2.1 q h1 h2)⟩
theorem j_thrW {E text : String} {ik is ic num : Nat} (hx : (Cond.classLink "MendBench" ik E :: Cond.initialized E :: vx_atS "MendBench" ic E jxn).all (fun w => decide (w ∈ tables_1) && (goodWord w || jNk w) && vx_ot w) = true) (hfit : Bundle.fit E = true) (ho : mO M = 11) (hs : ("MendBench", is, text, num) ∈ jStr) (hX : mX M = []) (h1 : u.1 + 1 ≤ mMc M) (h2 : u.2 + 6 ≤ mMs M) (hst : (st.map fun v => v.category).sum ≤ 8)
    (d0 : decode (mC M) pc = .ok (.new ik, 3)) (d3 : decode (mC M) (pc + 3) = .ok (.dup, 1)) (d4 : decode (mC M) (pc + 4) = .ok (.ldc_w is, 3)) (d6 : decode (mC M) (pc + 7) = .ok (.invokespecial ic, 3)) (d9 : decode (mC M) (pc + 10) = .ok (.athrow, 1))
    (k : ∀ Γ' : jS, jN Γ' = jN Γ → jFr Γ' = false → jK Γ' = jK Γ → jL Γ' = jL Γ → jR Γ' = jR Γ → jSc Γ' = jSc Γ → Q (.inr E) Γ' h) : WP M Q pc lv st Γ h u := by
  intro l G p e s m args below meth c C H locs ls hP hS hl
  obtain ⟨hat, hot⟩ := jx_at C hx
  have ho2 : s.vm.findClass "MendBench" = some m.cls := by have := jown C; rw [ho] at this; exact this
  have hE := C.2.2.2.2.2.2.2.2.2.1
  have htab : ∀ x ∈ c.exceptionTable.toList, covers x (pc + 10) = false := by
    rw [C.2.2.2.2.2.2.2.1, hX]
    intro x hx
    cases hx
  refine vx_throwSW C.1 C.2.1 C.2.2.2.2.2.2.2.2.2.2.2.1 (own := "MendBench") (cls := E) (text := text) (names := jxn) (A := jA G) ho2 hfit (by decide +kernel) (hat _ List.mem_cons_self) (hat _ (List.mem_cons_of_mem _ List.mem_cons_self)) (hE.2.2.2.1 _ hs) (fun w hw => hat w (List.mem_cons_of_mem _ (List.mem_cons_of_mem _ hw))) hot hE.2.2.2.2.2.1.1 hE.2.2.2.2.2.1.2 hS (hl.1.trans C.2.2.1.symm) d0 d3 d4 d6 d9 htab ?_ ?_ (by show _ ≤ mMc M; omega) (by show _ ≤ mMs M; omega) C.2.2.2.2.2.1 ?_ hS.2.2 h1 h2
  · show 2 + 3 < 8 + mH M
    omega
  · rw [jcat_map]
    show _ + (13 * (2 + 1) + 43) ≤ 200 + 100 * mH M
    omega
  · intro t hA hz hq
    refine ⟨⟨(jN Γ, false, jK Γ, jL Γ, jR Γ, jSc Γ), h, k _ rfl rfl rfl rfl rfl rfl, ?_⟩, ?_⟩
    · refine ⟨fun k' hk' => ?_, Nat.le_trans hP.2.1 hz, hP.2.2.1, (fun z => by cases z), hP.2.2.2.2⟩
      have hk : k' < jN Γ := hk'
      have hb : G.2.2.1 + k' < H.size := Nat.lt_of_lt_of_le (Nat.add_lt_add_left hk _) hP.2.1
      rcases hP.1 k' hk with ⟨r, g1, g2⟩ | ⟨g1, g2, g3⟩
      · exact Or.inl ⟨r, g1, g2.kept (hq _ hb)⟩
      · exact Or.inr ⟨g1, g2, (hq _ hb).trans g3⟩
    · exact ⟨Nat.le_trans hS.1 hz, fun q h1 h2 => (hq q (Nat.lt_of_lt_of_le h1 hS.1)).trans (hS.2.1 q h1 h2)⟩
theorem jG0_eta {sc : Nat × (Nat → Int32)} {Γ' : jS} (h1 : jN Γ' = jN (jG0 sc)) (h2 : jFr Γ' = false) (h3 : jK Γ' = jK (jG0 sc)) (h4 : jL Γ' = jL (jG0 sc)) (h5 : jR Γ' = jR (jG0 sc)) (h6 : jSc Γ' = jSc (jG0 sc)) : Γ' = jG0 sc := by
  obtain ⟨a, b, c, d, e, f⟩ := Γ'
  dsimp only [jN, jFr, jK, jL, jR, jSc] at h1 h2 h3 h4 h5 h6
  subst h1; subst h2; subst h3; subst h4; subst h5; subst h6
  rfl
theorem j_thr_IAE {sc : Nat × (Nat → Int32)} {is : Nat} (text : String) (num : Nat) (hs : ("MendBench", is, text, num) ∈ jStr) (ho : mO M = 11) (hX : mX M = []) (h1 : u.1 + 1 ≤ mMc M) (h2 : u.2 + 6 ≤ mMs M) (hst : (st.map fun v => v.category).sum ≤ 8)
    (d0 : decode (mC M) pc = .ok (.new 110, 3)) (d3 : decode (mC M) (pc + 3) = .ok (.dup, 1)) (d4 : decode (mC M) (pc + 4) = .ok (.ldc is, 2)) (d6 : decode (mC M) (pc + 6) = .ok (.invokespecial 114, 3)) (d9 : decode (mC M) (pc + 9) = .ok (.athrow, 1))
    (k : Q (.inr "java/lang/IllegalArgumentException") (jG0 sc) h) : WP M Q pc lv st (jG0 sc) h u :=
  j_thr jx_IAE (by decide +kernel) ho hs hX h1 h2 hst d0 d3 d4 d6 d9 (fun Γ' a b c d e f => by rw [jG0_eta a b c d e f]; exact k)
theorem j_thr_ISE {sc : Nat × (Nat → Int32)} {is : Nat} (text : String) (num : Nat) (hs : ("MendBench", is, text, num) ∈ jStr) (ho : mO M = 11) (hX : mX M = []) (h1 : u.1 + 1 ≤ mMc M) (h2 : u.2 + 6 ≤ mMs M) (hst : (st.map fun v => v.category).sum ≤ 8)
    (d0 : decode (mC M) pc = .ok (.new 203, 3)) (d3 : decode (mC M) (pc + 3) = .ok (.dup, 1)) (d4 : decode (mC M) (pc + 4) = .ok (.ldc is, 2)) (d6 : decode (mC M) (pc + 6) = .ok (.invokespecial 207, 3)) (d9 : decode (mC M) (pc + 9) = .ok (.athrow, 1))
    (k : Q (.inr "java/lang/IllegalStateException") (jG0 sc) h) : WP M Q pc lv st (jG0 sc) h u :=
  j_thr jx_ISE (by decide +kernel) ho hs hX h1 h2 hst d0 d3 d4 d6 d9 (fun Γ' a b c d e f => by rw [jG0_eta a b c d e f]; exact k)
theorem j_thr_IOB {sc : Nat × (Nat → Int32)} {is : Nat} (text : String) (num : Nat) (hs : ("MendBench", is, text, num) ∈ jStr) (ho : mO M = 11) (hX : mX M = []) (h1 : u.1 + 1 ≤ mMc M) (h2 : u.2 + 6 ≤ mMs M) (hst : (st.map fun v => v.category).sum ≤ 8)
    (d0 : decode (mC M) pc = .ok (.new 208, 3)) (d3 : decode (mC M) (pc + 3) = .ok (.dup, 1)) (d4 : decode (mC M) (pc + 4) = .ok (.ldc is, 2)) (d6 : decode (mC M) (pc + 6) = .ok (.invokespecial 212, 3)) (d9 : decode (mC M) (pc + 9) = .ok (.athrow, 1))
    (k : Q (.inr "java/lang/IndexOutOfBoundsException") (jG0 sc) h) : WP M Q pc lv st (jG0 sc) h u :=
  j_thr jx_IOB (by decide +kernel) ho hs hX h1 h2 hst d0 d3 d4 d6 d9 (fun Γ' a b c d e f => by rw [jG0_eta a b c d e f]; exact k)
theorem j_thr_UOE {sc : Nat × (Nat → Int32)} {is : Nat} (text : String) (num : Nat) (hs : ("MendBench", is, text, num) ∈ jStr) (ho : mO M = 11) (hX : mX M = []) (h1 : u.1 + 1 ≤ mMc M) (h2 : u.2 + 6 ≤ mMs M) (hst : (st.map fun v => v.category).sum ≤ 8)
    (d0 : decode (mC M) pc = .ok (.new 176, 3)) (d3 : decode (mC M) (pc + 3) = .ok (.dup, 1)) (d4 : decode (mC M) (pc + 4) = .ok (.ldc is, 2)) (d6 : decode (mC M) (pc + 6) = .ok (.invokespecial 180, 3)) (d9 : decode (mC M) (pc + 9) = .ok (.athrow, 1))
    (k : Q (.inr "java/lang/UnsupportedOperationException") (jG0 sc) h) : WP M Q pc lv st (jG0 sc) h u :=
  j_thr jx_UOE (by decide +kernel) ho hs hX h1 h2 hst d0 d3 d4 d6 d9 (fun Γ' a b c d e f => by rw [jG0_eta a b c d e f]; exact k)
theorem j_thrW_IAE {sc : Nat × (Nat → Int32)} {is : Nat} (text : String) (num : Nat) (hs : ("MendBench", is, text, num) ∈ jStr) (ho : mO M = 11) (hX : mX M = []) (h1 : u.1 + 1 ≤ mMc M) (h2 : u.2 + 6 ≤ mMs M) (hst : (st.map fun v => v.category).sum ≤ 8)
    (d0 : decode (mC M) pc = .ok (.new 110, 3)) (d3 : decode (mC M) (pc + 3) = .ok (.dup, 1)) (d4 : decode (mC M) (pc + 4) = .ok (.ldc_w is, 3)) (d6 : decode (mC M) (pc + 7) = .ok (.invokespecial 114, 3)) (d9 : decode (mC M) (pc + 10) = .ok (.athrow, 1))
    (k : Q (.inr "java/lang/IllegalArgumentException") (jG0 sc) h) : WP M Q pc lv st (jG0 sc) h u :=
  j_thrW jx_IAE (by decide +kernel) ho hs hX h1 h2 hst d0 d3 d4 d6 d9 (fun Γ' a b c d e f => by rw [jG0_eta a b c d e f]; exact k)
theorem j_thrW_ISE {sc : Nat × (Nat → Int32)} {is : Nat} (text : String) (num : Nat) (hs : ("MendBench", is, text, num) ∈ jStr) (ho : mO M = 11) (hX : mX M = []) (h1 : u.1 + 1 ≤ mMc M) (h2 : u.2 + 6 ≤ mMs M) (hst : (st.map fun v => v.category).sum ≤ 8)
    (d0 : decode (mC M) pc = .ok (.new 203, 3)) (d3 : decode (mC M) (pc + 3) = .ok (.dup, 1)) (d4 : decode (mC M) (pc + 4) = .ok (.ldc_w is, 3)) (d6 : decode (mC M) (pc + 7) = .ok (.invokespecial 207, 3)) (d9 : decode (mC M) (pc + 10) = .ok (.athrow, 1))
    (k : Q (.inr "java/lang/IllegalStateException") (jG0 sc) h) : WP M Q pc lv st (jG0 sc) h u :=
  j_thrW jx_ISE (by decide +kernel) ho hs hX h1 h2 hst d0 d3 d4 d6 d9 (fun Γ' a b c d e f => by rw [jG0_eta a b c d e f]; exact k)
theorem j_thrW_IOB {sc : Nat × (Nat → Int32)} {is : Nat} (text : String) (num : Nat) (hs : ("MendBench", is, text, num) ∈ jStr) (ho : mO M = 11) (hX : mX M = []) (h1 : u.1 + 1 ≤ mMc M) (h2 : u.2 + 6 ≤ mMs M) (hst : (st.map fun v => v.category).sum ≤ 8)
    (d0 : decode (mC M) pc = .ok (.new 208, 3)) (d3 : decode (mC M) (pc + 3) = .ok (.dup, 1)) (d4 : decode (mC M) (pc + 4) = .ok (.ldc_w is, 3)) (d6 : decode (mC M) (pc + 7) = .ok (.invokespecial 212, 3)) (d9 : decode (mC M) (pc + 10) = .ok (.athrow, 1))
    (k : Q (.inr "java/lang/IndexOutOfBoundsException") (jG0 sc) h) : WP M Q pc lv st (jG0 sc) h u :=
  j_thrW jx_IOB (by decide +kernel) ho hs hX h1 h2 hst d0 d3 d4 d6 d9 (fun Γ' a b c d e f => by rw [jG0_eta a b c d e f]; exact k)
theorem j_thrW_UOE {sc : Nat × (Nat → Int32)} {is : Nat} (text : String) (num : Nat) (hs : ("MendBench", is, text, num) ∈ jStr) (ho : mO M = 11) (hX : mX M = []) (h1 : u.1 + 1 ≤ mMc M) (h2 : u.2 + 6 ≤ mMs M) (hst : (st.map fun v => v.category).sum ≤ 8)
    (d0 : decode (mC M) pc = .ok (.new 176, 3)) (d3 : decode (mC M) (pc + 3) = .ok (.dup, 1)) (d4 : decode (mC M) (pc + 4) = .ok (.ldc_w is, 3)) (d6 : decode (mC M) (pc + 7) = .ok (.invokespecial 180, 3)) (d9 : decode (mC M) (pc + 10) = .ok (.athrow, 1))
    (k : Q (.inr "java/lang/UnsupportedOperationException") (jG0 sc) h) : WP M Q pc lv st (jG0 sc) h u :=
  j_thrW jx_UOE (by decide +kernel) ho hs hX h1 h2 hst d0 d3 d4 d6 d9 (fun Γ' a b c d e f => by rw [jG0_eta a b c d e f]; exact k)
end JT
section NSE
variable {p : Program} {l : Launch} {e : Env} {R : Room} {s : State} {m : MethodId} {args : Array Value} {below : List Frame} {meth : Method} {c : Code} {V : State} {cells slots : Nat}
theorem jx_NSE : (Cond.classLink "MendBench" 234 "java/util/NoSuchElementException" :: Cond.initialized "java/util/NoSuchElementException" :: (Bundle.ownAtomsX "MendBench" 238 "java/util/NoSuchElementException" 13 prog_32_method_4_code jxn).filter vx_no).all (fun w => decide (w ∈ tables_1) && (goodWord w || jNk w) && vx_ot w) = true := by decide +kernel
set_option maxHeartbeats 1000000 in
theorem jx_ctor (X : Stand p l e R s m args below meth c V [] cells slots) (hexec : p.tables.exec = Jvm.exec) (htr : e.platform.stackTraces = false) {own cls : String} {names : List String} {ic ix : Nat} {rx : ByteArray}
    (x0 : decode rx 0 = .ok (.aload_n 0, 1)) (x1 : decode rx 1 = .ok (.aload_n 1, 1)) (x2 : decode rx 2 = .ok (.invokespecial ix, 3)) (x5 : decode rx 5 = .ok (.return_, 1))
    (hown : s.vm.findClass own = some m.cls) (hcls : Bundle.fit cls = true) (hnames : ∀ n ∈ names, Bundle.fit n = true) (h : ∀ w ∈ Bundle.ownAtomsX own ic cls ix rx names, w.before args s = true)
    {a : Addr} {cX : ClassId} {kX : Class} (hfX : s.vm.findClass cls = some cX) (hkX : s.vm.classes[cX]? = some kX) (hcell : V.heap[a]? = some (freshCell cX kX)) (hnew : s.heap.size ≤ a) {msg : Value} (hmsg : msg.isRef = true)
    {g : JFrame} (hg : g.method = m) (hsize : g.locals.size = c.maxLocals) (hlocked : g.locked = none) (hentered : g.entered = []) {rest : List Value} (hstack : g.stack = msg :: .ref a :: .ref a :: rest)
    (hd6 : decode c.code g.pc = .ok (.invokespecial ic, 3)) (hd9 : decode c.code (g.pc + 3) = .ok (.athrow, 1)) (hout : ∀ x ∈ c.exceptionTable.toList, covers x (g.pc + 3) = false)
    (hRf : names.length + 3 < R.frames) (hRl : 2 * g.monitorRoom + ((Value.ref a :: rest).map fun v => v.category).sum + (13 * (names.length + 1) + 42) ≤ R.locals) (hlocks : meth.locks = false) :
    ∃ U : State, Steps p.tables e below (V.setTop g) U ∧ U.status = .running ∧ Ended U below (.threw a) ∧ s.WarmedH U.vm ∧ s.sameButNew ({ U with vm := s.vm } : State) [] cells slots ∧
      ∃ ce, U.heap[a]? = some ce ∧ s.vm.findClass cls = some ce.cls ∧ ce.vm = .none := by
  have q1 : e.platform.frameOwnsMonitors = true := by rw [X.admits.platform]
  have q2 : e.platform.finalization = false := by rw [X.admits.platform]
  have hpl : e.platform.magicAccessors = ({} : Platform).magicAccessors := by rw [X.admits.platform]
  have wd : ∀ x, x ∈ Bundle.ownAtomsX own ic cls ix rx names → x.holds args s none s [] = true := fun x hx => h x hx
  obtain ⟨T, Z0, L, -, Y⟩ := ThrowableC.of_atoms (args := args) q1 q2 hpl (fun x hx => h x (by simp [Bundle.ownAtomsX, hx]))
  obtain ⟨Z, M, LZ, LM, hnZ⟩ := Init0T.ofS_atoms (args := args) hpl L Y (fun x hx => h x (by simp [Bundle.ownAtomsX, hx]))
  obtain ⟨P1, Ps, hlen, L1, hL, hPm, hk1, hk2⟩ := Bundle.chainSX (args := args) hpl hnZ x0 x1 x2 x5 names cls hcls hnames (fun x hx => h x (by simp [Bundle.ownAtomsX, hx]))
  have hfd : s.vm.findClass cls = some P1.m.cls := findClass_of_methodNamed hPm
  cases Option.some.inj (hfX.symm.trans hfd)
  obtain ⟨c1, kY, hc1, hk, hord, -, -, -⟩ := Cond.instantiable_spec (wd (.instantiable cls 6) (by simp [Bundle.ownAtomsX]))
  cases Option.some.inj (hc1.symm.trans hfd)
  cases Option.some.inj (hkX.symm.trans hk)
  have sel0 : selectMethod e.platform s.vm P1.m.cls T.fill0 = .method T.fill0 := by
    obtain ⟨c2, r2, m2, z1, z2, z3, z4, -⟩ := Cond.selects_spec (wd (.selects cls Bundle.tFill0 Bundle.tFill0) (by simp [Bundle.ownAtomsX]))
    cases Option.some.inj (z1.symm.trans hfd)
    cases Option.some.inj (z2.symm.trans (State.methodFound?_of_named Y.fill0 (by decide)))
    cases Option.some.inj (z3.symm.trans Y.fill0)
    rw [Launch.admits_selectMethod X.admits]; exact z4
  have selF : selectMethod e.platform s.vm P1.m.cls T.fill = .method T.fill := by
    obtain ⟨c2, r2, m2, z1, z2, z3, z4, -⟩ := Cond.selects_spec (wd (.selects cls Bundle.tFill Bundle.tFill) (by simp [Bundle.ownAtomsX]))
    cases Option.some.inj (z1.symm.trans hfd)
    cases Option.some.inj (z2.symm.trans (State.methodFound?_of_named Y.fill (by decide)))
    cases Option.some.inj (z3.symm.trans Y.fill)
    rw [Launch.admits_selectMethod X.admits]; exact z4
  obtain ⟨c0, hc0, hst⟩ := Y.statics
  obtain ⟨u0, hu0⟩ := Cond.staticRefV Y.unassigned L.unassignedStatic L.statics hc0 hst (wd (.isRef (.static Bundle.tN "UNASSIGNED_STACK" Bundle.steD)) (by simp [Bundle.ownAtomsX]))
  obtain ⟨sn, hsn⟩ := Cond.staticRefV Y.sentinel L.sentinelStatic L.statics hc0 hst (wd (.isRef (.static Bundle.tN "SUPPRESSED_SENTINEL" Bundle.listD)) (by simp [Bundle.ownAtomsX]))
  obtain ⟨ci, i9, fB, hk9, hg9, ha9, hsB, -, hnB, htB, hfB⟩ := Cond.ownField (t := .object "java/lang/Object") Y.found L.cls (by decide +kernel) (wd (.fieldLink Bundle.tN 198 Bundle.tN "backtrace" "Ljava/lang/Object;") (by simp [Bundle.ownAtomsX])) (wd (.lays Bundle.tN Bundle.tN "backtrace" "Ljava/lang/Object;") (by simp [Bundle.ownAtomsX])) e.platform hpl
  obtain ⟨cS, hcS, heS, -, hkeep⟩ := X.same.2.2.2.2.2 T.aS c0 hc0
  have hcS' : V.heap[T.aS]? = some cS := hcS
  have hno : ∀ i, (⟨T.aS, i⟩ : Loc) ∉ ([] : List Loc) := fun i hm => nomatch hm
  have hkn : cS.vm ≠ .unknown := by
    rw [heS]; intro hu
    rw [show c0.vm = .unknown from hu] at hst
    cases hst
  have hne : T.aS ≠ a := Nat.ne_of_lt (Nat.lt_of_lt_of_le (Array.getElem?_eq_some_iff.mp hc0).1 hnew)
  obtain ⟨iM, hfM⟩ := Y.msg
  obtain ⟨tyC, dC, hdC, hnC⟩ := Cond.laysAt hfd hk Y.cause (wd (.lays cls Bundle.tN "cause" "Ljava/lang/Throwable;") (by simp [Bundle.ownAtomsX]))
  obtain ⟨tyS, dS, hdS, hnS⟩ := Cond.laysAt hfd hk Y.stack (wd (.lays cls Bundle.tN "stackTrace" Bundle.steD) (by simp [Bundle.ownAtomsX]))
  obtain ⟨tyP, dP, hdP, hnP⟩ := Cond.laysAt hfd hk Y.supp (wd (.lays cls Bundle.tN "suppressedExceptions" Bundle.listD) (by simp [Bundle.ownAtomsX]))
  obtain ⟨tyM, dM, hdM, hnM⟩ := Cond.laysAt hfd hk hfM (wd (.lays cls Bundle.tN "detailMessage" "Ljava/lang/String;") (by simp [Bundle.ownAtomsX]))
  obtain ⟨tyB, dB, hdB, hnB2⟩ := Cond.laysAt hfd hk hfB (wd (.lays cls Bundle.tN "backtrace" "Ljava/lang/Object;") (by simp [Bundle.ownAtomsX]))
  have bC := Cond.laysApart hdB hdC hnB2 hnC (by rw [hnB, Y.causeName]; decide)
  have bS := Cond.laysApart hdB hdS hnB2 hnS (by rw [hnB, Y.stackName]; decide)
  have bP := Cond.laysApart hdB hdP hnB2 hnP (by rw [hnB, Y.suppName]; decide)
  have hskip : SkipFacts T e.platform s (fun u => u) u0 ((preparedCellV T.toThrowableT (freshCell P1.m.cls kX) a u0 sn).withEntry V.cur) :=
    ⟨{ ci198 := ci, i198 := i9, fBack := fB }, ⟨hk9, hg9, ha9, hsB⟩, by
      have := fresh_default (c := P1.m.cls) tyB
      rw [htB] at this
      simpa [preparedCellV, Cell.setSlot, Cell.withEntry, Array.getElem?_setIfInBounds, bC, bS, bP, bC.symm, bS.symm, bP.symm, defaultValue] using this, fun _ _ => rfl⟩
  have hin : ∀ w ∈ Bundle.passSAtoms cls (match names with | [] => Bundle.tN | y :: _ => y) ix rx, w.before args s = true := fun w hw => h w (by
    cases names <;> simp only [Bundle.ownAtomsX, Bundle.chainSAtomsX, List.mem_append] <;> simp [hw])
  obtain ⟨tm, methC, cdC, kC, v1, hn1, -, -, -, -, -, -, -, hW1, st1⟩ := Steps.initColdS (tb := p.tables) (e := e) (below := below) (s := s) (U := V) X.here hexec X.warmed hpl hown (t := Bundle.initS cls) rfl rfl (Bundle.fit_spec hcls).2
    (wd (.methodLink own ic (Bundle.initS cls)) (by simp [Bundle.ownAtomsX])) (hin _ (by simp [Bundle.passSAtoms])) (bytes := rx) (maxL := 2) (hin _ (by simp [Bundle.passSAtoms])) (f := g) hg (a := a) (msg := msg) (rest := .ref a :: rest) hstack hd6
  cases Option.some.inj (hn1.symm.trans hPm)
  have X1 := X.noted hW1
  obtain ⟨v2, X2, st2⟩ := X1.ctorMessageOffV hexec (g := { g with stack := .ref a :: rest }) hg hsize T L Z LZ M LM (P1 :: Ps)
    (fun P hP => by rcases List.mem_cons.mp hP with rfl | hP; exact L1; exact hL P hP) ⟨hk1, hk2⟩ (u0 := u0) (sen := sn) (self := a) hmsg (cell := freshCell P1.m.cls kX) (cellS := cS)
    hcell (fun _ => by simp) (by simp) rfl rfl sel0 selF hcS' hne hkn (by rw [hkeep _ (hno _)]; exact hu0) (by rw [hkeep _ (hno _)]; exact hsn)
    (Takes.of_laid hk hord tyC (by rw [Y.causeType]; rfl)) (Takes.of_laid hk hord tyS (by rw [Y.stackType]; exact fits_refV_array _ u0)) (Takes.of_laid hk hord tyP (by rw [Y.suppType]; exact fits_refV_object _ sn))
    (Takes.of_laid hk hord tyM (by rw [Y.msgType]; exact fits_refV_object _ ⟨msg, hmsg⟩)) Y.objLocals hskip htr [] hd6
    (by simp only [List.length_cons, hlen]; omega) (by simp only [List.length_cons, hlen]; exact hRl)
  obtain ⟨hwalk, hrun, hend, hWU, hsame⟩ := X2.athrowLeaves hexec (g := { g with stack := .ref a :: rest, pc := g.pc + 3 }) hg hlocked hentered hout (a := a) (rest := rest) rfl hd9
  have hlt : a < ((V.setVm v1).setVm v2).heap.size := (Array.getElem?_eq_some_iff.mp hcell).1
  have hU := heapAt_setCell_self (s := (V.setVm v1).setVm v2) (plainBareV T.toThrowableT (freshCell P1.m.cls kX) a u0 sn msg) hlt
  refine ⟨_, st1 _ (fun acts => ?_), hrun, hend, hWU, hsame.weaken (fun y hy hl' => ?_) (Nat.le_refl _) (Nat.le_refl _), _, hU, hfd, rfl⟩
  · rw [doInvoke_state]
    exact st2 _ hwalk
  · exfalso
    have hb : y.base = a := by
      rcases List.mem_append.mp hy with h1 | h1
      · exact nomatch h1
      · simp only [List.mem_cons, List.not_mem_nil, or_false] at h1
        rcases h1 with rfl | rfl | rfl | rfl | rfl <;> rfl
    rw [hb] at hl'
    exact Nat.not_lt.mpr hnew hl'
end NSE
section NSE2
variable {M : jM} {Q : jQ} {pc : Nat} {lv : List (Option Value)} {st : List Value} {Γ : jS} {h : jH} {u : Nat × Nat}
/-- the throw, up to how the text is loaded: d bytes -/
theorem jx_throw {text : String} {is num d : Nat} (ho : mO M = 11) (hs : ("MendBench", is, text, num) ∈ jStr) (hX : mX M = []) (h1 : u.1 + 1 ≤ mMc M) (h2 : u.2 + 6 ≤ mMs M) (hst : (st.map fun v => v.category).sum ≤ 8)
    (d0 : decode (mC M) pc = .ok (.new 234, 3)) (d3 : decode (mC M) (pc + 3) = .ok (.dup, 1)) (d6 : decode (mC M) (pc + 4 + d) = .ok (.invokespecial 238, 3)) (d9 : decode (mC M) (pc + 4 + d + 3) = .ok (.athrow, 1))
    (ld : ∀ {p : Program} {l : Launch} {e : Env} {R : Room} {s : State} {m : MethodId} {args : Array Value} {below : List Frame} {meth : Method} {c : Code} {V : State} {cells slots sa : Nat}, Stand p l e R s m args below meth c V [] cells slots → p.tables.exec = Jvm.exec → c.code = mC M → s.vm.findClass "MendBench" = some m.cls → vk_R "MendBench" is text sa s → ∀ (g : JFrame), g.method = m → g.pc = pc + 4 → ∀ U, Steps p.tables e below (V.setTop { g with pc := pc + 4 + d, stack := .ref sa :: g.stack }) U → Steps p.tables e below (V.setTop g) U)
    (k : ∀ Γ' : jS, jN Γ' = jN Γ → jFr Γ' = false → jK Γ' = jK Γ → jL Γ' = jL Γ → jR Γ' = jR Γ → jSc Γ' = jSc Γ → Q (.inr "java/util/NoSuchElementException") Γ' h) : WP M Q pc lv st Γ h u := by
  intro l G p e s m args below meth c C H locs ls hP hS hl
  obtain ⟨hat, hot⟩ := jx_at C jx_NSE
  have ho2 : s.vm.findClass "MendBench" = some m.cls := by have := jown C; rw [ho] at this; exact this
  have hE := C.2.2.2.2.2.2.2.2.2.1
  have htab : ∀ x ∈ c.exceptionTable.toList, covers x (pc + 4 + d + 3) = false := by
    rw [C.2.2.2.2.2.2.2.1, hX]
    intro x hx
    cases hx
  intro T hT X
  have htr : e.platform.stackTraces = false := (show e.platform.stackTraces = l.stackTraces by rw [X.admits.platform]).trans C.2.2.2.2.2.2.2.2.2.2.2.1
  have h1' : u.1 + 1 ≤ (jrm M).cells := by show _ ≤ mMc M; omega
  have h2' : u.2 + 6 ≤ (jrm M).slots := by show _ ≤ mMs M; omega
  have Y := vx_rebase X (R' := { frames := (jrm M).frames, locals := (jrm M).locals, cells := 1, slots := 6 }) (Nat.le_refl _) (Nat.le_refl _) h1' h2'
  obtain ⟨s', hA⟩ : ∃ z, z = (T.setVm s.vm).setFrames (.invoking m args :: below) := ⟨_, rfl⟩
  rw [← hA] at Y
  have hvm : s'.vm = s.vm := by rw [hA]; rfl
  have hhp : s'.heap = H := by rw [hA]; exact hT
  have hW0 : s.WarmedH s'.vm := by rw [hvm]; exact State.WarmedH.refl s
  have go := fun w (hw : w ∈ _) => vx_ot_at (a' := args) hW0 hvm.symm (hot w hw) (hat w hw)
  have zU : vx_Zq Bundle.tN "UNASSIGNED_STACK" Bundle.steD (jA G) s' s'.heap := by rw [hhp]; exact vx_Zq.moved hW0.alike (hE.2.2.2.2.2.1.1.kept hS.2.1)
  have zN : vx_Zq Bundle.tN "SUPPRESSED_SENTINEL" Bundle.listD (jA G) s' s'.heap := by rw [hhp]; exact vx_Zq.moved hW0.alike (hE.2.2.2.2.2.1.2.kept hS.2.1)
  have hw : ∀ w ∈ Bundle.ownAtomsX "MendBench" 238 "java/util/NoSuchElementException" 13 prog_32_method_4_code jxn, w.before args s' = true := vx_own (fun w hw => go w (List.mem_cons_of_mem _ (List.mem_cons_of_mem _ hw))) (vx_isRefq zU.1) (vx_isRefq zN.1) zU.2.word zN.2.word
  have ho3 : s'.vm.findClass "MendBench" = some m.cls := by rw [hvm]; exact ho2
  obtain ⟨v1, cX, kX, hfX, hkX, -, -, X1, st1⟩ := Y.newCold C.1 (own := "MendBench") (C := "java/util/NoSuchElementException") (index := 234) (n := 6) ho3 (go _ List.mem_cons_self) (hw _ (by simp [Bundle.ownAtomsX])) (go _ (List.mem_cons_of_mem _ List.mem_cons_self))
    (g := F0 m pc ls (st.map (jmv G))) rfl (by rw [C.2.1]; exact d0) (Nat.le_refl _) (Nat.le_refl _)
  generalize hT1 : (T.setVm v1).pushCell { cls := cX, slots := kX.instanceTypes.map defaultValue, vm := .none } = T1 at X1 st1
  have hcA : T1.heap[T.heap.size]? = some (freshCell cX kX) := by rw [← hT1]; exact State.heap_pushCell_size _ _
  have d3' : decode c.code (pc + 3) = .ok (.dup, 1) := by rw [C.2.1]; exact d3
  have hsr : vk_R "MendBench" is text (G.2.2.2.1 num) s' := vk_R.warm hW0 (hE.2.2.2.1 _ hs)
  have hc1 : (Value.ref T.heap.size).category = 1 := rfl
  obtain ⟨U, hsteps, hrun, hend, hW, hsame, ce, hce, hO, hO2⟩ := jx_ctor X1 C.1 htr (ic := 238) (ix := 13) (rx := prog_32_method_4_code) (names := jxn) (by decide +kernel) (by decide +kernel) (by decide +kernel) (by decide +kernel) ho3 (by decide +kernel) (by decide +kernel) hw hfX hkX hcA (by rw [hhp, hT]; exact Nat.le_refl _) (msg := .ref (G.2.2.2.1 num)) rfl
    (g := { method := m, pc := pc + 4 + d, locals := ls, stack := .ref (G.2.2.2.1 num) :: .ref T.heap.size :: .ref T.heap.size :: st.map (jmv G), locked := none }) rfl (hl.1.trans C.2.2.1.symm) rfl rfl (rest := st.map (jmv G)) rfl
    (by rw [C.2.1]; exact d6) (by rw [C.2.1]; exact d9) htab (by show 2 + 3 < 8 + mH M; omega) (by
      simp only [List.map_cons, List.sum_cons, hc1, jcat_map]
      show _ + (13 * (2 + 1) + 42) ≤ 200 + 100 * mH M
      show 2 * 0 + _ + _ ≤ _
      omega) C.2.2.2.2.2.1
  obtain ⟨f1, f2⟩ := vx_frame hsame
  rw [hhp] at f1 f2
  have hWs : s.WarmedH U.vm := State.WarmedH.trans hW0 hW
  have hcl : s.vm.findClass "java/util/NoSuchElementException" = some ce.cls := by rw [hvm] at hO; exact hO
  have hall : s.sameButNew ({ U with vm := s.vm } : State) locs (mMc M) (mMs M) := by
    subst hA
    obtain ⟨e1, e2⟩ := hsame
    rw [State.setFrames_setFrames] at e1
    have h3 := X.same.trans (show (T.setVm s.vm).sameButNew ({ U with vm := s.vm } : State) [] (0 + 1) (0 + 6) from ⟨e1, e2⟩)
    rw [List.append_nil] at h3
    exact h3.mono h1 h2
  have hx : jXC G Q "java/util/NoSuchElementException" s U := by
    refine ⟨⟨(jN Γ, false, jK Γ, jL Γ, jR Γ, jSc Γ), h, k _ rfl rfl rfl rfl rfl rfl, ?_⟩, ?_⟩
    · refine ⟨fun k' hk' => ?_, Nat.le_trans hP.2.1 f1, hP.2.2.1, (fun z => by cases z), hP.2.2.2.2⟩
      have hk : k' < jN Γ := hk'
      have hb : G.2.2.1 + k' < H.size := Nat.lt_of_lt_of_le (Nat.add_lt_add_left hk _) hP.2.1
      have hq : U.heap[G.2.2.1 + k']? = H[G.2.2.1 + k']? := f2 _ hb (fun z hz => nomatch hz)
      rcases hP.1 k' hk with ⟨r, g1, g2⟩ | ⟨g1, g2, g3⟩
      · exact Or.inl ⟨r, g1, g2.kept hq⟩
      · exact Or.inr ⟨g1, g2, hq.trans g3⟩
    · exact ⟨Nat.le_trans hS.1 f1, fun q h1 h2 => (f2 q (Nat.lt_of_lt_of_le h1 hS.1) (fun z hz => nomatch hz)).trans (hS.2.1 q h1 h2)⟩
  refine ⟨U, ?_, .threw T.heap.size, hrun, hend, Or.inr ⟨T.heap.size, rfl, "java/util/NoSuchElementException", ce, locs, hx, hce, hO2, hcl, hWs, hall, hS.2.2⟩⟩
  refine st1 _ ?_
  show Steps p.tables e below (T1.setTop { method := m, pc := pc + 3, locals := ls, stack := .ref T.heap.size :: st.map (jmv G), locked := none }) _
  jvm_step X1.here [X1.here.top, C.1, d3', Value.category]
  exact ld X1 C.1 C.2.1 ho3 hsr { method := m, pc := pc + 4, locals := ls, stack := .ref T.heap.size :: .ref T.heap.size :: st.map (jmv G), locked := none } rfl rfl _ hsteps
theorem j_thr_NSE {sc : Nat × (Nat → Int32)} {is : Nat} (text : String) (num : Nat) (hs : ("MendBench", is, text, num) ∈ jStr) (ho : mO M = 11) (hX : mX M = []) (h1 : u.1 + 1 ≤ mMc M) (h2 : u.2 + 6 ≤ mMs M) (hst : (st.map fun v => v.category).sum ≤ 8)
    (d0 : decode (mC M) pc = .ok (.new 234, 3)) (d3 : decode (mC M) (pc + 3) = .ok (.dup, 1)) (d4 : decode (mC M) (pc + 4) = .ok (.ldc is, 2)) (d6 : decode (mC M) (pc + 6) = .ok (.invokespecial 238, 3)) (d9 : decode (mC M) (pc + 9) = .ok (.athrow, 1))
    (k : Q (.inr "java/util/NoSuchElementException") (jG0 sc) h) : WP M Q pc lv st (jG0 sc) h u :=
  jx_throw (d := 2) (is := is) (text := text) (num := num) ho hs hX h1 h2 hst d0 d3 d6 d9 (fun X hexec hb hown hr g hg hp U hU => by
    obtain ⟨gm, gp, gl, gs, gk, ge⟩ := g
    subst hg; subst hp
    exact X.ldcString hexec (own := "MendBench") (text := text) (index := is) hown hr.1 hr.2 rfl (by rw [hb]; exact d4) _ hU) (fun Γ' a b c d e f => by rw [jG0_eta a b c d e f]; exact k)
theorem j_thrW_NSE {sc : Nat × (Nat → Int32)} {is : Nat} (text : String) (num : Nat) (hs : ("MendBench", is, text, num) ∈ jStr) (ho : mO M = 11) (hX : mX M = []) (h1 : u.1 + 1 ≤ mMc M) (h2 : u.2 + 6 ≤ mMs M) (hst : (st.map fun v => v.category).sum ≤ 8)
    (d0 : decode (mC M) pc = .ok (.new 234, 3)) (d3 : decode (mC M) (pc + 3) = .ok (.dup, 1)) (d4 : decode (mC M) (pc + 4) = .ok (.ldc_w is, 3)) (d6 : decode (mC M) (pc + 7) = .ok (.invokespecial 238, 3)) (d9 : decode (mC M) (pc + 10) = .ok (.athrow, 1))
    (k : Q (.inr "java/util/NoSuchElementException") (jG0 sc) h) : WP M Q pc lv st (jG0 sc) h u :=
  jx_throw (d := 3) (is := is) (text := text) (num := num) ho hs hX h1 h2 hst d0 d3 d6 d9 (fun X hexec hb hown hr g hg hp U hU => by
    obtain ⟨gm, gp, gl, gs, gk, ge⟩ := g
    subst hg; subst hp
    exact X.ldcStringW hexec (own := "MendBench") (text := text) (index := is) hown hr.1 hr.2 rfl (by rw [hb]; exact d4) _ hU) (fun Γ' a b c d e f => by rw [jG0_eta a b c d e f]; exact k)
end NSE2
