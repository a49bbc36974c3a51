/-! Contracts and calls. JM: the method, called with these values on this world, ends as Q tells. -/
def JM (M : jM) (av : List Value) (Γ : jS) (h : jH) (Q : jQ) : Prop :=
  ∀ (l : Launch), l.stackTraces = false → ∀ (G : jG), vx_Met l (mY M) (jws M) (jrm M) (va_Pc (av.map (jmv G)) (fun U => jE G U U.heap ∧ jP G Γ h U.heap)) (jQc G Q) (jXC G Q) (mMc M) (mMs M) (jA G)
def jloc (av : List Value) (n : Nat) : List (Option Value) := av.map some ++ List.replicate (n - av.length) none
theorem jrep_get : ∀ (n j : Nat) (v : Value), jget (List.replicate n none) j = some v → False := by
  intro n
  induction n with
  | zero => intro j v h; cases h
  | succ n ih => intro j v h; cases j with
    | zero => cases h
    | succ j => exact ih j v h
theorem jloc_get (n : Nat) : ∀ (av : List Value) (j : Nat) (v : Value), jget (av.map some ++ List.replicate n none) j = some v → av[j]? = some v := by
  intro av
  induction av with
  | nil => intro j v h; exact absurd h (fun q => jrep_get n j v q)
  | cons a t ih => intro j v h; cases j with
    | zero => exact h
    | succ j => simpa using ih j v h
theorem jargs_in : ∀ (vs : List Value) (n j : Nat) (v : Value), (∀ x ∈ vs, x.category = 1) → vs[j]? = some v → (n + j, v) ∈ lv_args n vs := by
  intro vs
  induction vs with
  | nil => intro n j v _ h; simp at h
  | cons a t ih =>
    intro n j v hc h
    have ha : a.category = 1 := hc a List.mem_cons_self
    simp only [lv_args, ha]
    cases j with
    | zero => simp at h; subst h; exact List.mem_cons_self
    | succ j =>
      refine List.mem_cons_of_mem _ ?_
      have := ih (n + 1) j v (fun x hx => hc x (List.mem_cons_of_mem _ hx)) (by simpa using h)
      rw [show n + 1 + j = n + (j + 1) by omega] at this
      simpa using this
theorem jsl_len : ∀ (vs : List Value), (∀ x ∈ vs, x.category = 1) → (lg_sl vs).length = vs.length := by
  intro vs
  induction vs with
  | nil => intro _; rfl
  | cons a t ih =>
    intro hc
    have ha : a.category = 1 := hc a List.mem_cons_self
    have h1 : lg_sl (a :: t) = (if a.category = 2 then [.val a, .second] else [.val a]) ++ lg_sl t := by simp [lg_sl]
    rw [h1, if_neg (by omega), List.length_append, ih (fun x hx => hc x (List.mem_cons_of_mem _ hx))]
    simp; omega
theorem jc1 {G : jG} {av : List Value} (h : av.all (fun v => v.category == 1) = true) : ∀ x ∈ av.map (jmv G), x.category = 1 := by
  intro x hx
  obtain ⟨v, hv, rfl⟩ := List.mem_map.mp hx
  rw [jmv_cat]
  simpa using List.all_eq_true.mp h v hv
/-- the body's walk gives the contract -/
theorem jM_of {M : jM} {av : List Value} {Γ : jS} {h : jH} {Q : jQ} (hav : av.all (fun v => v.category == 1) = true) (hlen : av.length ≤ mL M) (hpl : plainName (mY M).cls = true) (hcls : (mY M).cls = jCn (mO M))
    (k : WP M Q 0 (jloc av (mL M)) [] Γ h (0, 0)) : JM M av Γ h Q := by
  intro l hl G
  have hc1 := jc1 (G := G) hav
  have body : ∀ p e s m args below meth c s₁, BodyLoose p l (mY M) (headSpec (jws M) (jrm M)) (mC M) (mL M) (mR M) e s m args below meth c s₁ → c.maxLocals = mL M → c.exceptionTable.toList = tableOf (mX M) → va_Pc (av.map (jmv G)) (fun U => jE G U U.heap ∧ jP G Γ h U.heap) args s →
      W p l e (headSpec (jws M) (jrm M)).room s m args below meth c s.heap [] 0 0 (vx_MQ below (jQc G Q) (jXC G Q) args s (mMc M) (mMs M) (jA G)) (entryFrame m args (mL M)) := by
    intro p e s m args below meth c s₁ B hml ht hv
    obtain ⟨rfl, hE, hP⟩ := hv
    have C : jC l G M p s m ((av.map (jmv G)).toArray) meth c := ⟨B.exec, B.bytes, hml, B.returns, findClass_of_methodNamed B.named, B.notSynchronized, (name_of_methodNamed B.named B.method).1, ht, atoms_spec (ws := jws M) B.pre, hE, Nat.le_trans (Nat.le_add_right _ _) hP.2.1, hl, hcls⟩
    have hll : (lg_sl (av.map (jmv G))).length ≤ mL M := by rw [jsl_len _ hc1, List.length_map]; exact hlen
    have hl0 := lv_entry (av.map (jmv G)) (n := mL M) hll
    rw [lg_entry_eq]
    refine k l G p e s m _ below meth c C s.heap [] _ hP va_S.rf ⟨hl0.1, hl0.2.1, fun q hq => hl0.2.2 q ?_⟩
    obtain ⟨j, v, rfl, h2⟩ := jlv_mem G _ 0 q hq
    have h3 := jloc_get _ av j v h2
    exact jargs_in _ 0 j _ hc1 (by rw [List.getElem?_map, h3]; rfl)
  by_cases hX : mX M = []
  · refine vx_ofW (cc := mC M) (maxL := mL M) (ret := mR M) (ws' := jU) hpl (by simp only [jws, jcw, hX, if_pos]) ?_
    intro p e s m args below meth c s₁ B hml ht hv
    refine body p e s m args below meth c s₁ B hml ?_ hv
    rw [hX]
    show c.exceptionTable.toList = []
    cases hh : c.exceptionTable.toList with
    | nil => rfl
    | cons x t => exact (ht x (by rw [hh]; exact List.mem_cons_self)).elim
  · refine vx_ofWH (cc := mC M) (maxL := mL M) (ret := mR M) (hh := mX M) (ws' := jU) hpl (by simp only [jws, jcw, hX]; rfl) ?_
    intro p e s m args below meth c s₁ B hml hv
    have hw := atoms_spec (ws := jws M) B.pre _ List.mem_cons_self
    rw [show jcw M = .codeWith (mY M) (mC M) (mL M) (mR M) (mX M) from if_neg hX] at hw
    exact body p e s m args below meth c s₁ B hml (vx_table (x := mY M) B hw) hv
theorem jBlind {G : jG} {Γ : jS} {h : jH} {av : List Value} : FrameBlind (va_Pc av (fun U => jE G U U.heap ∧ jP G Γ h U.heap)) := by
  intro a U g mk q
  exact ⟨q.1, jE.same (s := U) (U := U.calling g mk a) rfl q.2.1, q.2.2⟩
/-- a contract without throws -/
theorem jMet {M : jM} {av : List Value} {Γ : jS} {h : jH} {Q : jQ} (k : JM M av Γ h Q) (hx : ∀ E Γ' h', ¬ Q (.inr E) Γ' h') {l : Launch} (hl : l.stackTraces = false) (G : jG) : Met l (mY M) (jws M) (jrm M) (va_Pc (av.map (jmv G)) (fun U => jE G U U.heap ∧ jP G Γ h U.heap)) (jQc G Q) (mMc M) (mMs M) (jA G) := by
  intro p e ha hc hk s m args below hf happ hP hK
  obtain ⟨n, o, h1, h2, h3, h4⟩ := k l hl G p e ha hc hk s m args below hf happ hP hK
  refine ⟨n, o, h1, h2, h3, ?_⟩
  rcases h4 with h4 | ⟨q, -, E, ce, L, ⟨⟨Γ', h', h5, -⟩, -⟩, -⟩
  · exact h4
  · exact (hx _ _ _ h5).elim
/-- the words of a callee among the caller's -/
def jlk (w : Cond) : Prop := w ∈ lw_tbl ∧ goodWord w = true
theorem jgood {w : Cond} (hg : goodWord w = true) : (w.onTables && w.keeps) = true ∨ ∃ ty, w = .arrayClass ty := good_of_word hg
theorem jGoodIn {M M' : jM} (hc : jlk (jcw M')) : GoodIn (jws M) (jws M') := by
  intro w hw
  rcases List.mem_cons.mp hw with rfl | hw
  · exact ⟨List.mem_cons_of_mem _ (jU_mem hc.1 hc.2), jgood hc.2⟩
  · exact ⟨List.mem_cons_of_mem _ hw, jgood (List.mem_filter.mp hw).2⟩
theorem jGoodApp {M M' : jM} {ws : List Cond} (hw : ∀ w ∈ ws, jlk w) (hc : jlk (jcw M')) : GoodIn (jws M) (ws ++ jws M') := by
  intro w h
  rcases List.mem_append.mp h with h | h
  · exact ⟨List.mem_cons_of_mem _ (jU_mem (hw w h).1 (hw w h).2), jgood (hw w h).2⟩
  · exact jGoodIn hc w h
/-- room for a callee that stands lower -/
def jlow (M' M : jM) : Prop := mH M' < mH M ∧ mL M' ≤ 80
theorem jroom {M' M : jM} (h : jlow M' M) : (jrm M').frames + 1 ≤ (jrm M).frames ∧ 8 + (mL M' + 11) + (jrm M').locals ≤ (jrm M).locals := by
  obtain ⟨h1, h2⟩ := h
  constructor
  · show 8 + mH M' + 1 ≤ 8 + mH M; omega
  · show 8 + (mL M' + 11) + (200 + 100 * mH M') ≤ 200 + 100 * mH M; omega
section JC
variable {M : jM} {Q : jQ} {pc : Nat} {lv : List (Option Value)} {st : List Value} {Γ : jS} {h : jH} {u : Nat × Nat}
theorem jcat_map {G : jG} (st : List Value) : ((st.map (jmv G)).map fun v => v.category).sum = (st.map fun v => v.category).sum := by
  rw [List.map_map]
  congr 1
  exact List.map_congr_left fun v _ => jmv_cat G v
/-- what comes behind a call -/
theorem jafter {l : Launch} {G : jG} {p : Program} {e : Env} {s : State} {m : MethodId} {args : Array Value} {below : List Frame} {meth : Method} {c : Code} (C : jC l G M p s m args meth c) {H : Heap} {locs : List Loc} {ls : Array Slot} (hS : va_S (jA G) s.heap H locs) (hl : lv_has ls (mL M) (jlv G 0 lv)) {Q' : jQ} {a : Array Value} {mc ms : Nat} {st0 : List Value}
    (hr : va_Run p l e (jrm M) s m args below meth c H locs u.1 u.2 mc ms (F0 m pc ls st0) (st.map (jmv G)) (jQc G Q' a) (jA G))
    (kk : ∀ (r : Option Value) (Γ' : jS) (h' : jH), Q' (.inl r) Γ' h' → WP M Q (pc + 3) lv (r.toList ++ st) Γ' h' (u.1 + mc, u.2 + ms)) :
    W p l e (jrm M) s m args below meth c H locs u.1 u.2 (vx_MQ below (jQc G Q) (jXC G Q) args s (mMc M) (mMs M) (jA G)) (F0 m pc ls st0) := by
  intro T hT X
  obtain ⟨v, st₀, t, T', L, h0, X', hL, e1, e2, ⟨⟨r, Γ', h', hv, hq, hP⟩, hF⟩, st2⟩ := hr T hT X
  have hv : v = r.map (jmv G) := by cases hv; rfl
  subst hv
  have hS' : va_S (jA G) s.heap T'.heap (locs ++ L) := by
    obtain ⟨f1, f2⟩ := hF
    rw [h0] at f1 f2
    refine ⟨Nat.le_trans hS.1 (by rw [e1]; exact f1), fun q h1 h2 => by rw [e1, f2 q (Nat.lt_of_lt_of_le h1 hS.1) h2]; exact hS.2.1 q h1 h2, fun q hq => ?_⟩
    rcases List.mem_append.mp hq with h | h
    · exact hS.2.2 q h
    · exact hL q h
  have K := kk r Γ' h' hq l G p e s m args below meth c C T'.heap (locs ++ L) ls (by rw [e1]; exact hP) hS' hl
  have es : (r.toList ++ st).map (jmv G) = (r.map (jmv G)).toList ++ st.map (jmv G) := by cases r <;> rfl
  rw [es] at K
  obtain ⟨t2, a1, b1⟩ := K T' rfl X'
  exact ⟨t2, st2 t2 a1, b1⟩
/-- the premises of a callee with a receiver -/
theorem jpre {l : Launch} {G : jG} {p : Program} {s : State} {m : MethodId} {args : Array Value} {meth : Method} {c : Code} (C : jC l G M p s m args meth c) {H : Heap} {locs : List Loc} (hP : jP G Γ h H) (hS : va_S (jA G) s.heap H locs) (av : List Value) :
    ∀ U : State, U.heap = H → s.WarmedH U.vm → va_Pc (av.map (jmv G)) (fun U => jE G U U.heap ∧ jP G Γ h U.heap) (av.map (jmv G)).toArray U := by
  intro U hU hW
  refine ⟨rfl, ?_, by rw [hU]; exact hP⟩
  rw [hU]
  exact ((C.2.2.2.2.2.2.2.2.2.1).kept hS.1 hS.2.1).moved hW
theorem jrecv {l : Launch} {G : jG} {p : Program} {s : State} {m : MethodId} {args : Array Value} {meth : Method} {c : Code} (C : jC l G M p s m args meth c) {H : Heap} (hP : jP G Γ h H) {r ci : Nat} (hr : r < jN Γ) (hk : jK Γ r = ci) (hc : ci < 13) :
    ∃ cellB : Cell, H[jad G r]? = some cellB ∧ cellB.vm.isStatics = false ∧ s.vm.findClass (jCn ci) = some cellB.cls := by
  obtain ⟨⟨cell, q1, q2, q3, q4⟩, hSl, hfc, -⟩ := jobj C hP hr hk hc
  refine ⟨cell, by rw [jad_lt hP hr]; exact q1, by rw [q3]; rfl, by rw [q2]; exact hfc⟩
theorem j_callV {M' : jM} {Q' : jQ} {r idx ci n : Nat} {As : List Value} (k : JM M' (.ref r :: As) Γ h Q') (hx : ∀ E Γ' h', ¬ Q' (.inr E) Γ' h')
    (hw0 : jlk (.methodLink (jCn (mO M)) idx (mY M'))) (hw : ∀ w ∈ ([.instanceMethod (mY M'), .selects (jCn ci) (mY M') (mY M'), .initialized (jCn ci)] : List Cond), jlk w) (hcw : jlk (jcw M')) (hX : mX M' = [])
    (hd2 : (mY M').cls = jCn ci ∧ (mY M').cls ≠ "java/lang/invoke/MethodHandle" ∧ (mY M').cls ≠ "java/lang/invoke/VarHandle" ∧ (parseMethodDescriptor (mY M').desc).map (fun d => d.parameters.length) = some n) (hn : As.length = n)
    (hlow : jlow M' M) (hr : r < jN Γ) (hk : jK Γ r = ci) (hc : ci < 13) (hst : (st.map fun v => v.category).sum ≤ 8) (hu : u.1 + mMc M' ≤ mMc M ∧ u.2 + mMs M' ≤ mMs M) (hd : decode (mC M) pc = .ok (.invokevirtual idx, 3))
    (kk : ∀ (r : Option Value) (Γ' : jS) (h' : jH), Q' (.inl r) Γ' h' → WP M Q (pc + 3) lv (r.toList ++ st) Γ' h' (u.1 + mMc M', u.2 + mMs M')) : WP M Q pc lv (As.reverse ++ .ref r :: st) Γ h u := by
  intro l G p e s m args below meth c C H locs ls hP hS hl
  have hM := jMet k hx C.2.2.2.2.2.2.2.2.2.2.2.1 G
  have hjc : jws M' = Cond.code (mY M') (mC M') (mL M') (mR M') :: jU := by simp only [jws, jcw, hX, if_pos]
  have es : (As.reverse ++ .ref r :: st).map (jmv G) = (As.map (jmv G)).reverse ++ .ref (jad G r) :: st.map (jmv G) := by rw [List.map_append, List.map_reverse]; rfl
  rw [es]
  exact jafter C hS hl (va_runV (As := As.map (jmv G)) (rest := st.map (jmv G)) ⟨C.1, C.2.1, C.2.2.1, jown C, C.2.2.2.2.2.2.2.2.1⟩ hM (cwV n C.2.2.2.2.2.2.2.2.1 (jGoodApp (fun w h => (List.mem_cons.mp h).elim (fun e => e ▸ hw0) (hw w)) hcw) hjc rfl rfl hd2 (jroom hlow)) ⟨jBlind, jrecv C hP hr hk hc, fun U hU hW => jpre C hP hS (.ref r :: As) U hU hW⟩ rfl (by rw [List.length_map]; exact hn) hl.1 rfl (lv_room (by rw [jcat_map]; exact hst)) hd hu) kk
theorem jadS {G : jG} (i : Nat) : jad G (1001 + i) = G.2.2.2.1 (i + 1) := by
  rw [jad, if_neg (by omega), show 1001 + i - 1000 = i + 1 by omega]
theorem jrecvS {l : Launch} {G : jG} {p : Program} {s : State} {m : MethodId} {args : Array Value} {meth : Method} {c : Code} (C : jC l G M p s m args meth c) {H : Heap} {locs : List Loc} (hS : va_S (jA G) s.heap H locs) {i : Nat} (hi : i < 22) :
    ∃ cellB : Cell, H[jad G (1001 + i)]? = some cellB ∧ cellB.vm.isStatics = false ∧ s.vm.findClass "java/lang/String" = some cellB.cls := by
  rw [jadS]
  obtain ⟨cell, h1, h2, h3, -⟩ := (C.2.2.2.2.2.2.2.2.2.1.2.2.2.2.1.1 i hi).1.kept hS.2.1
  exact ⟨cell, h1, h2, h3⟩
theorem j_callStr {M' : jM} {Q' : jQ} {i idx n : Nat} {As : List Value} (k : JM M' (.ref (1001 + i) :: As) Γ h Q') (hx : ∀ E Γ' h', ¬ Q' (.inr E) Γ' h')
    (hw0 : jlk (.methodLink (jCn (mO M)) idx (mY M'))) (hw : ∀ w ∈ ([.instanceMethod (mY M'), .selects "java/lang/String" (mY M') (mY M'), .initialized "java/lang/String"] : List Cond), jlk w) (hcw : jlk (jcw M')) (hX : mX M' = [])
    (hd2 : (mY M').cls = "java/lang/String" ∧ (mY M').cls ≠ "java/lang/invoke/MethodHandle" ∧ (mY M').cls ≠ "java/lang/invoke/VarHandle" ∧ (parseMethodDescriptor (mY M').desc).map (fun d => d.parameters.length) = some n) (hn : As.length = n)
    (hlow : jlow M' M) (hi : i < 22) (hst : (st.map fun v => v.category).sum ≤ 8) (hu : u.1 + mMc M' ≤ mMc M ∧ u.2 + mMs M' ≤ mMs M) (hd : decode (mC M) pc = .ok (.invokevirtual idx, 3))
    (kk : ∀ (r : Option Value) (Γ' : jS) (h' : jH), Q' (.inl r) Γ' h' → WP M Q (pc + 3) lv (r.toList ++ st) Γ' h' (u.1 + mMc M', u.2 + mMs M')) : WP M Q pc lv (As.reverse ++ .ref (1001 + i) :: st) Γ h u := by
  intro l G p e s m args below meth c C H locs ls hP hS hl
  have hM := jMet k hx C.2.2.2.2.2.2.2.2.2.2.2.1 G
  have hjc : jws M' = Cond.code (mY M') (mC M') (mL M') (mR M') :: jU := by simp only [jws, jcw, hX, if_pos]
  have es : (As.reverse ++ .ref (1001 + i) :: st).map (jmv G) = (As.map (jmv G)).reverse ++ .ref (jad G (1001 + i)) :: st.map (jmv G) := by rw [List.map_append, List.map_reverse]; rfl
  rw [es]
  exact jafter C hS hl (va_runV (As := As.map (jmv G)) (rest := st.map (jmv G)) ⟨C.1, C.2.1, C.2.2.1, jown C, C.2.2.2.2.2.2.2.2.1⟩ hM (cwV n C.2.2.2.2.2.2.2.2.1 (jGoodApp (fun w h => (List.mem_cons.mp h).elim (fun e => e ▸ hw0) (hw w)) hcw) hjc rfl rfl hd2 (jroom hlow)) ⟨jBlind, jrecvS C hS hi, fun U hU hW => jpre C hP hS (.ref (1001 + i) :: As) U hU hW⟩ rfl (by rw [List.length_map]; exact hn) hl.1 rfl (lv_room (by rw [jcat_map]; exact hst)) hd hu) kk
theorem j_callVN {M' : jM} {Q' : jQ} {r idx ci n : Nat} {As : List Value} (k : JM M' (.ref r :: As) Γ h Q') (hx : ∀ E Γ' h', ¬ Q' (.inr E) Γ' h')
    (hw0 : (Cond.methodLinkNest (jCn (mO M)) idx (mY M') "MendBench") ∈ lw_tbl) (hw : ∀ w ∈ ([.instanceMethod (mY M'), .selects (jCn ci) (mY M') (mY M'), .initialized (jCn ci)] : List Cond), jlk w) (hcw : jlk (jcw M')) (hX : mX M' = [])
    (hd2 : (mY M').cls = jCn ci ∧ (mY M').cls ≠ "java/lang/invoke/MethodHandle" ∧ (mY M').cls ≠ "java/lang/invoke/VarHandle" ∧ (parseMethodDescriptor (mY M').desc).map (fun d => d.parameters.length) = some n) (hn : As.length = n)
    (hlow : jlow M' M) (hr : r < jN Γ) (hk : jK Γ r = ci) (hc : ci < 13) (hst : (st.map fun v => v.category).sum ≤ 8) (hu : u.1 + mMc M' ≤ mMc M ∧ u.2 + mMs M' ≤ mMs M) (hd : decode (mC M) pc = .ok (.invokevirtual idx, 3))
    (kk : ∀ (r : Option Value) (Γ' : jS) (h' : jH), Q' (.inl r) Γ' h' → WP M Q (pc + 3) lv (r.toList ++ st) Γ' h' (u.1 + mMc M', u.2 + mMs M')) : WP M Q pc lv (As.reverse ++ .ref r :: st) Γ h u := by
  intro l G p e s m args below meth c C H locs ls hP hS hl
  have hM := jMet k hx C.2.2.2.2.2.2.2.2.2.2.2.1 G
  have hjc : jws M' = Cond.code (mY M') (mC M') (mL M') (mR M') :: jU := by simp only [jws, jcw, hX, if_pos]
  have es : (As.reverse ++ .ref r :: st).map (jmv G) = (As.map (jmv G)).reverse ++ .ref (jad G r) :: st.map (jmv G) := by rw [List.map_append, List.map_reverse]; rfl
  rw [es]
  have ok : ∀ w ∈ ([.instanceMethod (mY M'), .selects (jCn ci) (mY M') (mY M'), .initialized (jCn ci)] : List Cond), w.before args s = true := fun w h => jword C (hw w h).1 (hw w h).2
  exact jafter C hS hl (va_runVN (As := As.map (jmv G)) (rest := st.map (jmv G)) ⟨C.1, C.2.1, C.2.2.1, jown C, C.2.2.2.2.2.2.2.2.1⟩ hM ⟨va_cnB n C.2.2.2.2.2.2.2.2.1 (jGoodIn hcw) hjc rfl rfl (C.2.2.2.2.2.2.2.2.2.1.2.2.1.1 _ (List.mem_filter.mpr ⟨hw0, rfl⟩)) (by rw [hd2.1]; exact ok _ (by simp)) hd2.2 (jroom hlow), ok _ (by simp), ok _ (by simp)⟩ ⟨jBlind, jrecv C hP hr hk hc, fun U hU hW => jpre C hP hS (.ref r :: As) U hU hW⟩ rfl (by rw [List.length_map]; exact hn) hl.1 rfl (lv_room (by rw [jcat_map]; exact hst)) hd hu) kk
theorem j_callS {M' : jM} {Q' : jQ} {idx n : Nat} {As : List Value} (k : JM M' As Γ h Q') (hx : ∀ E Γ' h', ¬ Q' (.inr E) Γ' h')
    (hw0 : jlk (.methodLink (jCn (mO M)) idx (mY M'))) (hw : ∀ w ∈ ([.static (mY M'), .initialized (mY M').cls] : List Cond), jlk w) (hcw : jlk (jcw M')) (hX : mX M' = [])
    (hd2 : (mY M').cls ≠ "java/lang/invoke/MethodHandle" ∧ (mY M').cls ≠ "java/lang/invoke/VarHandle" ∧ (parseMethodDescriptor (mY M').desc).map (fun d => d.parameters.length) = some n) (hn : As.length = n)
    (hlow : jlow M' M) (hst : (st.map fun v => v.category).sum ≤ 8) (hu : u.1 + mMc M' ≤ mMc M ∧ u.2 + mMs M' ≤ mMs M) (hd : decode (mC M) pc = .ok (.invokestatic idx, 3))
    (kk : ∀ (r : Option Value) (Γ' : jS) (h' : jH), Q' (.inl r) Γ' h' → WP M Q (pc + 3) lv (r.toList ++ st) Γ' h' (u.1 + mMc M', u.2 + mMs M')) : WP M Q pc lv (As.reverse ++ st) Γ h u := by
  intro l G p e s m args below meth c C H locs ls hP hS hl
  have hM := jMet k hx C.2.2.2.2.2.2.2.2.2.2.2.1 G
  have hjc : jws M' = Cond.code (mY M') (mC M') (mL M') (mR M') :: jU := by simp only [jws, jcw, hX, if_pos]
  have es : (As.reverse ++ st).map (jmv G) = (As.map (jmv G)).reverse ++ st.map (jmv G) := by rw [List.map_append, List.map_reverse]
  rw [es]
  exact jafter C hS hl (va_runS (As := As.map (jmv G)) (rest := st.map (jmv G)) ⟨C.1, C.2.1, C.2.2.1, jown C, C.2.2.2.2.2.2.2.2.1⟩ hM (va_cwS n C.2.2.2.2.2.2.2.2.1 (jGoodApp (fun w h => (List.mem_cons.mp h).elim (fun e => e ▸ hw0) (hw w)) hcw) hjc rfl rfl hd2 (jroom hlow)) ⟨jBlind, fun U hU hW => jpre C hP hS As U hU hW⟩ rfl (by rw [List.length_map]; exact hn) hl.1 rfl (lv_room (by rw [jcat_map]; exact hst)) hd hu) kk
theorem j_callSN {M' : jM} {Q' : jQ} {idx n : Nat} {As : List Value} (k : JM M' As Γ h Q') (hx : ∀ E Γ' h', ¬ Q' (.inr E) Γ' h')
    (hw0 : (Cond.methodLinkNest (jCn (mO M)) idx (mY M') "MendBench") ∈ lw_tbl) (hw : ∀ w ∈ ([.static (mY M'), .initialized (mY M').cls] : List Cond), jlk w) (hcw : jlk (jcw M')) (hX : mX M' = [])
    (hd2 : (mY M').cls ≠ "java/lang/invoke/MethodHandle" ∧ (mY M').cls ≠ "java/lang/invoke/VarHandle" ∧ (parseMethodDescriptor (mY M').desc).map (fun d => d.parameters.length) = some n) (hn : As.length = n)
    (hlow : jlow M' M) (hst : (st.map fun v => v.category).sum ≤ 8) (hu : u.1 + mMc M' ≤ mMc M ∧ u.2 + mMs M' ≤ mMs M) (hd : decode (mC M) pc = .ok (.invokestatic idx, 3))
    (kk : ∀ (r : Option Value) (Γ' : jS) (h' : jH), Q' (.inl r) Γ' h' → WP M Q (pc + 3) lv (r.toList ++ st) Γ' h' (u.1 + mMc M', u.2 + mMs M')) : WP M Q pc lv (As.reverse ++ st) Γ h u := by
  intro l G p e s m args below meth c C H locs ls hP hS hl
  have hM := jMet k hx C.2.2.2.2.2.2.2.2.2.2.2.1 G
  have hjc : jws M' = Cond.code (mY M') (mC M') (mL M') (mR M') :: jU := by simp only [jws, jcw, hX, if_pos]
  have es : (As.reverse ++ st).map (jmv G) = (As.map (jmv G)).reverse ++ st.map (jmv G) := by rw [List.map_append, List.map_reverse]
  rw [es]
  have ok : ∀ w ∈ ([.static (mY M'), .initialized (mY M').cls] : List Cond), w.before args s = true := fun w h => jword C (hw w h).1 (hw w h).2
  exact jafter C hS hl (va_runSN (As := As.map (jmv G)) (rest := st.map (jmv G)) ⟨C.1, C.2.1, C.2.2.1, jown C, C.2.2.2.2.2.2.2.2.1⟩ hM ⟨va_cnB n C.2.2.2.2.2.2.2.2.1 (jGoodIn hcw) hjc rfl rfl (C.2.2.2.2.2.2.2.2.2.1.2.2.1.1 _ (List.mem_filter.mpr ⟨hw0, rfl⟩)) (ok _ (by simp)) hd2 (jroom hlow), ok _ (by simp), trivial⟩ ⟨jBlind, fun U hU hW => jpre C hP hS As U hU hW⟩ rfl (by rw [List.length_map]; exact hn) hl.1 rfl (lv_room (by rw [jcat_map]; exact hst)) hd hu) kk
end JC
