/-! Constructors called; references stored in arrays. -/
section INITS
variable {M : jM} {Q : jQ} {pc : Nat} {lv : List (Option Value)} {st : List Value} {Γ : jS} {h : jH} {u : Nat × Nat}
theorem j_obj {idx r : Nat} (hw : jlk (.methodLink (jCn (mO M)) idx Lib.objectInit)) (hst : (st.map fun v => v.category).sum ≤ 8) (hd : decode (mC M) pc = .ok (.invokespecial idx, 3)) (kk : WP M Q (pc + 3) lv st Γ h u) : WP M Q pc lv (.ref r :: st) Γ h u := by
  intro l G p e s m args below meth c C H locs ls hP hS hl
  have w1 : jlk (.instanceMethod Lib.objectInit) := jlkT (jtb1 34 rfl) rfl
  have w2 : jlk (.code Lib.objectInit ⟨#[0xb1]⟩ 1 none) := jlkT (jtb1 35 rfl) rfl
  refine W.objInit C.1 C.2.1 (jown C) (jword C hw.1 hw.2) (jword C w1.1 w1.2) (jword C w2.1 w2.2) rfl (hl.1.trans C.2.2.1.symm) rfl hd (by show 1 ≤ 8 + mH M; omega) ?_ (kk l G p e s m args below meth c C H locs ls hP hS hl)
  rw [jcat_map]
  show 2 * 0 + _ + 12 ≤ 200 + 100 * mH M
  omega
theorem j_callIN {M' : jM} {Q' : jQ} {r idx n : Nat} {As : List Value} (k : JM M' (.ref r :: As) Γ h Q') (hx : ∀ E Γ' h', ¬ Q' (.inr E) Γ' h')
    (hw0 : (Cond.methodLinkNest (jCn (mO M)) idx (mY M') "MendBench") ∈ lw_tbl) (hw : ∀ w ∈ ([.instanceMethod (mY M'), .initialized (mY M').cls] : List Cond), jlk w) (hcw : jlk (jcw M')) (hX : mX M' = []) (hR : mR M' = none) (hy : (mY M').name = "<init>")
    (hd2 : (mY M').cls ≠ "java/lang/invoke/MethodHandle" ∧ (mY M').cls ≠ "java/lang/invoke/VarHandle" ∧ (parseMethodDescriptor (mY M').desc).map (fun d => d.parameters.length) = some n) (hn : As.length = n)
    (hlow : jlow M' M) (hst : (st.map fun v => v.category).sum ≤ 8) (hu : u.1 + mMc M' ≤ mMc M ∧ u.2 + mMs M' ≤ mMs M) (hd : decode (mC M) pc = .ok (.invokespecial idx, 3))
    (kk : ∀ (r : Option Value) (Γ' : jS) (h' : jH), Q' (.inl r) Γ' h' → WP M Q (pc + 3) lv (r.toList ++ st) Γ' h' (u.1 + mMc M', u.2 + mMs M')) : WP M Q pc lv (As.reverse ++ .ref r :: st) Γ h u := by
  intro l G p e s m args below meth c C H locs ls hP hS hl
  have hM := jMet k hx C.2.2.2.2.2.2.2.2.2.2.2.1 G
  have hjc : jws M' = Cond.code (mY M') (mC M') (mL M') none :: jU := by simp only [jws, jcw, hX, if_pos, hR]
  have es : (As.reverse ++ .ref r :: st).map (jmv G) = (As.map (jmv G)).reverse ++ .ref (jad G r) :: st.map (jmv G) := by rw [List.map_append, List.map_reverse]; rfl
  rw [es]
  have ok : ∀ w ∈ ([.instanceMethod (mY M'), .initialized (mY M').cls] : List Cond), w.before args s = true := fun w h => jword C (hw w h).1 (hw w h).2
  exact jafter C hS hl (va_runIN (As := As.map (jmv G)) (rest := st.map (jmv G)) ⟨C.1, C.2.1, C.2.2.1, jown C, C.2.2.2.2.2.2.2.2.1⟩ hM ⟨va_cnB n C.2.2.2.2.2.2.2.2.1 (jGoodIn hcw) hjc rfl rfl (C.2.2.2.2.2.2.2.2.2.1.2.2.1.1 _ (List.mem_filter.mpr ⟨hw0, rfl⟩)) (ok _ (by simp)) hd2 (jroom hlow), hy, ok _ (by simp)⟩ ⟨jBlind, fun U hU hW => jpre C hP hS (.ref r :: As) U hU hW⟩ rfl (by rw [List.length_map]; exact hn) hl.1 rfl (lv_room (by rw [jcat_map]; exact hst)) hd hu) kk
theorem j_callI {M' : jM} {Q' : jQ} {r idx n : Nat} {As : List Value} (k : JM M' (.ref r :: As) Γ h Q') (hx : ∀ E Γ' h', ¬ Q' (.inr E) Γ' h')
    (hw0 : jlk (.methodLink (jCn (mO M)) idx (mY M'))) (hw : ∀ w ∈ ([.instanceMethod (mY M'), .initialized (mY M').cls] : List Cond), jlk w) (hcw : jlk (jcw M')) (hX : mX M' = []) (hR : mR M' = none) (hy : (mY M').name = "<init>")
    (hd2 : (mY M').cls ≠ "java/lang/invoke/MethodHandle" ∧ (mY M').cls ≠ "java/lang/invoke/VarHandle" ∧ (parseMethodDescriptor (mY M').desc).map (fun d => d.parameters.length) = some n) (hn : As.length = n)
    (hlow : jlow M' M) (hst : (st.map fun v => v.category).sum ≤ 8) (hu : u.1 + mMc M' ≤ mMc M ∧ u.2 + mMs M' ≤ mMs M) (hd : decode (mC M) pc = .ok (.invokespecial idx, 3))
    (kk : ∀ (r : Option Value) (Γ' : jS) (h' : jH), Q' (.inl r) Γ' h' → WP M Q (pc + 3) lv (r.toList ++ st) Γ' h' (u.1 + mMc M', u.2 + mMs M')) : WP M Q pc lv (As.reverse ++ .ref r :: st) Γ h u := by
  intro l G p e s m args below meth c C H locs ls hP hS hl
  have hM := jMet k hx C.2.2.2.2.2.2.2.2.2.2.2.1 G
  have hjc : jws M' = Cond.code (mY M') (mC M') (mL M') none :: jU := by simp only [jws, jcw, hX, if_pos, hR]
  have es : (As.reverse ++ .ref r :: st).map (jmv G) = (As.map (jmv G)).reverse ++ .ref (jad G r) :: st.map (jmv G) := by rw [List.map_append, List.map_reverse]; rfl
  rw [es]
  have ok : ∀ w ∈ ([.instanceMethod (mY M'), .initialized (mY M').cls] : List Cond), w.before args s = true := fun w h => jword C (hw w h).1 (hw w h).2
  exact jafter C hS hl (va_runI (As := As.map (jmv G)) (rest := st.map (jmv G)) ⟨C.1, C.2.1, C.2.2.1, jown C, C.2.2.2.2.2.2.2.2.1⟩ hM (cwI n C.2.2.2.2.2.2.2.2.1 (jGoodIn hcw) hjc rfl rfl (ok _ (by simp)) (jword C hw0.1 hw0.2) (ok _ (by simp)) hy hd2 (jroom hlow)) ⟨jBlind, fun U hU hW => jpre C hP hS (.ref r :: As) U hU hW⟩ rfl (by rw [List.length_map]; exact hn) hl.1 rfl (lv_room (by rw [jcat_map]; exact hst)) hd hu) kk
theorem j_aastR {r a : Nat} {i : Int32} (hr : r < jN Γ) (hk : jK Γ r = 15) (ha : a < jN Γ) (hka : jK Γ a = 4) (hin : vp_in i (jL Γ r)) (hd : decode (mC M) pc = .ok (.aastore, 1)) (kk : WP M Q (pc + 1) lv st (jRset Γ r i.toNatClampNeg a) h u) : WP M Q pc lv (.ref a :: .int i :: .ref r :: st) Γ h u := by
  intro l G p e s m args below meth c C H locs ls hP hS hl
  obtain ⟨q1, q2, -⟩ := jarr C hP hr hk (ty := .object "MendBench$Program") rfl
  obtain ⟨cellV, v1, v2, v3⟩ := jrecv C hP ha hka (by decide)
  obtain ⟨kA, comp, k1, k2, k3, -⟩ := (C.2.2.2.2.2.2.2.2.2.1.2.1 15 _ rfl).2
  have hcls := (C.2.2.2.2.2.2.2.2.2.1.1 4 _ (jCl_at 4 (by decide))).2
  have ecls : cellV.cls = G.1.1 4 := Option.some.inj (v3.symm.trans hcls.1)
  have ecomp : comp = G.1.1 4 := Option.some.inj (k3.symm.trans hcls.1)
  subst ecomp
  obtain ⟨kC, hkC, hki⟩ := hcls.2
  have hlt : i.toNatClampNeg < jL Γ r := Nat.not_le.mp fun q => hin (Or.inr q)
  have h0 : ¬ i < 0 := fun q => hin (Or.inl q)
  have ea : (Value.ref a :: .int i :: .ref r :: st).map (jmv G) = .ref (jad G a) :: .int i :: .ref (G.2.2.1 + r) :: st.map (jmv G) := by
    show _ :: _ :: Value.ref (jad G r) :: _ = _
    rw [jad_lt hP hr]; rfl
  rw [ea]
  refine W.aast C.1 C.2.1 q1 (fun q h => by cases h) (fun h => by cases h) k1 k2 rfl hkC ⟨h0, by rw [arrV_size]; exact hlt⟩ v1 (fun q h => by rw [h] at v2; cases v2) (by rw [ecls]; exact hkC) (by rw [ecls]; exact va_assign hcls) rfl rfl hd fun H1 e1 e2 e3 => ?_
  refine kk l G p e s m args below meth c C H1 _ ls (jP_put hP hr e2 e3 (fun _ _ _ => rfl) rfl rfl rfl rfl rfl (fun x i hx => if_neg (fun z => hx z.1)) (Or.inr ⟨by show 13 ≤ jK Γ r; rw [hk]; decide, ⟨_, by rw [show jK (jRset Γ r i.toNatClampNeg a) r = 15 from hk]; rfl⟩, ?_⟩)) (jS_put hS e2 e3 (Nat.le_add_right _ _)) hl
  rw [e1, arrV_store, show jK (jRset Γ r i.toNatClampNeg a) r = 15 from hk]
  show some (arrV _ _ _) = some (arrV _ (jL Γ r) _)
  congr 2
  funext j
  by_cases hj : j = i.toNatClampNeg
  · subst hj
    have : jslot (jRset Γ r i.toNatClampNeg a) h r i.toNatClampNeg = .ref a := by
      unfold jslot
      rw [show jK (jRset Γ r i.toNatClampNeg a) r = 15 from hk, if_pos (by rfl), show jR (jRset Γ r i.toNatClampNeg a) r i.toNatClampNeg = some a from if_pos ⟨rfl, rfl⟩]
    rw [this]
    simp only [updV, if_pos]
    rfl
  · have : jslot (jRset Γ r i.toNatClampNeg a) h r j = jslot Γ h r j := by
      unfold jslot
      rw [show jR (jRset Γ r i.toNatClampNeg a) r j = jR Γ r j from if_neg (fun z => hj z.2)]; rfl
    rw [this]
    simp only [updV, if_neg hj]
end INITS
