/-! A static call of a method with a handler table that lets nothing out. -/
section CALLSW
variable {M : jM} {Q : jQ} {pc : Nat} {lv : List (Option Value)} {st : List Value} {Γ : jS} {h : jH} {u : Nat × Nat}
theorem j_callSW {M' : jM} {Q' : jQ} {idx n : Nat} {As : List Value} (k : JM M' As Γ h Q') (hx : ∀ E Γ' h', ¬ Q' (.inr E) Γ' h')
    (hw0 : jlk (.methodLink (jCn (mO M)) idx (mY M'))) (hw : ∀ w ∈ ([.static (mY M'), .initialized (mY M').cls] : List Cond), jlk w) (hcw : jlk (jcw M')) (hX : mX M' ≠ [])
    (hd2 : (mY M').cls ≠ "java/lang/invoke/MethodHandle" ∧ (mY M').cls ≠ "java/lang/invoke/VarHandle" ∧ (parseMethodDescriptor (mY M').desc).map (fun d => d.parameters.length) = some n) (hn : As.length = n)
    (hlow : jlow M' M) (hst : (st.map fun v => v.category).sum ≤ 8) (hu : u.1 + mMc M' ≤ mMc M ∧ u.2 + mMs M' ≤ mMs M) (hd : decode (mC M) pc = .ok (.invokestatic idx, 3))
    (kk : ∀ (r : Option Value) (Γ' : jS) (h' : jH), Q' (.inl r) Γ' h' → WP M Q (pc + 3) lv (r.toList ++ st) Γ' h' (u.1 + mMc M', u.2 + mMs M')) : WP M Q pc lv (As.reverse ++ st) Γ h u := by
  intro l G p e s m args below meth c C H locs ls hP hS hl
  have hM := k l C.2.2.2.2.2.2.2.2.2.2.2.1 G
  have hjc : jws M' = Cond.codeWith (mY M') (mC M') (mL M') (mR M') (mX M') :: jU := by simp only [jws, jcw, if_neg hX]
  have es : (As.reverse ++ st).map (jmv G) = (As.map (jmv G)).reverse ++ st.map (jmv G) := by rw [List.map_append, List.map_reverse]
  rw [es]
  have hr := vx_runSX (As := As.map (jmv G)) (rest := st.map (jmv G)) (g := F0 m pc ls ((As.map (jmv G)).reverse ++ st.map (jmv G))) ⟨C.1, C.2.1, C.2.2.1, jown C, C.2.2.2.2.2.2.2.2.1⟩ hM (vx_cwSW n C.2.2.2.2.2.2.2.2.1 (jGoodApp (fun w h => (List.mem_cons.mp h).elim (fun e => e ▸ hw0) (hw w)) hcw) hjc rfl rfl hd2 (jroom hlow)) ⟨jBlind, fun U hU hW => jpre C hP hS As U hU hW⟩ rfl (by rw [List.length_map]; exact hn) hl.1 rfl (lv_room (by rw [jcat_map]; exact hst)) hd hu (p := p) (l := l) (e := e) (below := below) (meth := meth) (locs := locs)
  intro T hT X
  rcases hr T hT X with ⟨v, st₀, t, T', L, h0, X', hL, e1, e2, ⟨⟨r0, Γ', h', hv, hq, hP'⟩, hF⟩, st2⟩ | ⟨q, st₀, t, T', L, E, ce, h0, X', hL, e1, e2, ⟨⟨Γ', h', hq, hP'⟩, hF⟩, hce, hcv, hcl, st2⟩
  · have hv : v = r0.map (jmv G) := by cases hv; rfl
    subst hv
    have hS' : va_S (jA G) s.heap T'.heap (locs ++ L) := by
      obtain ⟨f1, f2⟩ := hF
      rw [h0] at f1 f2
      refine ⟨Nat.le_trans hS.1 (by rw [e1]; exact f1), fun q h1 h2 => by rw [e1, f2 q (Nat.lt_of_lt_of_le h1 hS.1) h2]; exact hS.2.1 q h1 h2, fun q hq => ?_⟩
      rcases List.mem_append.mp hq with h | h
      · exact hS.2.2 q h
      · exact hL q h
    have K := kk r0 Γ' h' hq l G p e s m args below meth c C T'.heap (locs ++ L) ls (by rw [e1]; exact hP') hS' hl
    have es : (r0.toList ++ st).map (jmv G) = (r0.map (jmv G)).toList ++ st.map (jmv G) := by cases r0 <;> rfl
    rw [es] at K
    obtain ⟨t2, a1, b1⟩ := K T' rfl X'
    exact ⟨t2, st2 t2 a1, b1⟩
  · exact absurd hq (hx _ _ _)
end CALLSW
