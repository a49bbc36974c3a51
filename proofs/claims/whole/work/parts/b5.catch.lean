/-! A call whose throws are caught at once: the handler stores what was thrown and goes on. -/
section CATCH
variable {M : jM} {Q : jQ} {pc : Nat} {lv : List (Option Value)} {st : List Value} {Γ : jS} {h : jH} {u : Nat × Nat}
def jset0 (lv : List (Option Value)) (i : Nat) : List (Option Value) := jset (jcut lv i) i none
theorem jset0_has {G : jG} {ls : Array Slot} {n i : Nat} {lv : List (Option Value)} {v : Value} (h : lv_has ls n ((i, v) :: (jlv G 0 lv).filter (fun q => !(q.1 == i) && !(q.1 + 1 == i && q.2.category == 2)))) : lv_has ls n (jlv G 0 (jset0 lv i)) := by
  refine ⟨h.1, h.2.1, fun q hq => ?_⟩
  obtain ⟨j, w, rfl, h2⟩ := jlv_mem G _ 0 q hq
  refine h.2.2 _ ?_
  rcases jget_set _ i j none (some w) h2 (by simp) with ⟨-, b⟩ | ⟨a, b⟩
  · cases b
  · obtain ⟨c1, c2⟩ := jcut_get lv i j w b
    refine List.mem_cons_of_mem _ (List.mem_filter.mpr ⟨jlv_in G lv 0 j w c1, ?_⟩)
    simp only [Nat.zero_add, jmv_cat, Bool.and_eq_true, Bool.not_eq_true', beq_eq_false_iff_ne, ne_eq, Bool.and_eq_false_iff]
    refine ⟨a, ?_⟩
    by_cases hj : j + 1 = i
    · exact Or.inr fun q => c2 ⟨hj, q⟩
    · exact Or.inl hj
/-- the handler x takes E, the ones ahead don't; it stores it at i -/
def jHand (M : jM) (Q : jQ) (pc : Nat) (lv : List (Option Value)) (E : String) (Γ' : jS) (h' : jH) (u' : Nat × Nat) (pre : List (Nat × Nat × Nat × Nat)) (x : Nat × Nat × Nat × Nat) (i : Nat) : Prop :=
  (∃ suf, mX M = pre ++ x :: suf) ∧ (∀ z ∈ pre, z.2.2.2 ≠ 0 ∧ ∃ nm, jlk (.classLink (jCn (mO M)) z.2.2.2 nm) ∧ nm ∈ jXn ∧ E ≠ nm) ∧ E ∈ jXn ∧ (x.1 ≤ pc ∧ pc < x.2.1) ∧ x.2.2.2 ≠ 0 ∧ jlk (.classLink (jCn (mO M)) x.2.2.2 E) ∧ Cond.castable E E ∈ jNest ∧ i < mL M ∧
  ((decode (mC M) x.2.2.1 = .ok (.astore i, 2) ∧ WP M Q (x.2.2.1 + 2) (jset0 lv i) [] Γ' h' u') ∨ (∃ k : Fin 4, (k : Nat) = i ∧ decode (mC M) x.2.2.1 = .ok (.astore_n k, 1) ∧ WP M Q (x.2.2.1 + 1) (jset0 lv i) [] Γ' h' u'))
theorem j_callVX {M' : jM} {Q' : jQ} {r idx ci n : Nat} {As : List Value} (k : JM M' (.ref r :: As) Γ h Q')
    (hw0 : jlk (.methodLink (jCn (mO M)) idx (mY M'))) (hw : ∀ w ∈ ([.instanceMethod (mY M'), .selects (jCn ci) (mY M') (mY M'), .initialized (jCn ci)] : List Cond), jlk w) (hcw : jlk (jcw M')) (hX : mX M' = [])
    (hd2 : (mY M').cls = jCn ci ∧ (mY M').cls ≠ "java/lang/invoke/MethodHandle" ∧ (mY M').cls ≠ "java/lang/invoke/VarHandle" ∧ (parseMethodDescriptor (mY M').desc).map (fun d => d.parameters.length) = some n) (hn : As.length = n)
    (hlow : jlow M' M) (hr : r < jN Γ) (hk : jK Γ r = ci) (hc : ci < 13) (hst : (st.map fun v => v.category).sum ≤ 8) (hu : u.1 + mMc M' ≤ mMc M ∧ u.2 + mMs M' ≤ mMs M) (hd : decode (mC M) pc = .ok (.invokevirtual idx, 3))
    (kx : ∀ (E : String) (Γ' : jS) (h' : jH), Q' (.inr E) Γ' h' → ∃ pre x i, jHand M Q pc lv E Γ' h' (u.1 + mMc M', u.2 + mMs M') pre x i)
    (kk : ∀ (r : Option Value) (Γ' : jS) (h' : jH), Q' (.inl r) Γ' h' → WP M Q (pc + 3) lv (r.toList ++ st) Γ' h' (u.1 + mMc M', u.2 + mMs M')) : WP M Q pc lv (As.reverse ++ .ref r :: st) Γ h u := by
  intro l G p e s m args below meth c C H locs ls hP hS hl
  have hM := k l C.2.2.2.2.2.2.2.2.2.2.2.1 G
  have hjc : jws M' = Cond.code (mY M') (mC M') (mL M') (mR M') :: jU := by simp only [jws, jcw, hX, if_pos]
  have es : (As.reverse ++ .ref r :: st).map (jmv G) = (As.map (jmv G)).reverse ++ .ref (jad G r) :: st.map (jmv G) := by rw [List.map_append, List.map_reverse]; rfl
  rw [es]
  have hr := vx_runV (As := As.map (jmv G)) (rest := st.map (jmv G)) (g := F0 m pc ls ((As.map (jmv G)).reverse ++ .ref (jad G r) :: st.map (jmv G))) ⟨C.1, C.2.1, C.2.2.1, jown C, C.2.2.2.2.2.2.2.2.1⟩ hM (cwV n C.2.2.2.2.2.2.2.2.1 (jGoodApp (fun w h => (List.mem_cons.mp h).elim (fun e => e ▸ hw0) (hw w)) hcw) hjc rfl rfl hd2 (jroom hlow)) ⟨jBlind, jrecv C hP hr hk hc, fun U hU hW => jpre C hP hS (.ref r :: As) U hU hW⟩ rfl (by rw [List.length_map]; exact hn) hl.1 rfl (lv_room (by rw [jcat_map]; exact hst)) hd hu (p := p) (l := l) (e := e) (below := below) (meth := meth) (locs := locs)
  intro T hT X
  have keep : ∀ {st₀ t T' : State} {L : List Loc}, st₀.heap = H → T'.heap = t.heap → (∀ q ∈ L, jA G q.base) → va_F (jA G) st₀ t → va_S (jA G) s.heap T'.heap (locs ++ L) := fun {st₀ t T' L} h0 e1 hL hF => by
    obtain ⟨f1, f2⟩ := hF
    rw [h0] at f1 f2
    refine ⟨Nat.le_trans hS.1 (by rw [e1]; exact f1), fun q h1 h2 => by rw [e1, f2 q (Nat.lt_of_lt_of_le h1 hS.1) h2]; exact hS.2.1 q h1 h2, fun q hq => ?_⟩
    rcases List.mem_append.mp hq with h | h
    · exact hS.2.2 q h
    · exact hL q h
  rcases hr T hT X with ⟨v, st₀, t, T', L, h0, X', hL, e1, e2, ⟨⟨r0, Γ', h', hv, hq, hP'⟩, hF⟩, st2⟩ | ⟨q, st₀, t, T', L, E, ce, h0, X', hL, e1, e2, ⟨⟨Γ', h', hq, hP'⟩, hF⟩, hce, hcv, hcl, st2⟩
  · have hv : v = r0.map (jmv G) := by cases hv; rfl
    subst hv
    have K := kk r0 Γ' h' hq l G p e s m args below meth c C T'.heap (locs ++ L) ls (by rw [e1]; exact hP') (keep h0 e1 hL hF) hl
    have es : (r0.toList ++ st).map (jmv G) = (r0.map (jmv G)).toList ++ st.map (jmv G) := by cases r0 <;> rfl
    rw [es] at K
    obtain ⟨t2, a1, b1⟩ := K T' rfl X'
    exact ⟨t2, st2 t2 a1, b1⟩
  · obtain ⟨pre, x, i, ⟨suf, hX2⟩, hpre, hE, hcov, hx0, hxl, hcast, hi, hgo⟩ := kx E Γ' h' hq
    have K := vx_catch (l := l) (R := jrm M) (args := args) (below := below) (meth := meth) (p := p) (e := e) (locs := locs ++ L) (cells := u.1 + mMc M') (slots := u.2 + mMs M') (Q := vx_MQ below (jQc G Q) (jXC G Q) args s (mMc M) (mMs M) (jA G)) (H := T'.heap) (ls := ls) (pc := pc) (rest := st.map (jmv G)) (name := E) (E := E) (q := q) (jown C) (pre.map fun q => ⟨q.1, q.2.1, q.2.2.1, q.2.2.2⟩) ⟨x.1, x.2.1, x.2.2.1, x.2.2.2⟩ (suf.map fun q => ⟨q.1, q.2.1, q.2.2.1, q.2.2.2⟩)
      (by rw [C.2.2.2.2.2.2.2.1, hX2]; unfold tableOf; rw [List.map_append, List.map_cons])
      (fun z hz => by
        obtain ⟨y, hy, rfl⟩ := List.mem_map.mp hz
        obtain ⟨y0, nm, y1, y2, y3⟩ := hpre y hy
        exact Or.inr ⟨y0, nm, jword C y1.1 y1.2, C.2.2.2.2.2.2.2.2.2.1.2.2.1.2.1 E hE nm y2 y3⟩)
      (by unfold covers; rw [decide_eq_true hcov.1, decide_eq_true hcov.2]; rfl) hx0 (jword C hxl.1 hxl.2) (jwordN C hcast rfl) (by rw [e1]; exact hce) hcv hcl
      (by
        rcases hgo with ⟨d1, w1⟩ | ⟨k', hk', d1, w1⟩
        · exact lv_astore C.1 C.2.1 d1 hl hi rfl fun ls' hl' => w1 l G p e s m args below meth c C T'.heap (locs ++ L) ls' (by rw [e1]; exact hP') (keep h0 e1 hL hF) (jset0_has hl')
        · exact lv_astore_n C.1 C.2.1 d1 hk' hl hi rfl fun ls' hl' => w1 l G p e s m args below meth c C T'.heap (locs ++ L) ls' (by rw [e1]; exact hP') (keep h0 e1 hL hF) (jset0_has hl'))
    obtain ⟨t2, a1, b1⟩ := K T' rfl X'
    exact ⟨t2, st2.trans a1, b1⟩
end CATCH
