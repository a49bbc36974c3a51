/-! The law's wrappers: an operation of the class, its throws caught and counted. -/
section WRAP
variable {sc : Nat × (Nat → Int32)} {h : jH} {A : aA} {n : Nat}
theorem RC.out {v : Int32} (k : RC h A) (ok : aOk n A) : RC (jput h 179 0 v) A := by
  have f : jfr ([(179, 179)], []) h (jput h 179 0 v) := jfr.rf.put (by rw [jin_iff]; simp)
  exact ⟨k.1.eq (fun c h1 h2 => f.cell (fun j => by rw [jin_f]; simp <;> omega)) ok.1.2.2.2.2.2.2.1.1, k.2.1.eq (f 0 6 rfl) (k.img ok (g_img f ⟨rfl, rfl⟩)), ⟨(f 1 1 rfl).trans k.2.2.1.1, fun i hi => (f 2 i rfl).trans (k.2.2.1.2 i hi)⟩, (f 0 1 rfl).trans k.2.2.2.1, (f 69 5 rfl).trans k.2.2.2.2.1, k.2.2.2.2.2.fr75 f ⟨rfl, rfl⟩⟩
theorem sI_le {c : Prop} {k : Nat} {a b : aO} (h1 : a.1 ≤ k) (h2 : b.1 ≤ k) : (sIf c a b).1 ≤ k := by
  by_cases z : c
  · rw [sIf_t z]; exact h1
  · rw [sIf_f z]; exact h2
/-- what a wrapper leaves: how it ended, the value in the row of longs -/
def wQ (sc : Nat × (Nat → Int32)) (o : aO) (h : jH) : jQ := jint sc (fun r h' => r = nI o.1 ∧ (o.1 = 0 → h' 179 0 = o.2.1) ∧ RC h' o.2.2 ∧ ∀ c, 159 ≤ c → c < 179 → h' c = h c)
/-- the j-th handler takes E and returns j + 1 -/
def wHd (M : jM) (pc : Nat) (E : String) (j : Nat) : Prop := ∃ (pre : List (Nat × Nat × Nat × Nat)) (x : Nat × Nat × Nat × Nat) (suf : List (Nat × Nat × Nat × Nat)) (i len : Nat), mX M = pre ++ x :: suf ∧
  (∀ z ∈ pre, z.2.2.2 ≠ 0 ∧ ∃ nm, jlk (.classLink (jCn (mO M)) z.2.2.2 nm) ∧ nm ∈ jXn ∧ E ≠ nm) ∧ E ∈ jXn ∧ (x.1 ≤ pc ∧ pc < x.2.1) ∧ x.2.2.2 ≠ 0 ∧ jlk (.classLink (jCn (mO M)) x.2.2.2 E) ∧ Cond.castable E E ∈ jNest ∧ i < mL M ∧
  ((len = 2 ∧ decode (mC M) x.2.2.1 = .ok (.astore i, 2)) ∨ (len = 1 ∧ ∃ k : Fin 4, (k : Nat) = i ∧ decode (mC M) x.2.2.1 = .ok (.astore_n k, 1))) ∧
  decode (mC M) (x.2.2.1 + len) = .ok (.iconst ((j + 1 : Nat) : Int), 1) ∧ decode (mC M) (x.2.2.1 + len + 1) = .ok (.ireturn, 1)
theorem w_ofI : ∀ j, j < 3 → Int32.ofInt ((j + 1 : Nat) : Int) = nI (j + 1) := by decide
theorem wHd.go {M : jM} {pc j : Nat} {E : String} {lv : List (Option Value)} {Q : jQ} {Γ' : jS} {h' : jH} {u : Nat × Nat} (k : wHd M pc E j) (hj : j < 3) (hr : mR M = some .int) (h1 : u.1 ≤ mMc M) (h2 : u.2 ≤ mMs M) (q : Q (.inl (some (.int (nI (j + 1))))) Γ' h') : ∃ pre x i, jHand M Q pc lv E Γ' h' u pre x i := by
  obtain ⟨pre, x, suf, i, len, e1, e2, e3, e4, e5, e6, e7, e8, e9, e10, e11⟩ := k
  refine ⟨pre, x, i, ⟨suf, e1⟩, e2, e3, e4, e5, e6, e7, e8, ?_⟩
  rcases e9 with ⟨rfl, d⟩ | ⟨rfl, k', hk, d⟩
  · exact Or.inl ⟨d, j_iconst _ (w_ofI j hj) e10 (j_iret hr rfl h1 h2 e11 q)⟩
  · exact Or.inr ⟨k', hk, d, j_iconst _ (w_ofI j hj) e10 (j_iret hr rfl h1 h2 e11 q)⟩
theorem wrapI {M M' : jM} {pc idx nn tgt : Nat} {off : Int} {As : List Value} {lv : List (Option Value)} {es : List String} {o : aO} (ok : aOk n o.2.2) (k : JM M' (.ref 0 :: As) (jG0 sc) h (cQ sc es o h)) (le : o.1 ≤ es.length) (le3 : es.length ≤ 3)
    (hw0 : jlk (.methodLink (jCn (mO M)) idx (mY M'))) (hw : ∀ w ∈ ([.instanceMethod (mY M'), .selects (jCn 11) (mY M') (mY M'), .initialized (jCn 11)] : List Cond), jlk w) (hcw : jlk (jcw M')) (hX : mX M' = [])
    (hd2 : (mY M').cls = jCn 11 ∧ (mY M').cls ≠ "java/lang/invoke/MethodHandle" ∧ (mY M').cls ≠ "java/lang/invoke/VarHandle" ∧ (parseMethodDescriptor (mY M').desc).map (fun d => d.parameters.length) = some nn) (hn : As.length = nn)
    (hlow : jlow M' M) (hu : mMc M' ≤ mMc M ∧ mMs M' ≤ mMs M) (hr : mR M = some .int)
    (d0 : decode (mC M) pc = .ok (.invokevirtual idx, 3)) (d1 : decode (mC M) (pc + 3) = .ok (.i2l, 1)) (d2 : decode (mC M) (pc + 4) = .ok (.lastore, 1)) (d3 : decode (mC M) (pc + 5) = .ok (.goto off, 3)) (ht : ((pc + 5 : Nat) : Int) + off = (tgt : Int))
    (d4 : decode (mC M) tgt = .ok (.iconst 0, 1)) (d5 : decode (mC M) (tgt + 1) = .ok (.ireturn, 1)) (hh : ∀ j, j < es.length → wHd M pc (es.getD j "") j) : WP M (wQ sc o h) pc lv (As.reverse ++ .ref 0 :: [.int 0, .ref 179]) (jG0 sc) h (0, 0) := by
  have h1 : (0 : Nat) + mMc M' ≤ mMc M := by rw [Nat.zero_add]; exact hu.1
  have h2 : (0 : Nat) + mMs M' ≤ mMs M := by rw [Nat.zero_add]; exact hu.2
  refine j_callVX k hw0 hw hcw hX hd2 hn hlow (Nat.le_of_ble_eq_true rfl) rfl (by decide) (by decide) ⟨h1, h2⟩ d0 (fun E Γ' h' q => ?_) (fun r0 Γ' h' q => ?_)
  · obtain ⟨q1, rfl, q3, q4⟩ := q
    unfold cOut at q1
    by_cases z : o.1 = 0
    · rw [if_pos z] at q1; cases q1
    · rw [if_neg z] at q1
      cases q1
      have := (hh (o.1 - 1) (by omega)).go (lv := lv) (Q := wQ sc o h) (Γ' := jG0 sc) (h' := h') (u := ((0 : Nat) + mMc M', (0 : Nat) + mMs M')) (by omega) hr h1 h2 (by
        rw [show o.1 - 1 + 1 = o.1 by omega]
        exact jint_i ⟨rfl, fun q => absurd q z, q3, fun c a b => q4 c a⟩)
      exact this
  · obtain ⟨q1, rfl, q3, q4⟩ := q
    unfold cOut at q1
    by_cases z : o.1 = 0
    · rw [if_pos z] at q1
      cases q1
      refine j_i2l d1 (j_last (Nat.le_of_ble_eq_true rfl) rfl (vp_in_nI (by decide) (by decide) : vp_in (nI 0) 1) d2 (j_goto tgt d3 ht (j_iconst 0 rfl d4 (j_iret hr rfl h1 h2 d5 ?_))))
      exact jint_i ⟨by rw [z]; rfl, fun _ => jput_at, q3.out ok, fun c a b => (jput_ne (by omega)).trans (q4 c a)⟩
    · rw [if_neg z] at q1; cases q1
end WRAP
theorem jcs_IAE : Cond.castable "java/lang/IllegalArgumentException" "java/lang/IllegalArgumentException" ∈ jNest := List.mem_filter.mpr ⟨jTbl (jtb4 83 rfl), rfl⟩
theorem jxn_IAE : "java/lang/IllegalArgumentException" ∈ jXn := by decide
theorem jcs_ISE : Cond.castable "java/lang/IllegalStateException" "java/lang/IllegalStateException" ∈ jNest := List.mem_filter.mpr ⟨jTbl (jtb5 7 rfl), rfl⟩
theorem jxn_ISE : "java/lang/IllegalStateException" ∈ jXn := by decide
theorem jcs_IOB : Cond.castable "java/lang/IndexOutOfBoundsException" "java/lang/IndexOutOfBoundsException" ∈ jNest := List.mem_filter.mpr ⟨jTbl (jtb5 32 rfl), rfl⟩
theorem jxn_IOB : "java/lang/IndexOutOfBoundsException" ∈ jXn := by decide
theorem jcs_UOE : Cond.castable "java/lang/UnsupportedOperationException" "java/lang/UnsupportedOperationException" ∈ jNest := List.mem_filter.mpr ⟨jTbl (jtb4 215 rfl), rfl⟩
theorem jxn_UOE : "java/lang/UnsupportedOperationException" ∈ jXn := by decide
theorem jcs_NSE : Cond.castable "java/util/NoSuchElementException" "java/util/NoSuchElementException" ∈ jNest := List.mem_filter.mpr ⟨jTbl (jtb5 49 rfl), rfl⟩
theorem jxn_NSE : "java/util/NoSuchElementException" ∈ jXn := by decide
def mL_body : jM := (yL_body, cL_body, 4, (some .int), 12, 1, 6, [(0, 9, 12, 13)], 13)
theorem hL_body_0 : wHd mL_body 4 "java/lang/IllegalArgumentException" 0 := ⟨[], (0, 9, 12, 13), [], 3, 1, rfl, (fun z hz => nomatch hz), jxn_IAE, ⟨by decide, by decide⟩, by decide, (jlkT (jtb3 201 rfl) rfl), jcs_IAE, by decide, Or.inr ⟨rfl, 3, rfl, by decide +kernel⟩, by decide +kernel, by decide +kernel⟩
theorem wL_body : jlk (.methodLink (jCn (mO mL_body)) 7 (mY mX11_body)) := (jlkT (jtb3 202 rfl) rfl)
def mL_law : jM := (yL_law, cL_law, 3, (some .int), 62, 1, 6, [(0, 15, 18, 13)], 13)
theorem hL_law_0 : wHd mL_law 3 "java/lang/IllegalArgumentException" 0 := ⟨[], (0, 15, 18, 13), [], 2, 1, rfl, (fun z hz => nomatch hz), jxn_IAE, ⟨by decide, by decide⟩, by decide, (jlkT (jtb3 201 rfl) rfl), jcs_IAE, by decide, Or.inr ⟨rfl, 2, rfl, by decide +kernel⟩, by decide +kernel, by decide +kernel⟩
theorem wL_law : jlk (.methodLink (jCn (mO mL_law)) 15 (mY mX11_law)) := (jlkT (jtb4 154 rfl) rfl)
def mL_run : jM := (yL_run, cL_run, 6, (some .int), 8, 1, 6, [(0, 12, 15, 13), (0, 12, 19, 23)], 13)
theorem hL_run_0 : wHd mL_run 7 "java/lang/IllegalArgumentException" 0 := ⟨[], (0, 12, 15, 13), [(0, 12, 19, 23)], 5, 2, rfl, (fun z hz => nomatch hz), jxn_IAE, ⟨by decide, by decide⟩, by decide, (jlkT (jtb3 201 rfl) rfl), jcs_IAE, by decide, Or.inl ⟨rfl, by decide +kernel⟩, by decide +kernel, by decide +kernel⟩
theorem hL_run_1 : wHd mL_run 7 "java/lang/UnsupportedOperationException" 1 := ⟨[(0, 12, 15, 13)], (0, 12, 19, 23), [], 5, 2, rfl, (fun z hz => by rw [List.mem_singleton.mp hz]; exact ⟨by decide, "java/lang/IllegalArgumentException", (jlkT (jtb3 201 rfl) rfl), jxn_IAE, by decide⟩), jxn_UOE, ⟨by decide, by decide⟩, by decide, (jlkT (jtb4 205 rfl) rfl), jcs_UOE, by decide, Or.inl ⟨rfl, by decide +kernel⟩, by decide +kernel, by decide +kernel⟩
theorem wL_run : jlk (.methodLink (jCn (mO mL_run)) 19 (mY mX11_run)) := (jlkT (jtb4 206 rfl) rfl)
def mL_ends : jM := (yL_ends, cL_ends, 6, (some .int), 7, 1, 6, [(0, 12, 15, 29)], 13)
theorem hL_ends_0 : wHd mL_ends 7 "java/lang/IllegalStateException" 0 := ⟨[], (0, 12, 15, 29), [], 5, 2, rfl, (fun z hz => nomatch hz), jxn_ISE, ⟨by decide, by decide⟩, by decide, (jlkT (jtb5 0 rfl) rfl), jcs_ISE, by decide, Or.inl ⟨rfl, by decide +kernel⟩, by decide +kernel, by decide +kernel⟩
theorem wL_ends : jlk (.methodLink (jCn (mO mL_ends)) 25 (mY mX11_ends)) := (jlkT (jtb5 1 rfl) rfl)
def mL_look : jM := (yL_look, cL_look, 5, (some .int), 7, 1, 6, [(0, 10, 13, 35), (0, 10, 17, 29), (0, 10, 21, 37)], 13)
theorem hL_look_0 : wHd mL_look 5 "java/lang/IndexOutOfBoundsException" 0 := ⟨[], (0, 10, 13, 35), [(0, 10, 17, 29), (0, 10, 21, 37)], 4, 2, rfl, (fun z hz => nomatch hz), jxn_IOB, ⟨by decide, by decide⟩, by decide, (jlkT (jtb5 24 rfl) rfl), jcs_IOB, by decide, Or.inl ⟨rfl, by decide +kernel⟩, by decide +kernel, by decide +kernel⟩
theorem hL_look_1 : wHd mL_look 5 "java/lang/IllegalStateException" 1 := ⟨[(0, 10, 13, 35)], (0, 10, 17, 29), [(0, 10, 21, 37)], 4, 2, rfl, (fun z hz => by rw [List.mem_singleton.mp hz]; exact ⟨by decide, "java/lang/IndexOutOfBoundsException", (jlkT (jtb5 24 rfl) rfl), jxn_IOB, by decide⟩), jxn_ISE, ⟨by decide, by decide⟩, by decide, (jlkT (jtb5 0 rfl) rfl), jcs_ISE, by decide, Or.inl ⟨rfl, by decide +kernel⟩, by decide +kernel, by decide +kernel⟩
theorem hL_look_2 : wHd mL_look 5 "java/util/NoSuchElementException" 2 := ⟨[(0, 10, 13, 35), (0, 10, 17, 29)], (0, 10, 21, 37), [], 4, 2, rfl, (fun z hz => by rcases List.mem_cons.mp hz with rfl | hz; exact ⟨by decide, "java/lang/IndexOutOfBoundsException", (jlkT (jtb5 24 rfl) rfl), jxn_IOB, by decide⟩; rw [List.mem_singleton.mp hz]; exact ⟨by decide, "java/lang/IllegalStateException", (jlkT (jtb5 0 rfl) rfl), jxn_ISE, by decide⟩), jxn_NSE, ⟨by decide, by decide⟩, by decide, (jlkT (jtb5 25 rfl) rfl), jcs_NSE, by decide, Or.inl ⟨rfl, by decide +kernel⟩, by decide +kernel, by decide +kernel⟩
theorem wL_look : jlk (.methodLink (jCn (mO mL_look)) 31 (mY mX11_look)) := (jlkT (jtb5 26 rfl) rfl)
def mL_done : jM := (yL_done, cL_done, 5, (some .int), 8, 1, 6, [(0, 10, 13, 35)], 13)
theorem hL_done_0 : wHd mL_done 5 "java/lang/IndexOutOfBoundsException" 0 := ⟨[], (0, 10, 13, 35), [], 4, 2, rfl, (fun z hz => nomatch hz), jxn_IOB, ⟨by decide, by decide⟩, by decide, (jlkT (jtb5 24 rfl) rfl), jcs_IOB, by decide, Or.inl ⟨rfl, by decide +kernel⟩, by decide +kernel, by decide +kernel⟩
theorem wL_done : jlk (.methodLink (jCn (mO mL_done)) 39 (mY mX11_done)) := (jlkT (jtb5 66 rfl) rfl)
def mL_where : jM := (yL_where, cL_where, 4, (some .int), 9, 1, 6, [(0, 9, 12, 29), (0, 9, 15, 37)], 13)
theorem hL_where_0 : wHd mL_where 4 "java/lang/IllegalStateException" 0 := ⟨[], (0, 9, 12, 29), [(0, 9, 15, 37)], 3, 1, rfl, (fun z hz => nomatch hz), jxn_ISE, ⟨by decide, by decide⟩, by decide, (jlkT (jtb5 0 rfl) rfl), jcs_ISE, by decide, Or.inr ⟨rfl, 3, rfl, by decide +kernel⟩, by decide +kernel, by decide +kernel⟩
theorem hL_where_1 : wHd mL_where 4 "java/util/NoSuchElementException" 1 := ⟨[(0, 9, 12, 29)], (0, 9, 15, 37), [], 3, 1, rfl, (fun z hz => by rw [List.mem_singleton.mp hz]; exact ⟨by decide, "java/lang/IllegalStateException", (jlkT (jtb5 0 rfl) rfl), jxn_ISE, by decide⟩), jxn_NSE, ⟨by decide, by decide⟩, by decide, (jlkT (jtb5 25 rfl) rfl), jcs_NSE, by decide, Or.inr ⟨rfl, 3, rfl, by decide +kernel⟩, by decide +kernel, by decide +kernel⟩
theorem wL_where : jlk (.methodLink (jCn (mO mL_where)) 43 (mY mX11_where)) := (jlkT (jtb5 83 rfl) rfl)
def mL_mend : jM := (yL_mend, cL_mend, 5, (some .int), 8, 1, 6, [(0, 10, 13, 35), (0, 10, 17, 37)], 13)
theorem hL_mend_0 : wHd mL_mend 5 "java/lang/IndexOutOfBoundsException" 0 := ⟨[], (0, 10, 13, 35), [(0, 10, 17, 37)], 4, 2, rfl, (fun z hz => nomatch hz), jxn_IOB, ⟨by decide, by decide⟩, by decide, (jlkT (jtb5 24 rfl) rfl), jcs_IOB, by decide, Or.inl ⟨rfl, by decide +kernel⟩, by decide +kernel, by decide +kernel⟩
theorem hL_mend_1 : wHd mL_mend 5 "java/util/NoSuchElementException" 1 := ⟨[(0, 10, 13, 35)], (0, 10, 17, 37), [], 4, 2, rfl, (fun z hz => by rw [List.mem_singleton.mp hz]; exact ⟨by decide, "java/lang/IndexOutOfBoundsException", (jlkT (jtb5 24 rfl) rfl), jxn_IOB, by decide⟩), jxn_NSE, ⟨by decide, by decide⟩, by decide, (jlkT (jtb5 25 rfl) rfl), jcs_NSE, by decide, Or.inl ⟨rfl, by decide +kernel⟩, by decide +kernel, by decide +kernel⟩
theorem wL_mend : jlk (.methodLink (jCn (mO mL_mend)) 47 (mY mX11_mend)) := (jlkT (jtb5 108 rfl) rfl)
def mL_line : jM := (yL_line, cL_line, 6, (some .int), 6, 1, 6, [(0, 12, 15, 35), (0, 12, 19, 37)], 13)
theorem hL_line_0 : wHd mL_line 7 "java/lang/IndexOutOfBoundsException" 0 := ⟨[], (0, 12, 15, 35), [(0, 12, 19, 37)], 5, 2, rfl, (fun z hz => nomatch hz), jxn_IOB, ⟨by decide, by decide⟩, by decide, (jlkT (jtb5 24 rfl) rfl), jcs_IOB, by decide, Or.inl ⟨rfl, by decide +kernel⟩, by decide +kernel, by decide +kernel⟩
theorem hL_line_1 : wHd mL_line 7 "java/util/NoSuchElementException" 1 := ⟨[(0, 12, 15, 35)], (0, 12, 19, 37), [], 5, 2, rfl, (fun z hz => by rw [List.mem_singleton.mp hz]; exact ⟨by decide, "java/lang/IndexOutOfBoundsException", (jlkT (jtb5 24 rfl) rfl), jxn_IOB, by decide⟩), jxn_NSE, ⟨by decide, by decide⟩, by decide, (jlkT (jtb5 25 rfl) rfl), jcs_NSE, by decide, Or.inl ⟨rfl, by decide +kernel⟩, by decide +kernel, by decide +kernel⟩
theorem wL_line : jlk (.methodLink (jCn (mO mL_line)) 50 (mY mX11_line)) := (jlkT (jtb5 116 rfl) rfl)
def mL_tries : jM := (yL_tries, cL_tries, 4, (some .int), 8, 1, 6, [(0, 9, 12, 13), (0, 9, 15, 29)], 13)
theorem hL_tries_0 : wHd mL_tries 4 "java/lang/IllegalArgumentException" 0 := ⟨[], (0, 9, 12, 13), [(0, 9, 15, 29)], 3, 1, rfl, (fun z hz => nomatch hz), jxn_IAE, ⟨by decide, by decide⟩, by decide, (jlkT (jtb3 201 rfl) rfl), jcs_IAE, by decide, Or.inr ⟨rfl, 3, rfl, by decide +kernel⟩, by decide +kernel, by decide +kernel⟩
theorem hL_tries_1 : wHd mL_tries 4 "java/lang/IllegalStateException" 1 := ⟨[(0, 9, 12, 13)], (0, 9, 15, 29), [], 3, 1, rfl, (fun z hz => by rw [List.mem_singleton.mp hz]; exact ⟨by decide, "java/lang/IllegalArgumentException", (jlkT (jtb3 201 rfl) rfl), jxn_IAE, by decide⟩), jxn_ISE, ⟨by decide, by decide⟩, by decide, (jlkT (jtb5 0 rfl) rfl), jcs_ISE, by decide, Or.inr ⟨rfl, 3, rfl, by decide +kernel⟩, by decide +kernel, by decide +kernel⟩
theorem wL_tries : jlk (.methodLink (jCn (mO mL_tries)) 53 (mY mX11_tries)) := (jlkT (jtb5 128 rfl) rfl)
def mL_alive : jM := (yL_alive, cL_alive, 5, (some .int), 5, 1, 6, [(0, 10, 13, 35), (0, 10, 17, 37)], 13)
theorem hL_alive_0 : wHd mL_alive 5 "java/lang/IndexOutOfBoundsException" 0 := ⟨[], (0, 10, 13, 35), [(0, 10, 17, 37)], 4, 2, rfl, (fun z hz => nomatch hz), jxn_IOB, ⟨by decide, by decide⟩, by decide, (jlkT (jtb5 24 rfl) rfl), jcs_IOB, by decide, Or.inl ⟨rfl, by decide +kernel⟩, by decide +kernel, by decide +kernel⟩
theorem hL_alive_1 : wHd mL_alive 5 "java/util/NoSuchElementException" 1 := ⟨[(0, 10, 13, 35)], (0, 10, 17, 37), [], 4, 2, rfl, (fun z hz => by rw [List.mem_singleton.mp hz]; exact ⟨by decide, "java/lang/IndexOutOfBoundsException", (jlkT (jtb5 24 rfl) rfl), jxn_IOB, by decide⟩), jxn_NSE, ⟨by decide, by decide⟩, by decide, (jlkT (jtb5 25 rfl) rfl), jcs_NSE, by decide, Or.inl ⟨rfl, by decide +kernel⟩, by decide +kernel, by decide +kernel⟩
theorem wL_alive : jlk (.methodLink (jCn (mO mL_alive)) 56 (mY mX11_alive)) := (jlkT (jtb5 148 rfl) rfl)
def mL_aliveEnds : jM := (yL_aliveEnds, cL_aliveEnds, 6, (some .int), 7, 1, 6, [(0, 12, 15, 35)], 13)
theorem hL_aliveEnds_0 : wHd mL_aliveEnds 7 "java/lang/IndexOutOfBoundsException" 0 := ⟨[], (0, 12, 15, 35), [], 5, 2, rfl, (fun z hz => nomatch hz), jxn_IOB, ⟨by decide, by decide⟩, by decide, (jlkT (jtb5 24 rfl) rfl), jcs_IOB, by decide, Or.inl ⟨rfl, by decide +kernel⟩, by decide +kernel, by decide +kernel⟩
theorem wL_aliveEnds : jlk (.methodLink (jCn (mO mL_aliveEnds)) 59 (mY mX11_aliveEnds)) := (jlkT (jtb5 157 rfl) rfl)
def mL_teach : jM := (yL_teach, cL_teach, 4, (some .int), 3, 1, 6, [(0, 9, 12, 13)], 13)
theorem hL_teach_0 : wHd mL_teach 4 "java/lang/IllegalArgumentException" 0 := ⟨[], (0, 9, 12, 13), [], 3, 1, rfl, (fun z hz => nomatch hz), jxn_IAE, ⟨by decide, by decide⟩, by decide, (jlkT (jtb3 201 rfl) rfl), jcs_IAE, by decide, Or.inr ⟨rfl, 3, rfl, by decide +kernel⟩, by decide +kernel, by decide +kernel⟩
theorem wL_teach : jlk (.methodLink (jCn (mO mL_teach)) 62 (mY mX11_teach)) := (jlkT (jtb5 164 rfl) rfl)
def mL_first : jM := (yL_first, cL_first, 4, (some .int), 8, 1, 6, [(0, 9, 12, 29)], 13)
theorem hL_first_0 : wHd mL_first 4 "java/lang/IllegalStateException" 0 := ⟨[], (0, 9, 12, 29), [], 3, 1, rfl, (fun z hz => nomatch hz), jxn_ISE, ⟨by decide, by decide⟩, by decide, (jlkT (jtb5 0 rfl) rfl), jcs_ISE, by decide, Or.inr ⟨rfl, 3, rfl, by decide +kernel⟩, by decide +kernel, by decide +kernel⟩
theorem wL_first : jlk (.methodLink (jCn (mO mL_first)) 65 (mY mX11_first)) := (jlkT (jtb5 172 rfl) rfl)
def mL_box : jM := (yL_box, cL_box, 3, (some .int), 3, 1, 6, [(0, 5, 8, 13)], 13)
theorem hL_box_0 : wHd mL_box 2 "java/lang/IllegalArgumentException" 0 := ⟨[], (0, 5, 8, 13), [], 2, 1, rfl, (fun z hz => nomatch hz), jxn_IAE, ⟨by decide, by decide⟩, by decide, (jlkT (jtb3 201 rfl) rfl), jcs_IAE, by decide, Or.inr ⟨rfl, 2, rfl, by decide +kernel⟩, by decide +kernel, by decide +kernel⟩
theorem wL_box : jlk (.methodLink (jCn (mO mL_box)) 68 (mY mX11_box)) := (jlkT (jtb5 183 rfl) rfl)
def mL_prove : jM := (yL_prove, cL_prove, 5, (some .int), 9, 1, 6, [(0, 10, 13, 35), (0, 10, 17, 29)], 13)
theorem hL_prove_0 : wHd mL_prove 5 "java/lang/IndexOutOfBoundsException" 0 := ⟨[], (0, 10, 13, 35), [(0, 10, 17, 29)], 4, 2, rfl, (fun z hz => nomatch hz), jxn_IOB, ⟨by decide, by decide⟩, by decide, (jlkT (jtb5 24 rfl) rfl), jcs_IOB, by decide, Or.inl ⟨rfl, by decide +kernel⟩, by decide +kernel, by decide +kernel⟩
theorem hL_prove_1 : wHd mL_prove 5 "java/lang/IllegalStateException" 1 := ⟨[(0, 10, 13, 35)], (0, 10, 17, 29), [], 4, 2, rfl, (fun z hz => by rw [List.mem_singleton.mp hz]; exact ⟨by decide, "java/lang/IndexOutOfBoundsException", (jlkT (jtb5 24 rfl) rfl), jxn_IOB, by decide⟩), jxn_ISE, ⟨by decide, by decide⟩, by decide, (jlkT (jtb5 0 rfl) rfl), jcs_ISE, by decide, Or.inl ⟨rfl, by decide +kernel⟩, by decide +kernel, by decide +kernel⟩
theorem wL_prove : jlk (.methodLink (jCn (mO mL_prove)) 72 (mY mX11_prove)) := (jlkT (jtb5 191 rfl) rfl)
def mL_bar : jM := (yL_bar, cL_bar, 3, (some .int), 9, 1, 6, [(0, 8, 11, 29)], 13)
theorem hL_bar_0 : wHd mL_bar 3 "java/lang/IllegalStateException" 0 := ⟨[], (0, 8, 11, 29), [], 2, 1, rfl, (fun z hz => nomatch hz), jxn_ISE, ⟨by decide, by decide⟩, by decide, (jlkT (jtb5 0 rfl) rfl), jcs_ISE, by decide, Or.inr ⟨rfl, 2, rfl, by decide +kernel⟩, by decide +kernel, by decide +kernel⟩
theorem wL_bar : jlk (.methodLink (jCn (mO mL_bar)) 75 (mY mX11_bar)) := (jlkT (jtb5 222 rfl) rfl)
def mL_otherwise : jM := (yL_otherwise, cL_otherwise, 4, (some .int), 7, 1, 6, [(0, 9, 12, 35), (0, 9, 15, 29)], 13)
theorem hL_otherwise_0 : wHd mL_otherwise 4 "java/lang/IndexOutOfBoundsException" 0 := ⟨[], (0, 9, 12, 35), [(0, 9, 15, 29)], 3, 1, rfl, (fun z hz => nomatch hz), jxn_IOB, ⟨by decide, by decide⟩, by decide, (jlkT (jtb5 24 rfl) rfl), jcs_IOB, by decide, Or.inr ⟨rfl, 3, rfl, by decide +kernel⟩, by decide +kernel, by decide +kernel⟩
theorem hL_otherwise_1 : wHd mL_otherwise 4 "java/lang/IllegalStateException" 1 := ⟨[(0, 9, 12, 35)], (0, 9, 15, 29), [], 3, 1, rfl, (fun z hz => by rw [List.mem_singleton.mp hz]; exact ⟨by decide, "java/lang/IndexOutOfBoundsException", (jlkT (jtb5 24 rfl) rfl), jxn_IOB, by decide⟩), jxn_ISE, ⟨by decide, by decide⟩, by decide, (jlkT (jtb5 0 rfl) rfl), jcs_ISE, by decide, Or.inr ⟨rfl, 3, rfl, by decide +kernel⟩, by decide +kernel, by decide +kernel⟩
theorem wL_otherwise : jlk (.methodLink (jCn (mO mL_otherwise)) 79 (mY mX11_otherwise)) := (jlkT (jtb5 229 rfl) rfl)
def mL_heaps : jM := (yL_heaps, cL_heaps, 3, (some .int), 9, 1, 6, [(0, 8, 11, 29)], 13)
theorem hL_heaps_0 : wHd mL_heaps 3 "java/lang/IllegalStateException" 0 := ⟨[], (0, 8, 11, 29), [], 2, 1, rfl, (fun z hz => nomatch hz), jxn_ISE, ⟨by decide, by decide⟩, by decide, (jlkT (jtb5 0 rfl) rfl), jcs_ISE, by decide, Or.inr ⟨rfl, 2, rfl, by decide +kernel⟩, by decide +kernel, by decide +kernel⟩
theorem wL_heaps : jlk (.methodLink (jCn (mO mL_heaps)) 82 (mY mX11_heaps)) := (jlkT (jtb5 237 rfl) rfl)
def mL_putIn : jM := (yL_putIn, cL_putIn, 4, (some .int), 9, 1, 6, [(0, 9, 12, 35)], 13)
theorem hL_putIn_0 : wHd mL_putIn 4 "java/lang/IndexOutOfBoundsException" 0 := ⟨[], (0, 9, 12, 35), [], 3, 1, rfl, (fun z hz => nomatch hz), jxn_IOB, ⟨by decide, by decide⟩, by decide, (jlkT (jtb5 24 rfl) rfl), jcs_IOB, by decide, Or.inr ⟨rfl, 3, rfl, by decide +kernel⟩, by decide +kernel, by decide +kernel⟩
theorem wL_putIn : jlk (.methodLink (jCn (mO mL_putIn)) 85 (mY mX11_putIn)) := (jlkT (jtb6 19 rfl) rfl)
def mL_make : jM := (yL_make, cL_make, 4, (some .int), 7, 1, 6, [(0, 9, 12, 35)], 13)
theorem hL_make_0 : wHd mL_make 4 "java/lang/IndexOutOfBoundsException" 0 := ⟨[], (0, 9, 12, 35), [], 3, 1, rfl, (fun z hz => nomatch hz), jxn_IOB, ⟨by decide, by decide⟩, by decide, (jlkT (jtb5 24 rfl) rfl), jcs_IOB, by decide, Or.inr ⟨rfl, 3, rfl, by decide +kernel⟩, by decide +kernel, by decide +kernel⟩
theorem wL_make : jlk (.methodLink (jCn (mO mL_make)) 88 (mY mX11_make)) := (jlkT (jtb6 38 rfl) rfl)
def mL_row : jM := (yL_row, cL_row, 5, (some .int), 3, 1, 6, [(0, 10, 13, 37)], 13)
theorem hL_row_0 : wHd mL_row 5 "java/util/NoSuchElementException" 0 := ⟨[], (0, 10, 13, 37), [], 4, 2, rfl, (fun z hz => nomatch hz), jxn_NSE, ⟨by decide, by decide⟩, by decide, (jlkT (jtb5 25 rfl) rfl), jcs_NSE, by decide, Or.inl ⟨rfl, by decide +kernel⟩, by decide +kernel, by decide +kernel⟩
theorem wL_row : jlk (.methodLink (jCn (mO mL_row)) 91 (mY mX11_row)) := (jlkT (jtb6 49 rfl) rfl)
def mL_tear : jM := (yL_tear, cL_tear, 5, (some .int), 3, 1, 6, [(0, 10, 13, 37)], 13)
theorem hL_tear_0 : wHd mL_tear 5 "java/util/NoSuchElementException" 0 := ⟨[], (0, 10, 13, 37), [], 4, 2, rfl, (fun z hz => nomatch hz), jxn_NSE, ⟨by decide, by decide⟩, by decide, (jlkT (jtb5 25 rfl) rfl), jcs_NSE, by decide, Or.inl ⟨rfl, by decide +kernel⟩, by decide +kernel, by decide +kernel⟩
theorem wL_tear : jlk (.methodLink (jCn (mO mL_tear)) 94 (mY mX11_tear)) := (jlkT (jtb6 57 rfl) rfl)
section WRAPS
variable {sc : Nat × (Nat → Int32)} {h : jH} {A : aA} {n : Nat}
theorem le_body {s : Int32} : (oBody A s).1 ≤ 1 := by cases e : pText (xT A) with | inl e1 => rw [oBody_l e]; exact Nat.le_refl _ | inr p => by_cases z : s = 0; (rw [oBody_0 e z]; exact Nat.zero_le _); (rw [oBody_1 e z]; exact Nat.zero_le _)
theorem ww_body {s : Int32}  (ok : aOk n A) (k : RC h A) (ok2 : aOk n (oBody A s).2.2) : JM mL_body [.ref 0, .int s, .ref 179] (jG0 sc) h (wQ sc (oBody A s) h) := by
  refine jM_of rfl (Nat.le_of_ble_eq_true rfl) (by decide +kernel) rfl ?_
  refine j_aload_n (i := 2) rfl (by decide +kernel) ?_
  refine j_iconst (n := 0) 0 rfl (by decide +kernel) ?_
  refine j_aload_n (i := 0) rfl (by decide +kernel) ?_
  refine j_iload_n (i := 1) rfl (by decide +kernel) ?_
  exact wrapI (es := ["java/lang/IllegalArgumentException"]) (As := [.int s]) (idx := 7) (nn := 1) (tgt := 15) (off := 6) ok2 (ccBody ok k) le_body (by decide) wL_body sX11_body kX11_body rfl ⟨rfl, by decide +kernel, by decide +kernel, by decide +kernel⟩ rfl ⟨by decide, by decide⟩ ⟨Nat.le_refl _, Nat.le_refl _⟩ rfl (by decide +kernel) (by decide +kernel) (by decide +kernel) (by decide +kernel) (by decide) (by decide +kernel) (by decide +kernel) (fun j hj => by match j, hj with | 0, _ => exact hL_body_0)
theorem le_run {x y d : Int32} : (oRun A x y d).1 ≤ 2 := by unfold oRun; repeat (first | exact Nat.zero_le _ | exact Nat.le_of_ble_eq_true rfl | refine sI_le ?_ ?_)
theorem ww_run {x y d : Int32}  (ok : aOk n A) (k : RC h A) (ok2 : aOk n (oRun A x y d).2.2) : JM mL_run [.ref 0, .int x, .int y, .int d, .ref 179] (jG0 sc) h (wQ sc (oRun A x y d) h) := by
  refine jM_of rfl (Nat.le_of_ble_eq_true rfl) (by decide +kernel) rfl ?_
  refine j_aload (i := 4) rfl (by decide +kernel) ?_
  refine j_iconst (n := 0) 0 rfl (by decide +kernel) ?_
  refine j_aload_n (i := 0) rfl (by decide +kernel) ?_
  refine j_iload_n (i := 1) rfl (by decide +kernel) ?_
  refine j_iload_n (i := 2) rfl (by decide +kernel) ?_
  refine j_iload_n (i := 3) rfl (by decide +kernel) ?_
  exact wrapI (es := ["java/lang/IllegalArgumentException", "java/lang/UnsupportedOperationException"]) (As := [.int x, .int y, .int d]) (idx := 19) (nn := 3) (tgt := 23) (off := 11) ok2 (ccRun ok k) le_run (by decide) wL_run sX11_run kX11_run rfl ⟨rfl, by decide +kernel, by decide +kernel, by decide +kernel⟩ rfl ⟨by decide, by decide⟩ ⟨Nat.le_refl _, Nat.le_refl _⟩ rfl (by decide +kernel) (by decide +kernel) (by decide +kernel) (by decide +kernel) (by decide) (by decide +kernel) (by decide +kernel) (fun j hj => by match j, hj with | 0, _ => exact hL_run_0 | 1, _ => exact hL_run_1)
theorem le_ends {x y : Int32} {b : Bool} : (oEnds A x y b).1 ≤ 1 := by unfold oEnds; repeat (first | exact Nat.zero_le _ | exact Nat.le_of_ble_eq_true rfl | refine sI_le ?_ ?_)
theorem ww_ends {x y z : Int32} {b : Bool} (hz : z = if b then 1 else 0) (ok : aOk n A) (k : RC h A) (ok2 : aOk n (oEnds A x y b).2.2) : JM mL_ends [.ref 0, .int x, .int y, .int z, .ref 179] (jG0 sc) h (wQ sc (oEnds A x y b) h) := by
  refine jM_of rfl (Nat.le_of_ble_eq_true rfl) (by decide +kernel) rfl ?_
  refine j_aload (i := 4) rfl (by decide +kernel) ?_
  refine j_iconst (n := 0) 0 rfl (by decide +kernel) ?_
  refine j_aload_n (i := 0) rfl (by decide +kernel) ?_
  refine j_iload_n (i := 1) rfl (by decide +kernel) ?_
  refine j_iload_n (i := 2) rfl (by decide +kernel) ?_
  refine j_iload_n (i := 3) rfl (by decide +kernel) ?_
  exact wrapI (es := ["java/lang/IllegalStateException"]) (As := [.int x, .int y, .int z]) (idx := 25) (nn := 3) (tgt := 19) (off := 7) ok2 (ccEnds hz ok k) le_ends (by decide) wL_ends sX11_ends kX11_ends rfl ⟨rfl, by decide +kernel, by decide +kernel, by decide +kernel⟩ rfl ⟨by decide, by decide⟩ ⟨Nat.le_refl _, Nat.le_refl _⟩ rfl (by decide +kernel) (by decide +kernel) (by decide +kernel) (by decide +kernel) (by decide) (by decide +kernel) (by decide +kernel) (fun j hj => by match j, hj with | 0, _ => exact hL_ends_0)
theorem le_look {r w : Int32} : (oLook A r w).1 ≤ 3 := by unfold oLook; repeat (first | exact Nat.zero_le _ | exact Nat.le_of_ble_eq_true rfl | refine sI_le ?_ ?_)
theorem ww_look {r w : Int32}  (ok : aOk n A) (k : RC h A) (ok2 : aOk n (oLook A r w).2.2) : JM mL_look [.ref 0, .int r, .int w, .ref 179] (jG0 sc) h (wQ sc (oLook A r w) h) := by
  refine jM_of rfl (Nat.le_of_ble_eq_true rfl) (by decide +kernel) rfl ?_
  refine j_aload_n (i := 3) rfl (by decide +kernel) ?_
  refine j_iconst (n := 0) 0 rfl (by decide +kernel) ?_
  refine j_aload_n (i := 0) rfl (by decide +kernel) ?_
  refine j_iload_n (i := 1) rfl (by decide +kernel) ?_
  refine j_iload_n (i := 2) rfl (by decide +kernel) ?_
  exact wrapI (es := ["java/lang/IndexOutOfBoundsException", "java/lang/IllegalStateException", "java/util/NoSuchElementException"]) (As := [.int r, .int w]) (idx := 31) (nn := 2) (tgt := 25) (off := 15) ok2 (ccLook ok k) le_look (by decide) wL_look sX11_look kX11_look rfl ⟨rfl, by decide +kernel, by decide +kernel, by decide +kernel⟩ rfl ⟨by decide, by decide⟩ ⟨Nat.le_refl _, Nat.le_refl _⟩ rfl (by decide +kernel) (by decide +kernel) (by decide +kernel) (by decide +kernel) (by decide) (by decide +kernel) (by decide +kernel) (fun j hj => by match j, hj with | 0, _ => exact hL_look_0 | 1, _ => exact hL_look_1 | 2, _ => exact hL_look_2)
theorem le_done {l : Int32} {b : Bool} : (oDone A l b).1 ≤ 1 := by unfold oDone; repeat (first | exact Nat.zero_le _ | exact Nat.le_of_ble_eq_true rfl | refine sI_le ?_ ?_)
theorem ww_done {l z : Int32} {b : Bool} (hz : z = if b then 1 else 0) (ok : aOk n A) (k : RC h A) (ok2 : aOk n (oDone A l b).2.2) : JM mL_done [.ref 0, .int l, .int z, .ref 179] (jG0 sc) h (wQ sc (oDone A l b) h) := by
  refine jM_of rfl (Nat.le_of_ble_eq_true rfl) (by decide +kernel) rfl ?_
  refine j_aload_n (i := 3) rfl (by decide +kernel) ?_
  refine j_iconst (n := 0) 0 rfl (by decide +kernel) ?_
  refine j_aload_n (i := 0) rfl (by decide +kernel) ?_
  refine j_iload_n (i := 1) rfl (by decide +kernel) ?_
  refine j_iload_n (i := 2) rfl (by decide +kernel) ?_
  exact wrapI (es := ["java/lang/IndexOutOfBoundsException"]) (As := [.int l, .int z]) (idx := 39) (nn := 2) (tgt := 17) (off := 7) ok2 (ccDone hz ok k) le_done (by decide) wL_done sX11_done kX11_done rfl ⟨rfl, by decide +kernel, by decide +kernel, by decide +kernel⟩ rfl ⟨by decide, by decide⟩ ⟨Nat.le_refl _, Nat.le_refl _⟩ rfl (by decide +kernel) (by decide +kernel) (by decide +kernel) (by decide +kernel) (by decide) (by decide +kernel) (by decide +kernel) (fun j hj => by match j, hj with | 0, _ => exact hL_done_0)
theorem le_where {w : Int32} : (oWhere A w).1 ≤ 2 := by unfold oWhere; repeat (first | exact Nat.zero_le _ | exact Nat.le_of_ble_eq_true rfl | refine sI_le ?_ ?_)
theorem ww_where {w : Int32}  (ok : aOk n A) (k : RC h A) (ok2 : aOk n (oWhere A w).2.2) : JM mL_where [.ref 0, .int w, .ref 179] (jG0 sc) h (wQ sc (oWhere A w) h) := by
  refine jM_of rfl (Nat.le_of_ble_eq_true rfl) (by decide +kernel) rfl ?_
  refine j_aload_n (i := 2) rfl (by decide +kernel) ?_
  refine j_iconst (n := 0) 0 rfl (by decide +kernel) ?_
  refine j_aload_n (i := 0) rfl (by decide +kernel) ?_
  refine j_iload_n (i := 1) rfl (by decide +kernel) ?_
  exact wrapI (es := ["java/lang/IllegalStateException", "java/util/NoSuchElementException"]) (As := [.int w]) (idx := 43) (nn := 1) (tgt := 18) (off := 9) ok2 (ccWhere ok k) le_where (by decide) wL_where sX11_where kX11_where rfl ⟨rfl, by decide +kernel, by decide +kernel, by decide +kernel⟩ rfl ⟨by decide, by decide⟩ ⟨Nat.le_refl _, Nat.le_refl _⟩ rfl (by decide +kernel) (by decide +kernel) (by decide +kernel) (by decide +kernel) (by decide) (by decide +kernel) (by decide +kernel) (fun j hj => by match j, hj with | 0, _ => exact hL_where_0 | 1, _ => exact hL_where_1)
theorem le_mend {m w : Int32} : (oMend A m w).1 ≤ 2 := by unfold oMend; repeat (first | exact Nat.zero_le _ | exact Nat.le_of_ble_eq_true rfl | refine sI_le ?_ ?_)
theorem ww_mend {m w : Int32}  (ok : aOk n A) (k : RC h A) (ok2 : aOk n (oMend A m w).2.2) : JM mL_mend [.ref 0, .int m, .int w, .ref 179] (jG0 sc) h (wQ sc (oMend A m w) h) := by
  refine jM_of rfl (Nat.le_of_ble_eq_true rfl) (by decide +kernel) rfl ?_
  refine j_aload_n (i := 3) rfl (by decide +kernel) ?_
  refine j_iconst (n := 0) 0 rfl (by decide +kernel) ?_
  refine j_aload_n (i := 0) rfl (by decide +kernel) ?_
  refine j_iload_n (i := 1) rfl (by decide +kernel) ?_
  refine j_iload_n (i := 2) rfl (by decide +kernel) ?_
  exact wrapI (es := ["java/lang/IndexOutOfBoundsException", "java/util/NoSuchElementException"]) (As := [.int m, .int w]) (idx := 47) (nn := 2) (tgt := 21) (off := 11) ok2 (ccMend ok k) le_mend (by decide) wL_mend sX11_mend kX11_mend rfl ⟨rfl, by decide +kernel, by decide +kernel, by decide +kernel⟩ rfl ⟨by decide, by decide⟩ ⟨Nat.le_refl _, Nat.le_refl _⟩ rfl (by decide +kernel) (by decide +kernel) (by decide +kernel) (by decide +kernel) (by decide) (by decide +kernel) (by decide +kernel) (fun j hj => by match j, hj with | 0, _ => exact hL_mend_0 | 1, _ => exact hL_mend_1)
theorem le_line {m l w : Int32} : (oLine A m l w).1 ≤ 2 := by unfold oLine; repeat (first | exact Nat.zero_le _ | exact Nat.le_of_ble_eq_true rfl | refine sI_le ?_ ?_)
theorem ww_line {m l w : Int32}  (ok : aOk n A) (k : RC h A) (ok2 : aOk n (oLine A m l w).2.2) : JM mL_line [.ref 0, .int m, .int l, .int w, .ref 179] (jG0 sc) h (wQ sc (oLine A m l w) h) := by
  refine jM_of rfl (Nat.le_of_ble_eq_true rfl) (by decide +kernel) rfl ?_
  refine j_aload (i := 4) rfl (by decide +kernel) ?_
  refine j_iconst (n := 0) 0 rfl (by decide +kernel) ?_
  refine j_aload_n (i := 0) rfl (by decide +kernel) ?_
  refine j_iload_n (i := 1) rfl (by decide +kernel) ?_
  refine j_iload_n (i := 2) rfl (by decide +kernel) ?_
  refine j_iload_n (i := 3) rfl (by decide +kernel) ?_
  exact wrapI (es := ["java/lang/IndexOutOfBoundsException", "java/util/NoSuchElementException"]) (As := [.int m, .int l, .int w]) (idx := 50) (nn := 3) (tgt := 23) (off := 11) ok2 (ccLine ok k) le_line (by decide) wL_line sX11_line kX11_line rfl ⟨rfl, by decide +kernel, by decide +kernel, by decide +kernel⟩ rfl ⟨by decide, by decide⟩ ⟨Nat.le_refl _, Nat.le_refl _⟩ rfl (by decide +kernel) (by decide +kernel) (by decide +kernel) (by decide +kernel) (by decide) (by decide +kernel) (by decide +kernel) (fun j hj => by match j, hj with | 0, _ => exact hL_line_0 | 1, _ => exact hL_line_1)
theorem le_tries {c : Int32} : (oTries A c).1 ≤ 2 := by unfold oTries; repeat (first | exact Nat.zero_le _ | exact Nat.le_of_ble_eq_true rfl | refine sI_le ?_ ?_)
theorem ww_tries {c : Int32}  (ok : aOk n A) (k : RC h A) (ok2 : aOk n (oTries A c).2.2) : JM mL_tries [.ref 0, .int c, .ref 179] (jG0 sc) h (wQ sc (oTries A c) h) := by
  refine jM_of rfl (Nat.le_of_ble_eq_true rfl) (by decide +kernel) rfl ?_
  refine j_aload_n (i := 2) rfl (by decide +kernel) ?_
  refine j_iconst (n := 0) 0 rfl (by decide +kernel) ?_
  refine j_aload_n (i := 0) rfl (by decide +kernel) ?_
  refine j_iload_n (i := 1) rfl (by decide +kernel) ?_
  exact wrapI (es := ["java/lang/IllegalArgumentException", "java/lang/IllegalStateException"]) (As := [.int c]) (idx := 53) (nn := 1) (tgt := 18) (off := 9) ok2 (ccTries ok k) le_tries (by decide) wL_tries sX11_tries kX11_tries rfl ⟨rfl, by decide +kernel, by decide +kernel, by decide +kernel⟩ rfl ⟨by decide, by decide⟩ ⟨Nat.le_refl _, Nat.le_refl _⟩ rfl (by decide +kernel) (by decide +kernel) (by decide +kernel) (by decide +kernel) (by decide) (by decide +kernel) (by decide +kernel) (fun j hj => by match j, hj with | 0, _ => exact hL_tries_0 | 1, _ => exact hL_tries_1)
theorem le_alive {i w : Int32} : (oAlive A i w).1 ≤ 2 := by unfold oAlive; repeat (first | exact Nat.zero_le _ | exact Nat.le_of_ble_eq_true rfl | refine sI_le ?_ ?_)
theorem ww_alive {i w : Int32}  (ok : aOk n A) (k : RC h A) (ok2 : aOk n (oAlive A i w).2.2) : JM mL_alive [.ref 0, .int i, .int w, .ref 179] (jG0 sc) h (wQ sc (oAlive A i w) h) := by
  refine jM_of rfl (Nat.le_of_ble_eq_true rfl) (by decide +kernel) rfl ?_
  refine j_aload_n (i := 3) rfl (by decide +kernel) ?_
  refine j_iconst (n := 0) 0 rfl (by decide +kernel) ?_
  refine j_aload_n (i := 0) rfl (by decide +kernel) ?_
  refine j_iload_n (i := 1) rfl (by decide +kernel) ?_
  refine j_iload_n (i := 2) rfl (by decide +kernel) ?_
  exact wrapI (es := ["java/lang/IndexOutOfBoundsException", "java/util/NoSuchElementException"]) (As := [.int i, .int w]) (idx := 56) (nn := 2) (tgt := 21) (off := 11) ok2 (ccAlive ok k) le_alive (by decide) wL_alive sX11_alive kX11_alive rfl ⟨rfl, by decide +kernel, by decide +kernel, by decide +kernel⟩ rfl ⟨by decide, by decide⟩ ⟨Nat.le_refl _, Nat.le_refl _⟩ rfl (by decide +kernel) (by decide +kernel) (by decide +kernel) (by decide +kernel) (by decide) (by decide +kernel) (by decide +kernel) (fun j hj => by match j, hj with | 0, _ => exact hL_alive_0 | 1, _ => exact hL_alive_1)
theorem le_aliveEnds {i x y : Int32} : (oAliveEnds A i x y).1 ≤ 1 := by unfold oAliveEnds; repeat (first | exact Nat.zero_le _ | exact Nat.le_of_ble_eq_true rfl | refine sI_le ?_ ?_)
theorem ww_aliveEnds {i x y : Int32}  (ok : aOk n A) (k : RC h A) (ok2 : aOk n (oAliveEnds A i x y).2.2) : JM mL_aliveEnds [.ref 0, .int i, .int x, .int y, .ref 179] (jG0 sc) h (wQ sc (oAliveEnds A i x y) h) := by
  refine jM_of rfl (Nat.le_of_ble_eq_true rfl) (by decide +kernel) rfl ?_
  refine j_aload (i := 4) rfl (by decide +kernel) ?_
  refine j_iconst (n := 0) 0 rfl (by decide +kernel) ?_
  refine j_aload_n (i := 0) rfl (by decide +kernel) ?_
  refine j_iload_n (i := 1) rfl (by decide +kernel) ?_
  refine j_iload_n (i := 2) rfl (by decide +kernel) ?_
  refine j_iload_n (i := 3) rfl (by decide +kernel) ?_
  exact wrapI (es := ["java/lang/IndexOutOfBoundsException"]) (As := [.int i, .int x, .int y]) (idx := 59) (nn := 3) (tgt := 19) (off := 7) ok2 (ccAliveEnds ok k) le_aliveEnds (by decide) wL_aliveEnds sX11_aliveEnds kX11_aliveEnds rfl ⟨rfl, by decide +kernel, by decide +kernel, by decide +kernel⟩ rfl ⟨by decide, by decide⟩ ⟨Nat.le_refl _, Nat.le_refl _⟩ rfl (by decide +kernel) (by decide +kernel) (by decide +kernel) (by decide +kernel) (by decide) (by decide +kernel) (by decide +kernel) (fun j hj => by match j, hj with | 0, _ => exact hL_aliveEnds_0)
theorem le_teach {m : Int32} : (oTeach A m).1 ≤ 1 := by unfold oTeach; split; exact Nat.zero_le _; exact Nat.le_refl _
theorem ww_teach {m : Int32}  (ok : aOk n A) (k : RC h A) (ok2 : aOk n (oTeach A m).2.2) : JM mL_teach [.ref 0, .int m, .ref 179] (jG0 sc) h (wQ sc (oTeach A m) h) := by
  refine jM_of rfl (Nat.le_of_ble_eq_true rfl) (by decide +kernel) rfl ?_
  refine j_aload_n (i := 2) rfl (by decide +kernel) ?_
  refine j_iconst (n := 0) 0 rfl (by decide +kernel) ?_
  refine j_aload_n (i := 0) rfl (by decide +kernel) ?_
  refine j_iload_n (i := 1) rfl (by decide +kernel) ?_
  exact wrapI (es := ["java/lang/IllegalArgumentException"]) (As := [.int m]) (idx := 62) (nn := 1) (tgt := 15) (off := 6) ok2 (ccTeach ok k) le_teach (by decide) wL_teach sX11_teach kX11_teach rfl ⟨rfl, by decide +kernel, by decide +kernel, by decide +kernel⟩ rfl ⟨by decide, by decide⟩ ⟨Nat.le_refl _, Nat.le_refl _⟩ rfl (by decide +kernel) (by decide +kernel) (by decide +kernel) (by decide +kernel) (by decide) (by decide +kernel) (by decide +kernel) (fun j hj => by match j, hj with | 0, _ => exact hL_teach_0)
theorem le_first {b : Bool} : (oFirst A b).1 ≤ 1 := by unfold oFirst; repeat (first | exact Nat.zero_le _ | exact Nat.le_of_ble_eq_true rfl | refine sI_le ?_ ?_)
theorem ww_first {z : Int32} {b : Bool} (hN : n < 2 ^ 31) (hz : z = if b then 1 else 0) (ok : aOk n A) (k : RC h A) (ok2 : aOk n (oFirst A b).2.2) : JM mL_first [.ref 0, .int z, .ref 179] (jG0 sc) h (wQ sc (oFirst A b) h) := by
  refine jM_of rfl (Nat.le_of_ble_eq_true rfl) (by decide +kernel) rfl ?_
  refine j_aload_n (i := 2) rfl (by decide +kernel) ?_
  refine j_iconst (n := 0) 0 rfl (by decide +kernel) ?_
  refine j_aload_n (i := 0) rfl (by decide +kernel) ?_
  refine j_iload_n (i := 1) rfl (by decide +kernel) ?_
  exact wrapI (es := ["java/lang/IllegalStateException"]) (As := [.int z]) (idx := 65) (nn := 1) (tgt := 15) (off := 6) ok2 (ccFirst hN hz ok k) le_first (by decide) wL_first sX11_first kX11_first rfl ⟨rfl, by decide +kernel, by decide +kernel, by decide +kernel⟩ rfl ⟨by decide, by decide⟩ ⟨Nat.le_refl _, Nat.le_refl _⟩ rfl (by decide +kernel) (by decide +kernel) (by decide +kernel) (by decide +kernel) (by decide) (by decide +kernel) (by decide +kernel) (fun j hj => by match j, hj with | 0, _ => exact hL_first_0)
theorem le_prove {i : Int32} {b : Bool} : (oProve A i b).1 ≤ 2 := by unfold oProve; repeat (first | exact Nat.zero_le _ | exact Nat.le_of_ble_eq_true rfl | refine sI_le ?_ ?_)
theorem ww_prove {i z : Int32} {b : Bool} (hz : z = if b then 1 else 0) (ok : aOk n A) (k : RC h A) (ok2 : aOk n (oProve A i b).2.2) : JM mL_prove [.ref 0, .int i, .int z, .ref 179] (jG0 sc) h (wQ sc (oProve A i b) h) := by
  refine jM_of rfl (Nat.le_of_ble_eq_true rfl) (by decide +kernel) rfl ?_
  refine j_aload_n (i := 3) rfl (by decide +kernel) ?_
  refine j_iconst (n := 0) 0 rfl (by decide +kernel) ?_
  refine j_aload_n (i := 0) rfl (by decide +kernel) ?_
  refine j_iload_n (i := 1) rfl (by decide +kernel) ?_
  refine j_iload_n (i := 2) rfl (by decide +kernel) ?_
  exact wrapI (es := ["java/lang/IndexOutOfBoundsException", "java/lang/IllegalStateException"]) (As := [.int i, .int z]) (idx := 72) (nn := 2) (tgt := 21) (off := 11) ok2 (ccProve hz ok k) le_prove (by decide) wL_prove sX11_prove kX11_prove rfl ⟨rfl, by decide +kernel, by decide +kernel, by decide +kernel⟩ rfl ⟨by decide, by decide⟩ ⟨Nat.le_refl _, Nat.le_refl _⟩ rfl (by decide +kernel) (by decide +kernel) (by decide +kernel) (by decide +kernel) (by decide) (by decide +kernel) (by decide +kernel) (fun j hj => by match j, hj with | 0, _ => exact hL_prove_0 | 1, _ => exact hL_prove_1)
theorem le_bar : (oBar A).1 ≤ 1 := by unfold oBar; repeat (first | exact Nat.zero_le _ | exact Nat.le_of_ble_eq_true rfl | refine sI_le ?_ ?_)
theorem ww_bar  (ok : aOk n A) (k : RC h A) (ok2 : aOk n (oBar A).2.2) : JM mL_bar [.ref 0, .ref 179] (jG0 sc) h (wQ sc (oBar A) h) := by
  refine jM_of rfl (Nat.le_of_ble_eq_true rfl) (by decide +kernel) rfl ?_
  refine j_aload_n (i := 1) rfl (by decide +kernel) ?_
  refine j_iconst (n := 0) 0 rfl (by decide +kernel) ?_
  refine j_aload_n (i := 0) rfl (by decide +kernel) ?_
  exact wrapI (es := ["java/lang/IllegalStateException"]) (As := []) (idx := 75) (nn := 0) (tgt := 14) (off := 6) ok2 (ccBar ok k) le_bar (by decide) wL_bar sX11_bar kX11_bar rfl ⟨rfl, by decide +kernel, by decide +kernel, by decide +kernel⟩ rfl ⟨by decide, by decide⟩ ⟨Nat.le_refl _, Nat.le_refl _⟩ rfl (by decide +kernel) (by decide +kernel) (by decide +kernel) (by decide +kernel) (by decide) (by decide +kernel) (by decide +kernel) (fun j hj => by match j, hj with | 0, _ => exact hL_bar_0)
theorem le_otherwise {i : Int32} : (oOtherwise A i).1 ≤ 2 := by unfold oOtherwise; repeat (first | exact Nat.zero_le _ | exact Nat.le_of_ble_eq_true rfl | refine sI_le ?_ ?_)
theorem ww_otherwise {i : Int32}  (ok : aOk n A) (k : RC h A) (ok2 : aOk n (oOtherwise A i).2.2) : JM mL_otherwise [.ref 0, .int i, .ref 179] (jG0 sc) h (wQ sc (oOtherwise A i) h) := by
  refine jM_of rfl (Nat.le_of_ble_eq_true rfl) (by decide +kernel) rfl ?_
  refine j_aload_n (i := 2) rfl (by decide +kernel) ?_
  refine j_iconst (n := 0) 0 rfl (by decide +kernel) ?_
  refine j_aload_n (i := 0) rfl (by decide +kernel) ?_
  refine j_iload_n (i := 1) rfl (by decide +kernel) ?_
  exact wrapI (es := ["java/lang/IndexOutOfBoundsException", "java/lang/IllegalStateException"]) (As := [.int i]) (idx := 79) (nn := 1) (tgt := 18) (off := 9) ok2 (ccOtherwise ok k) le_otherwise (by decide) wL_otherwise sX11_otherwise kX11_otherwise rfl ⟨rfl, by decide +kernel, by decide +kernel, by decide +kernel⟩ rfl ⟨by decide, by decide⟩ ⟨Nat.le_refl _, Nat.le_refl _⟩ rfl (by decide +kernel) (by decide +kernel) (by decide +kernel) (by decide +kernel) (by decide) (by decide +kernel) (by decide +kernel) (fun j hj => by match j, hj with | 0, _ => exact hL_otherwise_0 | 1, _ => exact hL_otherwise_1)
theorem le_heaps : (oHeaps A).1 ≤ 1 := by unfold oHeaps; repeat (first | exact Nat.zero_le _ | exact Nat.le_of_ble_eq_true rfl | refine sI_le ?_ ?_)
theorem ww_heaps  (ok : aOk n A) (k : RC h A) (ok2 : aOk n (oHeaps A).2.2) : JM mL_heaps [.ref 0, .ref 179] (jG0 sc) h (wQ sc (oHeaps A) h) := by
  refine jM_of rfl (Nat.le_of_ble_eq_true rfl) (by decide +kernel) rfl ?_
  refine j_aload_n (i := 1) rfl (by decide +kernel) ?_
  refine j_iconst (n := 0) 0 rfl (by decide +kernel) ?_
  refine j_aload_n (i := 0) rfl (by decide +kernel) ?_
  exact wrapI (es := ["java/lang/IllegalStateException"]) (As := []) (idx := 82) (nn := 0) (tgt := 14) (off := 6) ok2 (ccHeaps ok k) le_heaps (by decide) wL_heaps sX11_heaps kX11_heaps rfl ⟨rfl, by decide +kernel, by decide +kernel, by decide +kernel⟩ rfl ⟨by decide, by decide⟩ ⟨Nat.le_refl _, Nat.le_refl _⟩ rfl (by decide +kernel) (by decide +kernel) (by decide +kernel) (by decide +kernel) (by decide) (by decide +kernel) (by decide +kernel) (fun j hj => by match j, hj with | 0, _ => exact hL_heaps_0)
theorem le_putIn {m : Int32} : (oPutIn A m).1 ≤ 1 := by unfold oPutIn; repeat (first | exact Nat.zero_le _ | exact Nat.le_of_ble_eq_true rfl | refine sI_le ?_ ?_)
theorem ww_putIn {m : Int32}  (ok : aOk n A) (k : RC h A) (ok2 : aOk n (oPutIn A m).2.2) : JM mL_putIn [.ref 0, .int m, .ref 179] (jG0 sc) h (wQ sc (oPutIn A m) h) := by
  refine jM_of rfl (Nat.le_of_ble_eq_true rfl) (by decide +kernel) rfl ?_
  refine j_aload_n (i := 2) rfl (by decide +kernel) ?_
  refine j_iconst (n := 0) 0 rfl (by decide +kernel) ?_
  refine j_aload_n (i := 0) rfl (by decide +kernel) ?_
  refine j_iload_n (i := 1) rfl (by decide +kernel) ?_
  exact wrapI (es := ["java/lang/IndexOutOfBoundsException"]) (As := [.int m]) (idx := 85) (nn := 1) (tgt := 15) (off := 6) ok2 (ccPutIn ok k) le_putIn (by decide) wL_putIn sX11_putIn kX11_putIn rfl ⟨rfl, by decide +kernel, by decide +kernel, by decide +kernel⟩ rfl ⟨by decide, by decide⟩ ⟨Nat.le_refl _, Nat.le_refl _⟩ rfl (by decide +kernel) (by decide +kernel) (by decide +kernel) (by decide +kernel) (by decide) (by decide +kernel) (by decide +kernel) (fun j hj => by match j, hj with | 0, _ => exact hL_putIn_0)
theorem le_make {i : Int32} : (oMake A i).1 ≤ 1 := by unfold oMake; repeat (first | exact Nat.zero_le _ | exact Nat.le_of_ble_eq_true rfl | refine sI_le ?_ ?_)
theorem ww_make {i : Int32}  (ok : aOk n A) (k : RC h A) (ok2 : aOk n (oMake A i).2.2) : JM mL_make [.ref 0, .int i, .ref 179] (jG0 sc) h (wQ sc (oMake A i) h) := by
  refine jM_of rfl (Nat.le_of_ble_eq_true rfl) (by decide +kernel) rfl ?_
  refine j_aload_n (i := 2) rfl (by decide +kernel) ?_
  refine j_iconst (n := 0) 0 rfl (by decide +kernel) ?_
  refine j_aload_n (i := 0) rfl (by decide +kernel) ?_
  refine j_iload_n (i := 1) rfl (by decide +kernel) ?_
  exact wrapI (es := ["java/lang/IndexOutOfBoundsException"]) (As := [.int i]) (idx := 88) (nn := 1) (tgt := 15) (off := 6) ok2 (ccMake ok k) le_make (by decide) wL_make sX11_make kX11_make rfl ⟨rfl, by decide +kernel, by decide +kernel, by decide +kernel⟩ rfl ⟨by decide, by decide⟩ ⟨Nat.le_refl _, Nat.le_refl _⟩ rfl (by decide +kernel) (by decide +kernel) (by decide +kernel) (by decide +kernel) (by decide) (by decide +kernel) (by decide +kernel) (fun j hj => by match j, hj with | 0, _ => exact hL_make_0)
theorem le_row {i w : Int32} : (oRow A i w).1 ≤ 1 := by unfold oRow; repeat (first | exact Nat.zero_le _ | exact Nat.le_of_ble_eq_true rfl | refine sI_le ?_ ?_)
theorem ww_row {i w : Int32}  (ok : aOk n A) (k : RC h A) (ok2 : aOk n (oRow A i w).2.2) : JM mL_row [.ref 0, .int i, .int w, .ref 179] (jG0 sc) h (wQ sc (oRow A i w) h) := by
  refine jM_of rfl (Nat.le_of_ble_eq_true rfl) (by decide +kernel) rfl ?_
  refine j_aload_n (i := 3) rfl (by decide +kernel) ?_
  refine j_iconst (n := 0) 0 rfl (by decide +kernel) ?_
  refine j_aload_n (i := 0) rfl (by decide +kernel) ?_
  refine j_iload_n (i := 1) rfl (by decide +kernel) ?_
  refine j_iload_n (i := 2) rfl (by decide +kernel) ?_
  exact wrapI (es := ["java/util/NoSuchElementException"]) (As := [.int i, .int w]) (idx := 91) (nn := 2) (tgt := 17) (off := 7) ok2 (ccRow ok k) le_row (by decide) wL_row sX11_row kX11_row rfl ⟨rfl, by decide +kernel, by decide +kernel, by decide +kernel⟩ rfl ⟨by decide, by decide⟩ ⟨Nat.le_refl _, Nat.le_refl _⟩ rfl (by decide +kernel) (by decide +kernel) (by decide +kernel) (by decide +kernel) (by decide) (by decide +kernel) (by decide +kernel) (fun j hj => by match j, hj with | 0, _ => exact hL_row_0)
theorem le_tear {i m : Int32} : (oTear A i m).1 ≤ 1 := by unfold oTear; repeat (first | exact Nat.zero_le _ | exact Nat.le_of_ble_eq_true rfl | refine sI_le ?_ ?_)
theorem ww_tear {i m : Int32}  (ok : aOk n A) (k : RC h A) (ok2 : aOk n (oTear A i m).2.2) : JM mL_tear [.ref 0, .int i, .int m, .ref 179] (jG0 sc) h (wQ sc (oTear A i m) h) := by
  refine jM_of rfl (Nat.le_of_ble_eq_true rfl) (by decide +kernel) rfl ?_
  refine j_aload_n (i := 3) rfl (by decide +kernel) ?_
  refine j_iconst (n := 0) 0 rfl (by decide +kernel) ?_
  refine j_aload_n (i := 0) rfl (by decide +kernel) ?_
  refine j_iload_n (i := 1) rfl (by decide +kernel) ?_
  refine j_iload_n (i := 2) rfl (by decide +kernel) ?_
  exact wrapI (es := ["java/util/NoSuchElementException"]) (As := [.int i, .int m]) (idx := 94) (nn := 2) (tgt := 17) (off := 7) ok2 (ccTear ok k) le_tear (by decide) wL_tear sX11_tear kX11_tear rfl ⟨rfl, by decide +kernel, by decide +kernel, by decide +kernel⟩ rfl ⟨by decide, by decide⟩ ⟨Nat.le_refl _, Nat.le_refl _⟩ rfl (by decide +kernel) (by decide +kernel) (by decide +kernel) (by decide +kernel) (by decide) (by decide +kernel) (by decide +kernel) (fun j hj => by match j, hj with | 0, _ => exact hL_tear_0)
theorem le_law : (oLaw A).1 ≤ 1 ∧ ((oLaw A).2.1 = 0 ∨ (oLaw A).2.1 = 1) := by
  cases e : lText (xT A) with
  | inl e1 => rw [oLaw_l e]; exact ⟨Nat.le_refl _, Or.inl rfl⟩
  | inr p => rw [oLaw_r e]; exact ⟨Nat.zero_le _, Or.inr rfl⟩
theorem le_box {m : Int32} : (oBox A m).1 ≤ 1 := by unfold oBox; split; exact Nat.zero_le _; exact Nat.le_refl _
theorem ww_law (ok : aOk n A) (k : RC h A) (ok2 : aOk n (oLaw A).2.2) : JM mL_law [.ref 0, .ref 179] (jG0 sc) h (wQ sc (oLaw A) h) := by
  obtain ⟨le, hv⟩ := le_law (A := A)
  refine jM_of rfl (Nat.le_of_ble_eq_true rfl) (by decide +kernel) rfl ?_
  refine j_aload_n (i := 1) rfl (by decide +kernel) ?_
  refine j_iconst (n := 0) 0 rfl (by decide +kernel) ?_
  refine j_aload_n (i := 0) rfl (by decide +kernel) ?_
  refine j_callVX (As := []) (idx := 15) (n := 0) (st := [.int 0, .ref 179]) (ccLaw ok k) wL_law sX11_law kX11_law rfl ⟨rfl, by decide +kernel, by decide +kernel, by decide +kernel⟩ rfl ⟨by decide, by decide⟩ (Nat.le_of_ble_eq_true rfl) rfl (by decide) (by decide) ⟨Nat.le_refl _, Nat.le_refl _⟩ (by decide +kernel) (fun E Γ' h' q => ?_) (fun r0 Γ' h' q => ?_)
  · obtain ⟨q1, rfl, q3, q4⟩ := q
    unfold cOut at q1
    by_cases z : (oLaw A).1 = 0
    · rw [if_pos z] at q1; cases q1
    · rw [if_neg z, show (oLaw A).1 - 1 = 0 by omega] at q1
      cases q1
      exact hL_law_0.go (by decide) rfl (Nat.le_refl _) (Nat.le_refl _) (jint_i ⟨by rw [show (oLaw A).1 = 0 + 1 by omega], fun q => absurd q z, q3, fun c a b => q4 c a⟩)
  · obtain ⟨q1, rfl, q3, q4⟩ := q
    unfold cOut at q1
    by_cases z : (oLaw A).1 = 0
    · rw [if_pos z] at q1
      cases q1
      have fin : ∀ v : Int32, (oLaw A).2.1 = v → WP mL_law (wQ sc (oLaw A) h) 14 [some (.ref 0), some (.ref 179), none] [.long v.toInt64, .int 0, .ref 179] (jG0 sc) h' (0 + mMc mX11_law, 0 + mMs mX11_law) := fun v ev => by
        refine j_last (Nat.le_of_ble_eq_true rfl) rfl (vp_in_nI (by decide) (by decide) : vp_in (nI 0) 1) (by decide +kernel) (j_goto (off := 6) 21 (by decide +kernel) (by decide) (j_iconst (n := 0) 0 rfl (by decide +kernel) (j_iret rfl rfl (Nat.le_refl _) (Nat.le_refl _) (by decide +kernel) ?_)))
        exact jint_i ⟨by rw [z]; rfl, fun _ => jput_at.trans ev.symm, q3.out ok2, fun c a b => (jput_ne (by omega)).trans (q4 c a)⟩
      refine j_if_eq (off := 7) 13 (by decide +kernel) (by decide) (fun e => ?_) (fun e => ?_)
      · exact j_lconst (n := 0) (0 : Int32).toInt64 (by decide) (by decide +kernel) (fin 0 e)
      · exact j_lconst (n := 1) (1 : Int32).toInt64 (by decide) (by decide +kernel) (j_goto (off := 4) 14 (by decide +kernel) (by decide) (fin 1 (hv.resolve_left e)))
    · rw [if_neg z] at q1; cases q1
theorem ww_box {m : Int32} (ok : aOk n A) (k : RC h A) : JM mL_box [.ref 0, .int m] (jG0 sc) h (jint sc (fun r h' => r = nI (oBox A m).1 ∧ RC h' (oBox A m).2.2 ∧ ∀ c, 159 ≤ c → h' c = h c)) := by
  have le := le_box (A := A) (m := m)
  refine jM_of rfl (Nat.le_of_ble_eq_true rfl) (by decide +kernel) rfl ?_
  refine j_aload_n (i := 0) rfl (by decide +kernel) ?_
  refine j_iload_n (i := 1) rfl (by decide +kernel) ?_
  refine j_callVX (As := [.int m]) (idx := 68) (n := 1) (st := []) (ccBox ok k) wL_box sX11_box kX11_box rfl ⟨rfl, by decide +kernel, by decide +kernel, by decide +kernel⟩ rfl ⟨by decide, by decide⟩ (Nat.le_of_ble_eq_true rfl) rfl (by decide) (by decide) ⟨Nat.le_refl _, Nat.le_refl _⟩ (by decide +kernel) (fun E Γ' h' q => ?_) (fun r0 Γ' h' q => ?_)
  · obtain ⟨q1, rfl, q3, q4⟩ := q
    by_cases z : (oBox A m).1 = 0
    · rw [if_pos z] at q1; cases q1
    · rw [if_neg z] at q1
      cases q1
      exact hL_box_0.go (by decide) rfl (Nat.le_refl _) (Nat.le_refl _) (jint_i ⟨by rw [show (oBox A m).1 = 0 + 1 by omega], q3, q4⟩)
  · obtain ⟨q1, rfl, q3, q4⟩ := q
    by_cases z : (oBox A m).1 = 0
    · rw [if_pos z] at q1
      cases q1
      refine j_goto (off := 6) 11 (by decide +kernel) (by decide) (j_iconst (n := 0) 0 rfl (by decide +kernel) (j_iret rfl rfl (Nat.le_refl _) (Nat.le_refl _) (by decide +kernel) (jint_i ⟨by rw [z]; rfl, q3, q4⟩)))
    · rw [if_neg z] at q1; cases q1
end WRAPS
