/-! The law's own method: its pieces. -/
def mLL : jM := (x, code, 7, some .boolean, 64, 601024, 7293034, [], 13)
abbrev lvs (i : Nat) : List (Option Value) := [some (.ref 1000), some (.ref 0), some (.ref 159), some (.ref 179), some (.int (nI i)), none, none]
abbrev lvs5 (i k : Nat) : List (Option Value) := [some (.ref 1000), some (.ref 0), some (.ref 159), some (.ref 179), some (.int (nI i)), some (.int (nI k)), none]
abbrev lvs6 (i k : Nat) (b : Int32) : List (Option Value) := [some (.ref 1000), some (.ref 0), some (.ref 159), some (.ref 179), some (.int (nI i)), some (.int (nI k)), some (.int b)]
abbrev lArg (M : jM) (pc j : Nat) : Prop := decode (mC M) pc = .ok (.aload_n 0, 1) ∧ decode (mC M) (pc + 1) = .ok (.iload 4, 2) ∧ decode (mC M) (pc + 3) = .ok (.iconst (j : Nat), 1) ∧ decode (mC M) (pc + 4) = .ok (.iadd, 1) ∧ decode (mC M) (pc + 5) = .ok (.iaload, 1)
abbrev lBool (M : jM) (pc : Nat) : Prop := decode (mC M) pc = .ok (.ifCond .eq 7, 3) ∧ decode (mC M) (pc + 3) = .ok (.iconst 1, 1) ∧ decode (mC M) (pc + 4) = .ok (.goto 4, 3) ∧ decode (mC M) (pc + 7) = .ok (.iconst 0, 1)
abbrev lThr (M : jM) (pc : Nat) : Prop := decode (mC M) pc = .ok (.aload_n 2, 1) ∧ decode (mC M) (pc + 1) = .ok (.invokevirtual 117, 3) ∧ decode (mC M) (pc + 4) = .ok (.iload 5, 2) ∧ decode (mC M) (pc + 6) = .ok (.if_icmp .eq 5, 3)
abbrev lVal (M : jM) (pc : Nat) : Prop := decode (mC M) pc = .ok (.iload 5, 2) ∧ decode (mC M) (pc + 2) = .ok (.ifCond .ne 15, 3) ∧ decode (mC M) (pc + 5) = .ok (.aload_n 3, 1) ∧ decode (mC M) (pc + 6) = .ok (.iconst 0, 1) ∧ decode (mC M) (pc + 7) = .ok (.laload, 1) ∧ decode (mC M) (pc + 8) = .ok (.iload 6, 2) ∧ decode (mC M) (pc + 10) = .ok (.i2l, 1) ∧ decode (mC M) (pc + 11) = .ok (.lcmp, 1) ∧ decode (mC M) (pc + 12) = .ok (.ifCond .eq 5, 3)
theorem l_ci : ∀ j, j < 6 → Int32.ofInt ((j : Nat) : Int) = nI j := by decide
theorem lg_cmp_rf (y : Int64) : lg_cmp y y = 0 := by unfold lg_cmp; simp
theorem cQ_nt {sc : Nat × (Nat → Int32)} {h : jH} {es : List String} {o : aO} (e : o.1 = 0) : ∀ E Γ' h', ¬ cQ sc es o h (.inr E) Γ' h' := fun _ _ _ q => by
  have q1 := q.1
  unfold cOut at q1
  rw [if_pos e] at q1
  cases q1
theorem cQ_get {sc : Nat × (Nat → Int32)} {h : jH} {es : List String} {o : aO} (e : o.1 = 0) {r : Option Value} {Γ' : jS} {h' : jH} (q : cQ sc es o h (.inl r) Γ' h') : r = some (.int o.2.1) ∧ Γ' = jG0 sc ∧ RC h' o.2.2 ∧ fC h h' := by
  obtain ⟨q1, q2, q3, q4⟩ := q
  unfold cOut at q1
  rw [if_pos e] at q1
  exact ⟨by cases q1; rfl, q2, q3, q4⟩
section LAWK
variable {sc : Nat × (Nat → Int32)} {h : jH} {A : aA} {n : Nat}
theorem RC.mm (ok : aOk n A) (k : RC h A) {h' : jH} (g : fM h h') : RC h' A := by
  have f : jfr ([(159, 178)], []) h h' := fun c j hj => by
    have q : c < 159 ∨ 178 < c := (jin_f.mp hj).1 (159, 178) List.mem_cons_self
    rw [g c (by omega)]
  exact ⟨k.1.eq (fun c h1 h2 => f.cell (fun j => by rw [jin_f]; simp <;> omega)) ok.1.2.2.2.2.2.2.1.1, k.2.1.eq (f 0 6 rfl) (k.img ok (g_img f ⟨rfl, rfl⟩)), ⟨(f 1 1 rfl).trans k.2.2.1.1, fun i hi => (f 2 i rfl).trans (k.2.2.1.2 i hi)⟩, (f 0 1 rfl).trans k.2.2.2.1, (f 69 5 rfl).trans k.2.2.2.2.1, k.2.2.2.2.2.fr75 f ⟨rfl, rfl⟩⟩
theorem RM.cc (k : RM h A) {h' : jH} (g : ∀ c, 159 ≤ c → c < 179 → h' c = h c) : RM h' A := by
  have e : ∀ c j, 159 ≤ c → c < 179 → h' c j = h c j := fun c j a b => by rw [g c a b]
  exact ⟨by rw [g 160 (by decide) (by decide)]; exact k.1, k.2.1.eq (e 159 3 (by decide) (by decide)) (g 161 (by decide) (by decide)), k.2.2.1.eq (e 159 5 (by decide) (by decide)) (g 162 (by decide) (by decide)), (e 159 10 (by decide) (by decide)).trans k.2.2.2⟩
theorem sI_ok {c : Prop} {a b : aO} (h1 : aOk n a.2.2) (h2 : aOk n b.2.2) : aOk n (sIf c a b).2.2 := by
  by_cases z : c
  · rw [sIf_t z]; exact h1
  · rw [sIf_f z]; exact h2
theorem tX12_thrown : JM mX12_thrown [.ref 159] (jG0 sc) h (jgets sc (h 159 0) h) := jM_of rfl (Nat.le_of_ble_eq_true rfl) (by decide +kernel) rfl (rX12_thrown_0 (jgets_i rfl))
variable {Q : jQ} {pc i j : Nat} {lv : List (Option Value)} {st : List Value} {u : Nat × Nat}
theorem l_arg (hi : i + 5 < sc.1) (hL : sc.1 ≤ 3072) (hj : j < 6) (h0 : jget lv 0 = some (.ref 1000)) (h4 : jget lv 4 = some (.int (nI i))) (d : lArg mLL pc j) (kk : WP mLL Q (pc + 6) lv (.int (sc.2 (i + j)) :: st) (jG0 sc) h u) : WP mLL Q pc lv st (jG0 sc) h u := by
  refine j_aload_n (i := 0) h0 d.1 ?_
  refine j_iload (i := 4) h4 d.2.1 ?_
  refine j_iconst (nI j) (l_ci j hj) d.2.2.1 ?_
  refine j_iadd d.2.2.2.1 ?_
  rw [nI_add]
  refine j_sld (show vp_in (nI (i + j)) sc.1 from vp_in_nI (by omega) (by omega)) d.2.2.2.2 ?_
  rw [nI_clamp (by omega)]
  exact kk
theorem l_bool {y : Int32} (d : lBool mLL pc) (kk : WP mLL Q (pc + 8) lv (.int (if decide (¬ y = 0) = true then 1 else 0) :: st) (jG0 sc) h u) : WP mLL Q pc lv (.int y :: st) (jG0 sc) h u := by
  refine j_if_eq (pc + 7) d.1 (by omega) (fun z => ?_) (fun z => ?_)
  · refine j_iconst 0 rfl d.2.2.2 ?_
    rw [if_neg (by simp [z])] at kk
    exact kk
  · refine j_iconst 1 rfl d.2.1 (j_goto (pc + 8) d.2.2.1 (by omega) ?_)
    rw [if_pos (by simp [z])] at kk
    exact kk
/-- the call thrown(), held against what the wrapper told -/
theorem l_thr {k : Nat} (h2 : jget lv 2 = some (.ref 159)) (h5 : jget lv 5 = some (.int (nI k))) (hk : h 159 0 = nI k) (hu : u.1 ≤ 601024 ∧ u.2 ≤ 7293034) (d : lThr mLL pc) (kk : WP mLL Q (pc + 11) lv [] (jG0 sc) h u) : WP mLL Q pc lv [] (jG0 sc) h u := by
  refine j_aload_n (i := 2) h2 d.1 ?_
  refine j_callV (M' := mX12_thrown) (ci := 12) (As := []) (idx := 117) (n := 0) (Γ := jG0 sc) tX12_thrown jint_nt (jlkT (jtb6 61 rfl) rfl) sX12_thrown kX12_thrown rfl ⟨rfl, by decide +kernel, by decide +kernel, by decide +kernel⟩ rfl ⟨by decide, by decide⟩ (by show 159 < 180; decide) (show jKt.getD 159 99 = 12 by decide +kernel) (by decide) (Nat.le_of_ble_eq_true rfl) (show u.1 + 0 ≤ 601024 ∧ u.2 + 0 ≤ 7293034 from hu) d.2.1 ?_
  rintro _ _ h' ⟨v, e, rfl, e1, rfl⟩
  cases e
  refine j_iload (i := 5) h5 d.2.2.1 ?_
  exact j_icmp_eq (pc + 11) d.2.2.2 (by omega) (fun _ => kk) (fun q => absurd (e1.trans hk) q)
/-- the value, held against what the wrapper wrote -/
theorem l_val {k : Nat} {b : Int32} (h3 : jget lv 3 = some (.ref 179)) (h5 : jget lv 5 = some (.int (nI k))) (h6 : jget lv 6 = some (.int b)) (hk : k < 2 ^ 31) (hb : k = 0 → h 179 0 = b) (d : lVal mLL pc) (kk : WP mLL Q (pc + 17) lv [] (jG0 sc) h u) : WP mLL Q pc lv [] (jG0 sc) h u := by
  obtain ⟨d1, d2, d3, d4, d5, d6, d7, d8, d9⟩ := d
  refine j_iload (i := 5) h5 d1 (j_if_ne (pc + 17) d2 (by omega) (fun _ => kk) (fun z => ?_))
  have k0 : k = 0 := by
    by_cases q : k = 0
    · exact q
    · exact absurd z (nI_ne0 (Nat.pos_of_ne_zero q) hk)
  refine j_aload_n (i := 3) h3 d3 (j_iconst (nI 0) rfl d4 ?_)
  refine j_lald (r := 179) (i := nI 0) (by show 179 < 180; decide) (show jKt.getD 179 99 = 16 by decide +kernel) (show vp_in (nI 0) (jLt.getD 179 0) from vp_in_nI (by decide +kernel) (by decide +kernel)) d5 ?_
  refine j_iload (i := 6) h6 d6 (j_i2l d7 (j_lcmp d8 ?_))
  rw [show h 179 (nI 0).toNatClampNeg = b from hb k0]
  exact j_if_eq (pc + 17) d9 (by omega) (fun _ => kk) (fun q => absurd (lg_cmp_rf _) q)
/-- what a call leaves: one more call made, class and reference on one state -/
def lK (sc : Nat × (Nat → Int32)) (Q : jQ) (i n : Nat) (u : Nat × Nat) : Prop := ∀ (A' : aA) (h' : jH) (u' : Nat × Nat), aOk (n + 1) A' → RC h' A' → RM h' A' → u'.1 ≤ u.1 + 1 → u'.2 ≤ u.2 + 6 → WP mLL Q 1910 (lvs i) [] (jG0 sc) h' u'
end LAWK
