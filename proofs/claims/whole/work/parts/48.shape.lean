/-! The class: a program as by a mend. -/
section PX
variable {sc : Nat × (Nat → Int32)} {h : jH} {t a b n : Nat} {p q : List Int32}
theorem sChange_len {m : sMd} : (sChange p m q).length = q.length := by unfold sChange; split <;> simp
theorem isP.fr1 {F : jF} {h h' : jH} {c : Nat} (k : isP h c p) (f : jfr F h h') (hF : jsub F ([(b + 1, b + 1)], [(b, 1, 1)]) = true) (hc : c + 1 < b ∨ b + 1 < c) : isP h' c p := by
  have f' := f.mono hF
  exact k.fr f' (by rw [jin_f]; simp <;> omega) (fun j => by rw [jin_f]; simp <;> omega)
theorem sMd_ok (hs : sProg p) (hn : n < (sMends p).length) : ((sMends p).getD n sMd0).2.1 < p.length := by
  have h1 : (sMends p).getD n sMd0 ∈ sMends p := getD_mem hn
  obtain ⟨m, hm, h2⟩ := List.mem_flatMap.mp h1
  obtain ⟨z, -, e⟩ := List.mem_map.mp h2
  rw [← e]; exact List.mem_range.mp hm
theorem tX3_changeN {c : Int32} (t_h : jI3 t) (a_h : jI4 a) (b_h : jI4 b) (hc : c < 0) : JM mX3_change [.ref t, .int c, .ref a, .ref b] (jG0 sc) h (jvoid sc (fun h' => h = h')) :=
  jM_of rfl (Nat.le_of_ble_eq_true rfl) (by decide +kernel) rfl (rX3_change_0 a_h b_h t_h (fun _ => jvoid_i rfl) (P1 := fun _ => True) (P2 := fun _ _ => True) (P3 := fun _ => True) (P4 := fun _ _ => True) (P5 := fun _ => True) (fun k => absurd hc k) (fun k => absurd hc k) (fun k => absurd hc k) (fun k => absurd hc k) (fun k => absurd hc k) (fun k => absurd hc k) (fun k => absurd hc k) (fun k => absurd hc k) (fun k => absurd hc k) (fun k => absurd hc k) (fun k => absurd hc k))
theorem tX3_change (t_h : jI3 t) (a_h : jI4 a) (b_h : jI4 b) (hs : sProg p) (hm : isMs h t (sMends p)) (ha : isP h a p) (hb : isP h b q) (hab : a + 1 < b ∨ b + 1 < a) (hn : n < (sMends p).length) :
    JM mX3_change [.ref t, .int (nI n), .ref a, .ref b] (jG0 sc) h (jvoid sc (fun h' => isP h' b (sChange p ((sMends p).getD n sMd0) q) ∧ jfr ([(b + 1, b + 1)], []) h h')) := by
  have h280 := sMends_280 hs
  have hn31 : n < 2 ^ 31 := by omega
  have h10 := hs.1
  have hpl := sMd_ok hs hn
  have vi : vp_in (nI n) 300 := vp_in_nI (by omega) (by decide)
  obtain ⟨f1, f2, f3⟩ := hm.2 n hn
  have e1 : h (t + 1) ((nI n).toNatClampNeg) = ((sMends p).getD n sMd0).1 := by rw [nI_clamp hn31]; exact f1
  have e2 : h (t + 2) ((nI n).toNatClampNeg) = nI ((sMends p).getD n sMd0).2.1 := by rw [nI_clamp hn31]; exact f2
  have e3 : h (t + 3) ((nI n).toNatClampNeg) = ((sMends p).getD n sMd0).2.2 := by rw [nI_clamp hn31]; exact f3
  have no : ¬ h t 6 ≤ nI n := by rw [hm.1, jn_le (by omega) hn31]; omega
  have no3 : ¬ ¬ nI n < 300 := fun k => k ((jn_lt (b := 300) hn31 (by decide)).mpr (by omega))
  generalize (sMends p).getD n sMd0 = m at *
  have fr : ∀ {h'}, jfr ([(b + 1, b + 1)], []) h h' → isP h' a p := fun f => ha.fr1 (b := b) f (by simp [jsub]) hab
  refine jM_of rfl (Nat.le_of_ble_eq_true rfl) (by decide +kernel) rfl (rX3_change_0 a_h b_h t_h (fun c => absurd c (nI_pos hn31)) (fun _ c => absurd c no) (fun _ _ _ => vi) (fun _ _ _ _ => vi)
    (fun _ _ _ _ => by rw [e2, e3]; exact tX4_putLine b_h hb (by omega)) (fun _ _ _ c => ?_)
    (fun _ _ _ _ => by rw [e2, ← nI_succ]; exact tX4_lineAt a_h ha (by omega))
    (P3 := fun h' => isP h' b (q.set m.2.1 (p.getD (m.2.1 + 1) 4)) ∧ jfr ([(b + 1, b + 1)], []) h h') (fun _ _ _ _ _ _ r => by rw [e2, ← r.2, r.1]; exact tX4_putLine b_h hb (by omega))
    (P4 := fun x h' => x = p.getD m.2.1 4 ∧ isP h' b (q.set m.2.1 (p.getD (m.2.1 + 1) 4)) ∧ jfr ([(b + 1, b + 1)], []) h h') (fun _ _ _ _ _ _ _ h3 r => by rw [e2]; exact jM_get (tX4_lineAt a_h (fr r.2) (by omega)) r)
    (P5 := fun h' => isP h' b ((q.set m.2.1 (p.getD (m.2.1 + 1) 4)).set (m.2.1 + 1) (p.getD m.2.1 4)) ∧ jfr ([(b + 1, b + 1)], []) h h') (fun _ _ _ _ _ _ _ _ _ _ h4 r => by rw [e2, ← nI_succ, r.1]; exact jM_void (tX4_putLine b_h r.2.1 (by omega)) (fun h' z => ⟨z.1, r.2.2.tr2 z.2⟩)) (fun _ _ _ c => ?_) (fun _ _ c => absurd c no3))
  · rw [e1] at c
    rintro h1 ⟨g1, g2⟩
    exact jvoid_i ⟨by unfold sChange; rw [if_neg c]; exact g1, g2⟩
  · rw [e1] at c
    rintro _ _ - _ - _ _ - h5 ⟨g1, g2⟩
    exact jvoid_i ⟨by unfold sChange; rw [if_pos c]; exact g1, g2⟩
def sByO (p : List Int32) (o : Option (Nat × Option Nat)) : List Int32 := match o with
  | none => p
  | some z => sBy p z
def sBy1 (p : List Int32) (o : Option (Nat × Option Nat)) : List Int32 := match o with
  | none => p
  | some z => sChange p ((sMends p).getD z.1 sMd0) p
abbrev fShape (t b : Nat) : jF := ([(b + 1, b + 1)], [(b, 1, 1), (t, 7, 8)])
def shPost (t b : Nat) (p : List Int32) (o : Option (Nat × Option Nat)) (h : jH) (r : Int32) (h' : jH) : Prop := r = sB (o.isSome = true) ∧ isP h' b (sByO p o) ∧ jfr (fShape t b) h h'
theorem sAll_lt {k : Nat} {z : Nat × Option Nat} (e : (sAll (sMends p))[k]? = some z) : z.1 < (sMends p).length ∧ ∀ d, z.2 = some d → d < (sMends p).length := by
  have hm := List.mem_of_getElem? e
  unfold sAll at hm
  rcases List.mem_append.mp hm with hm | hm
  · obtain ⟨x, hx, rfl⟩ := List.mem_map.mp hm
    exact ⟨List.mem_range.mp hx, fun d hd => by cases hd⟩
  · unfold sPairs at hm
    obtain ⟨x, hx, hm⟩ := List.mem_flatMap.mp hm
    unfold sPairsOf at hm
    obtain ⟨y, hy, rfl⟩ := List.mem_map.mp hm
    refine ⟨List.mem_range.mp hx, fun d hd => ?_⟩
    cases hd
    exact List.mem_range.mp (List.mem_filter.mp hy).1
theorem shapeGo {x : Int32} {o : Option (Nat × Option Nat)} (t_h : jI3 t) (a_h : jI4 a) (b_h : jI4 b) (hs : sProg p) (hm : isMends h t p) (ha : isP h a p) (hab : a + 1 < b ∨ b + 1 < a) (hat : a + 1 < t ∨ t + 6 < a) (hbt : b + 1 < t ∨ t + 6 < b)
    (ho : ∀ z, o = some z → z.1 < (sMends p).length ∧ ∀ d, z.2 = some d → d < (sMends p).length)
    (part : ∀ h1, isMends h1 t p → JM mX3_part [.ref t, .int x] (jG0 sc) h1 (jint sc (partPost t o h1))) :
    JM mX3_shape [.ref t, .ref a, .int x, .ref b] (jG0 sc) h (jint sc (shPost t b p o h)) := by
  have mF : ∀ {h' : jH}, jfr (fShape t b) h h' → isMends h' t p := fun f => hm.fr f (by rw [jin_f]; simp <;> omega) (fun c h1 h2 j => by rw [jin_f]; simp <;> omega)
  have aF : ∀ {h' : jH}, jfr (fShape t b) h h' → isP h' a p := fun f => ha.fr f (by rw [jin_f]; simp <;> omega) (fun j => by rw [jin_f]; simp <;> omega)
  have bF : ∀ {h1 h2 : jH} {r : List Int32}, isP h1 b r → jfr (fPart t) h1 h2 → isP h2 b r := fun k f => k.fr f (by rw [jin_f]; simp <;> omega) (fun j => by rw [jin_f]; simp <;> omega)
  have s1 : ∀ {h1 h2 : jH}, jfr ([(b + 1, b + 1)], [(b, 1, 1)]) h1 h2 → jfr (fShape t b) h1 h2 := fun f => f.mono (by simp [jsub])
  have s2 : ∀ {h1 h2 : jH}, jfr ([(b + 1, b + 1)], []) h1 h2 → jfr (fShape t b) h1 h2 := fun f => f.mono (by simp [jsub])
  have s3 : ∀ {h1 h2 : jH}, jfr (fPart t) h1 h2 → jfr (fShape t b) h1 h2 := fun f => f.mono (by simp [jsub])
  have s8 : ∀ {h1 h2 : jH}, jfr ([(b + 1, b + 1)], []) h1 h2 → ∀ j, h2 t j = h1 t j := fun f j => f t j (by rw [jin_f]; simp <;> omega)
  have m8 : ∀ {h1 h2 : jH}, jfr ([(b + 1, b + 1)], []) h1 h2 → isMends h1 t p → isMends h2 t p := fun f k => k.fr f (by rw [jin_f]; simp <;> omega) (fun c h1 h2 j => by rw [jin_f]; simp <;> omega)
  refine jM_of rfl (Nat.le_of_ble_eq_true rfl) (by decide +kernel) rfl (rX3_shape_0 a_h b_h t_h (P1 := fun h' => isP h' b p ∧ jfr (fShape t b) h h') (jM_void (tX4_copyOf b_h a_h ha hab) (fun h' z => ⟨z.1, s1 z.2⟩))
    (P2 := fun r h' => r = sB (o.isSome = true) ∧ h' t 7 = (sTwo o).1 ∧ h' t 8 = (sTwo o).2 ∧ isP h' b p ∧ jfr (fShape t b) h h') (fun h1 z => jM_int (part h1 (mF z.2)) (fun r h' w => ⟨w.1, w.2.1, w.2.2.1, bF z.1 w.2.2.2, z.2.tr2 (s3 w.2.2.2)⟩))
    (P3 := fun h' => h' t 8 = (sTwo o).2 ∧ isP h' b (sBy1 p o) ∧ jfr (fShape t b) h h') (fun _ _ _ h2 w => ?_)
    (P4 := fun h' => isP h' b (sByO p o) ∧ jfr (fShape t b) h h') (fun _ _ _ _ _ h3 w => ?_) (fun _ _ _ _ w _ _ _ _ => by rw [w.1]; exact sB_01) (fun _ _ _ _ w _ _ h4 z => jint_i ⟨w.1, z.1, z.2⟩))
  · obtain ⟨-, w7, w8, wb, wf⟩ := w
    rw [w7]
    cases o with
    | none => exact jM_void (tX3_changeN (c := -1) t_h a_h b_h (by decide)) (fun h' z => by rw [← z]; exact ⟨w8, wb, wf⟩)
    | some z =>
      have hz := ho z rfl
      have e7 : (sTwo (some z)).1 = nI z.1 := by obtain ⟨u, v⟩ := z; cases v <;> rfl
      rw [e7]
      exact jM_void (tX3_change t_h a_h b_h hs (mF wf).1 (aF wf) wb hab hz.1) (fun h' r => ⟨by rw [s8 r.2]; exact w8, r.1, wf.tr2 (s2 r.2)⟩)
  · obtain ⟨w8, wb, wf⟩ := w
    rw [w8]
    cases o with
    | none => exact jM_void (tX3_changeN (c := -1) t_h a_h b_h (by decide)) (fun h' z => by rw [← z]; exact ⟨wb, wf⟩)
    | some z =>
      obtain ⟨u, v⟩ := z
      cases v with
      | none => exact jM_void (tX3_changeN (c := -1) t_h a_h b_h (by decide)) (fun h' z => by rw [← z]; exact ⟨wb, wf⟩)
      | some d =>
        have hz := (ho _ rfl).2 d rfl
        exact jM_void (tX3_change t_h a_h b_h hs (mF wf).1 (aF wf) wb hab hz) (fun h' r => ⟨r.1, wf.tr2 (s2 r.2)⟩)
theorem tX3_shape {k : Nat} (t_h : jI3 t) (a_h : jI4 a) (b_h : jI4 b) (hs : sProg p) (hm : isMends h t p) (ha : isP h a p) (hab : a + 1 < b ∨ b + 1 < a) (hat : a + 1 < t ∨ t + 6 < a) (hbt : b + 1 < t ∨ t + 6 < b) (hk : k < 2 ^ 31) :
    JM mX3_shape [.ref t, .ref a, .int (nI k), .ref b] (jG0 sc) h (jint sc (shPost t b p ((sAll (sMends p))[k]?) h)) :=
  shapeGo t_h a_h b_h hs hm ha hab hat hbt (fun _ e => sAll_lt e) (fun _ m => tX3_part t_h hs m hk)
theorem tX3_shapeN (t_h : jI3 t) (a_h : jI4 a) (b_h : jI4 b) (hs : sProg p) (hm : isMends h t p) (ha : isP h a p) (hab : a + 1 < b ∨ b + 1 < a) (hat : a + 1 < t ∨ t + 6 < a) (hbt : b + 1 < t ∨ t + 6 < b) :
    JM mX3_shape [.ref t, .ref a, .int (-1), .ref b] (jG0 sc) h (jint sc (shPost t b p none h)) :=
  shapeGo t_h a_h b_h hs hm ha hab hat hbt (fun _ e => by cases e) (fun _ m => tX3_partN t_h hs m)
end PX
