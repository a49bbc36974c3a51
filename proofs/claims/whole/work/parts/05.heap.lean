/-! Rows that read and write the world. -/
def jput (h : jH) (r j : Nat) (x : Int32) : jH := fun k => if k = r then (fun i => if i = j then x else h r i) else h k
theorem jput_ne {h : jH} {r j k : Nat} {x : Int32} (hk : k ≠ r) : jput h r j x k = h k := by funext i; simp [jput, hk]
theorem jput_at {h : jH} {r j : Nat} {x : Int32} : jput h r j x r j = x := by simp [jput]
theorem jput_sl {h : jH} {r j i : Nat} {x : Int32} (hi : i ≠ j) : jput h r j x r i = h r i := by simp [jput, hi]
def jsetR (Γ : jS) (r j a : Nat) : jS := (jN Γ, jFr Γ, jK Γ, jL Γ, fun k i => if k = r ∧ i = j then some a else jR Γ k i, jSc Γ)
theorem jad_lt {G : jG} {Γ : jS} {h : jH} {H : Heap} {r : Nat} (hP : jP G Γ h H) (hr : r < jN Γ) : jad G r = G.2.2.1 + r := by
  have := hP.2.2.1
  rw [jad, if_pos (by omega)]
theorem jword {l : Launch} {G : jG} {M : jM} {p : Program} {s : State} {m : MethodId} {args : Array Value} {meth : Method} {c : Code} (C : jC l G M p s m args meth c) {w : Cond} (hw : w ∈ lw_tbl) (hg : goodWord w = true) : w.before args s = true :=
  C.2.2.2.2.2.2.2.2.1 w (List.mem_cons_of_mem _ (jU_mem hw hg))
theorem jwordN {l : Launch} {G : jG} {M : jM} {p : Program} {s : State} {m : MethodId} {args : Array Value} {meth : Method} {c : Code} (C : jC l G M p s m args meth c) {w : Cond} (hw : w ∈ jNest) (ho : w.onTables = true) : w.before args s = true :=
  va_Nw.use ho (C.2.2.2.2.2.2.2.2.2.1.2.2.1.1 w hw)
theorem jown {l : Launch} {G : jG} {M : jM} {p : Program} {s : State} {m : MethodId} {args : Array Value} {meth : Method} {c : Code} (C : jC l G M p s m args meth c) : s.vm.findClass (jCn (mO M)) = some m.cls := by
  have h := C.2.2.2.2.1
  rw [C.2.2.2.2.2.2.2.2.2.2.2.2] at h
  exact h
/-- an object's cell, and what is known of its class -/
theorem jobj {l : Launch} {G : jG} {M : jM} {p : Program} {s : State} {m : MethodId} {args : Array Value} {meth : Method} {c : Code} (C : jC l G M p s m args meth c) {Γ : jS} {h : jH} {H : Heap} (hP : jP G Γ h H) {r ci : Nat} (hr : r < jN Γ) (hk : jK Γ r = ci) (hc : ci < 13) :
    t_OB (G.2.2.1 + r) (G.1.1 ci) (jTN ci) (G.1.2 ci) H (fun j => jmv G (jslot Γ h r j)) ∧ u_Kn s (jCn ci) (jTX ci) (jTN ci) (G.1.1 ci) (G.1.2 ci) := by
  subst hk
  refine ⟨?_, C.2.2.2.2.2.2.2.2.2.1.1 _ _ (jCl_at _ hc)⟩
  rcases hP.1 r hr with ⟨q, hq, hO⟩ | ⟨hq, -, -⟩
  · rw [(jCl_of hq).2] at hO
    exact hO
  · omega
theorem jarr {l : Launch} {G : jG} {M : jM} {p : Program} {s : State} {m : MethodId} {args : Array Value} {meth : Method} {c : Code} (C : jC l G M p s m args meth c) {Γ : jS} {h : jH} {H : Heap} (hP : jP G Γ h H) {r ci : Nat} (hr : r < jN Γ) (hk : jK Γ r = ci) {ty : FieldType} (ht : jty ci = some ty) :
    H[G.2.2.1 + r]? = some (arrV (G.2.1 ci) (jL Γ r) (fun j => jmv G (jslot Γ h r j))) ∧ ArrOfT s (G.2.1 ci) ty ∧ va_RA s (G.2.1 ci) ty := by
  subst hk
  refine ⟨?_, C.2.2.2.2.2.2.2.2.2.1.2.1 _ _ ht⟩
  rcases hP.1 r hr with ⟨q, hq, hO⟩ | ⟨hq, -, hO⟩
  · have := (jCl_of hq).1
    revert ht
    unfold jty
    split <;> first | omega | (intro h; cases h)
  · exact hO
/-- the world behind a write into cell r -/
theorem jP_put {G : jG} {Γ Γ' : jS} {h h' : jH} {H H1 : Heap} {r : Nat} (hP : jP G Γ h H) (hr : r < jN Γ) (hz : H1.size = H.size) (oq : ∀ q : Nat, q ≠ G.2.2.1 + r → H1[q]? = H[q]?) (hh : ∀ k, k < jN Γ → k ≠ r → h' k = h k)
    (hN : jN Γ' = jN Γ) (hF : jFr Γ' = jFr Γ) (hK : jK Γ' = jK Γ) (hL : jL Γ' = jL Γ) (hS : jSc Γ' = jSc Γ) (hR : ∀ k i, k ≠ r → jR Γ' k i = jR Γ k i) (hc : jAt G Γ' h' H1 r) : jP G Γ' h' H1 := by
  refine ⟨fun k hk => ?_, by rw [hz, hN]; exact hP.2.1, by rw [hN]; exact hP.2.2.1, by rw [hF, hN, hz]; exact hP.2.2.2.1, by rw [hS]; exact hP.2.2.2.2⟩
  by_cases hkr : k = r
  · subst hkr; exact hc
  · have hk0 : k < jN Γ := by rw [← hN]; exact hk
    have hs : ∀ j, jslot Γ' h' k j = jslot Γ h k j := by
      intro j
      simp only [jslot, hK, hR k j hkr, hh k hk0 hkr]
    have hq := oq (G.2.2.1 + k) (by omega)
    rcases hP.1 k hk0 with ⟨q, h1, h2⟩ | ⟨h1, h3, h2⟩
    · refine Or.inl ⟨q, by rw [hK]; exact h1, ?_⟩
      rw [hK]
      exact (h2.kept hq).to (fun j _ => by rw [hs])
    · refine Or.inr ⟨by rw [hK]; exact h1, by rw [hK]; exact h3, ?_⟩
      rw [hq, h2, hK, hL]
      congr 2
      funext j
      rw [hs]
theorem jS_put {G : jG} {H0 H H1 : Heap} {locs : List Loc} {a k : Nat} (hS : va_S (jA G) H0 H locs) (hz : H1.size = H.size) (oq : ∀ q : Nat, q ≠ a → H1[q]? = H[q]?) (ha : G.2.2.1 ≤ a) : va_S (jA G) H0 H1 (locs ++ [⟨a, k⟩]) := hS.put hz oq ha
section JH
variable {M : jM} {Q : jQ} {pc : Nat} {lv : List (Option Value)} {st : List Value} {Γ : jS} {h : jH} {u : Nat × Nat}
theorem j_get {idx ci k r : Nat} {nest : Bool} (v : Value) (hm : (mO M, idx, ci, k, nest) ∈ jFT) (hr : r < jN Γ) (hk : jK Γ r = ci) (hv : jslot Γ h r k = v) (hd : decode (mC M) pc = .ok (.getfield idx, 3)) (kk : WP M Q (pc + 3) lv (v :: st) Γ h u) : WP M Q pc lv (.ref r :: st) Γ h u := by
  intro l G p e s m args below meth c C H locs ls hP hS hl
  obtain ⟨hw, hc, hkN⟩ := jFT_mem hm
  obtain ⟨⟨cell, q1, q2, q3, q4⟩, hSl, hfc, kC, hkC, hkind⟩ := jobj C hP hr hk hc
  obtain ⟨cf, kf, fi, f, hi, hsl⟩ := hSl k hkN
  have hlays : ∀ w ∈ u_ws (jCn ci) (jTX ci) (jTN ci), w.before args s = true := fun w hw => jword C (jTbl (jLay_tbl ci hc w hw).1) (jLay_tbl ci hc w hw).2
  have hst := (u_facts hfc hkC (u_lays hlays (fun _ h => h) hkN) hi).1
  have hslot : cell.slots[f.slot]? = some (jmv G v) := by rw [hsl, q4 k hkN]; show some (jmv G (jslot Γ h r k)) = _; rw [hv]
  rw [jTO_ok ci hc k hkN] at hi
  have K := kk l G p e s m args below meth c C H locs ls hP hS hl
  rw [List.map_cons] at K ⊢
  have ea : jmv G (.ref r) = .ref (G.2.2.1 + r) := by show Value.ref (jad G r) = _; rw [jad_lt hP hr]
  rw [ea]
  cases nest with
  | false => exact W.getf C.1 C.2.1 (jown C) (jword C hw rfl) hi hst q1 (by rw [q3]; exact fun h => by cases h) hslot rfl rfl hd K
  | true => exact va_Wgetf C.1 C.2.1 (jown C) (jwordN C (List.mem_filter.mpr ⟨hw, rfl⟩) rfl) hi hst q1 (by rw [q3]; exact fun h => by cases h) hslot rfl rfl hd K
theorem j_getI {idx ci k r : Nat} {nest : Bool} (hm : (mO M, idx, ci, k, nest) ∈ jFT) (hf : jrefs ci k = false) (hr : r < jN Γ) (hk : jK Γ r = ci) (hd : decode (mC M) pc = .ok (.getfield idx, 3)) (kk : WP M Q (pc + 3) lv (.int (h r k) :: st) Γ h u) : WP M Q pc lv (.ref r :: st) Γ h u := by
  have hc := (jFT_mem hm).2.1
  refine j_get (.int (h r k)) hm hr hk ?_ hd kk
  have hc : ci < 13 := hc
  simp only [jslot, hk, hf]
  rw [if_neg (by decide), if_neg (by omega)]
theorem j_getR {idx ci k r a : Nat} {nest : Bool} (hm : (mO M, idx, ci, k, nest) ∈ jFT) (hf : jrefs ci k = true) (hr : r < jN Γ) (hk : jK Γ r = ci) (ha : jR Γ r k = some a) (hd : decode (mC M) pc = .ok (.getfield idx, 3)) (kk : WP M Q (pc + 3) lv (.ref a :: st) Γ h u) : WP M Q pc lv (.ref r :: st) Γ h u := by
  refine j_get (.ref a) hm hr hk ?_ hd kk
  simp only [jslot, hk, hf, ha]
  rfl
/-- a write of an int (or a boolean 0 or 1) into a field -/
theorem j_putI {idx ci k r : Nat} {x : Int32} {nest : Bool} (hm : (mO M, idx, ci, k, nest) ∈ jFT) (hf : jrefs ci k = false) (hfin : (jTX ci k).2.2.2 = false) (hnar : narrow (jTy ci k) (.int x) = .int x) (hfit : fits (jTy ci k) (.int x) = true) (hr : r < jN Γ) (hk : jK Γ r = ci) (hd : decode (mC M) pc = .ok (.putfield idx, 3)) (kk : WP M Q (pc + 3) lv st Γ (jput h r k x) u) : WP M Q pc lv (.int x :: .ref r :: st) Γ h u := by
  intro l G p e s m args below meth c C H locs ls hP hS hl
  obtain ⟨hw, hc, hkN⟩ := jFT_mem hm
  have hc : ci < 13 := hc
  have hkN : k < jTN ci := hkN
  obtain ⟨⟨cell, q1, q2, q3, q4⟩, hSl, hfc, kC, hkC, hkind⟩ := jobj C hP hr hk hc
  obtain ⟨cf, kf, fi, f, hi, hsl⟩ := hSl k hkN
  have hlays : ∀ w ∈ u_ws (jCn ci) (jTX ci) (jTN ci), w.before args s = true := fun w hw => jword C (jTbl (jLay_tbl ci hc w hw).1) (jLay_tbl ci hc w hw).2
  have hst := (u_facts hfc hkC (u_lays hlays (fun _ h => h) hkN) hi).1
  have hlay := hlays _ (u_in_lay hkN)
  unfold u_lay at hlay
  rw [if_neg (by rw [hfin]; decide)] at hlay
  have h6 := u_store hfc hkC hkind hlay hi (jTy_ok ci hc k hkN) hnar hfit
  have hap : ∀ x y, x < jTN ci → y < jTN ci → x ≠ y → (G.1.2 ci) x ≠ (G.1.2 ci) y := by
    intro x y hx hy hne
    obtain ⟨_, _, _, fa, hia, ea⟩ := hSl x hx
    obtain ⟨_, _, _, fb, hib, eb⟩ := hSl y hy
    rw [← ea, ← eb]
    refine u_apart (u_lays hlays (fun _ h => h) hx) (u_lays hlays (fun _ h => h) hy) hia hib ?_
    rw [(State.fieldFound?_type hia (jTy_ok ci hc x hx)).1, (State.fieldFound?_type hib (jTy_ok ci hc y hy)).1]
    exact jNm_ok ci hc x hx y hy hne
  have hlt : f.slot < cell.slots.size := by rw [hsl]; exact k2_hasslot (q4 k hkN)
  have hcell : ∀ H1 : Heap, H1[G.2.2.1 + r]? = some (cell.setSlot f.slot (.int x)) → jAt G Γ (jput h r k x) H1 r := by
    intro H1 e1
    refine Or.inl ⟨_, by rw [hk]; exact jCl_at ci hc, ?_⟩
    rw [hk]
    refine ⟨_, e1, q2, q3, fun j hj => ?_⟩
    rw [hsl]
    rw [t_set q4 hap hkN (.int x) j hj]
    congr 1
    by_cases hjk : j = k
    · subst hjk
      simp only [updV, if_pos, jslot, hk, hf, jput_at]
      rw [if_neg (by decide), if_neg (by omega)]
      rfl
    · simp only [updV, if_neg hjk, jslot, hk, jput_sl hjk]
  rw [jTO_ok ci hc k hkN] at hi
  have K := fun (H1 : Heap) (e1 : H1[G.2.2.1 + r]? = some (cell.setSlot f.slot (.int x))) (e2 : H1.size = H.size) (e3 : ∀ q, q ≠ G.2.2.1 + r → H1[q]? = H[q]?) =>
    kk l G p e s m args below meth c C H1 (locs ++ [⟨G.2.2.1 + r, f.slot⟩]) ls (jP_put hP hr e2 e3 (fun k' _ hk' => jput_ne hk') rfl rfl rfl rfl rfl (fun _ _ _ => rfl) (hcell H1 e1)) (jS_put hS e2 e3 (Nat.le_add_right _ _)) hl
  have ea : (Value.int x :: .ref r :: st).map (jmv G) = .int x :: .ref (G.2.2.1 + r) :: st.map (jmv G) := by
    show _ :: Value.ref (jad G r) :: _ = _
    rw [jad_lt hP hr]; rfl
  rw [ea]
  cases nest with
  | false => exact W.putK C.1 C.2.1 (f := f) ⟨jown C, jword C hw rfl, ⟨_, _, _, hi⟩, hst⟩ (by rw [q2]; exact h6) q1 q3 hlt rfl rfl hd K
  | true => exact va_WputK C.1 C.2.1 (jown C) (jwordN C (List.mem_filter.mpr ⟨hw, rfl⟩) rfl) hi hst (by rw [q2]; exact h6) q1 q3 hlt rfl rfl hd K
theorem j_iald {r : Nat} {i : Int32} (hr : r < jN Γ) (hk : jK Γ r = 14) (hin : vp_in i (jL Γ r)) (hd : decode (mC M) pc = .ok (.iaload, 1)) (kk : WP M Q (pc + 1) lv (.int (h r i.toNatClampNeg) :: st) Γ h u) : WP M Q pc lv (.int i :: .ref r :: st) Γ h u := by
  intro l G p e s m args below meth c C H locs ls hP hS hl
  obtain ⟨q1, q2, -⟩ := jarr C hP hr hk (ty := .int) rfl
  have hsl0 : jslot Γ h r i.toNatClampNeg = .int (h r i.toNatClampNeg) := by simp only [jslot, hk]; rfl
  have hlt : i.toNatClampNeg < jL Γ r := Nat.not_le.mp fun q => hin (Or.inr q)
  have K := kk l G p e s m args below meth c C H locs ls hP hS hl
  have ea : (Value.int i :: .ref r :: st).map (jmv G) = .int i :: .ref (G.2.2.1 + r) :: st.map (jmv G) := by
    show _ :: Value.ref (jad G r) :: _ = _
    rw [jad_lt hP hr]; rfl
  rw [ea]
  refine W.iald C.1 C.2.1 q1 (q2 _ _) (fun q => by cases q) (by rw [arrV_size]; exact hin) (by rw [arrV_read _ _ hlt]; show some (jmv G (jslot Γ h r i.toNatClampNeg)) = _; rw [hsl0]) rfl rfl hd K
theorem j_bald {r : Nat} {i : Int32} (hr : r < jN Γ) (hk : jK Γ r = 13) (hin : vp_in i (jL Γ r)) (hd : decode (mC M) pc = .ok (.baload, 1)) (kk : WP M Q (pc + 1) lv (.int (h r i.toNatClampNeg) :: st) Γ h u) : WP M Q pc lv (.int i :: .ref r :: st) Γ h u := by
  intro l G p e s m args below meth c C H locs ls hP hS hl
  obtain ⟨q1, q2, -⟩ := jarr C hP hr hk (ty := .byte) rfl
  have hsl0 : jslot Γ h r i.toNatClampNeg = .int (h r i.toNatClampNeg) := by simp only [jslot, hk]; rfl
  have hlt : i.toNatClampNeg < jL Γ r := Nat.not_le.mp fun q => hin (Or.inr q)
  have K := kk l G p e s m args below meth c C H locs ls hP hS hl
  have ea : (Value.int i :: .ref r :: st).map (jmv G) = .int i :: .ref (G.2.2.1 + r) :: st.map (jmv G) := by
    show _ :: Value.ref (jad G r) :: _ = _
    rw [jad_lt hP hr]; rfl
  rw [ea]
  refine W.bald C.1 C.2.1 q1 (q2 _ _) (fun q => by cases q) (by rw [arrV_size]; exact hin) (by rw [arrV_read _ _ hlt]; show some (jmv G (jslot Γ h r i.toNatClampNeg)) = _; rw [hsl0]) rfl rfl hd K
theorem j_lald {r : Nat} {i : Int32} (hr : r < jN Γ) (hk : jK Γ r = 16) (hin : vp_in i (jL Γ r)) (hd : decode (mC M) pc = .ok (.laload, 1)) (kk : WP M Q (pc + 1) lv (.long (h r i.toNatClampNeg).toInt64 :: st) Γ h u) : WP M Q pc lv (.int i :: .ref r :: st) Γ h u := by
  intro l G p e s m args below meth c C H locs ls hP hS hl
  obtain ⟨q1, q2, -⟩ := jarr C hP hr hk (ty := .long) rfl
  have hsl0 : jslot Γ h r i.toNatClampNeg = .long (h r i.toNatClampNeg).toInt64 := by simp only [jslot, hk]; rfl
  have hlt : i.toNatClampNeg < jL Γ r := Nat.not_le.mp fun q => hin (Or.inr q)
  have K := kk l G p e s m args below meth c C H locs ls hP hS hl
  have ea : (Value.int i :: .ref r :: st).map (jmv G) = .int i :: .ref (G.2.2.1 + r) :: st.map (jmv G) := by
    show _ :: Value.ref (jad G r) :: _ = _
    rw [jad_lt hP hr]; rfl
  rw [ea]
  refine W.lald C.1 C.2.1 q1 (q2 _ _) (fun q => by cases q) (by rw [arrV_size]; exact hin) (by rw [arrV_read _ _ hlt]; show some (jmv G (jslot Γ h r i.toNatClampNeg)) = _; rw [hsl0]) rfl rfl hd K
theorem j_aald {r a : Nat} {i : Int32} (hr : r < jN Γ) (hk : jK Γ r = 15) (hin : vp_in i (jL Γ r)) (ha : jR Γ r i.toNatClampNeg = some a) (hd : decode (mC M) pc = .ok (.aaload, 1)) (kk : WP M Q (pc + 1) lv (.ref a :: st) Γ h u) : WP M Q pc lv (.int i :: .ref r :: st) Γ h u := by
  intro l G p e s m args below meth c C H locs ls hP hS hl
  obtain ⟨q1, q2, -⟩ := jarr C hP hr hk rfl
  have hsl0 : jslot Γ h r i.toNatClampNeg = .ref a := by simp only [jslot, hk, ha]; rfl
  have hlt : i.toNatClampNeg < jL Γ r := Nat.not_le.mp fun q => hin (Or.inr q)
  have K := kk l G p e s m args below meth c C H locs ls hP hS hl
  have ea : (Value.int i :: .ref r :: st).map (jmv G) = .int i :: .ref (G.2.2.1 + r) :: st.map (jmv G) := by
    show _ :: Value.ref (jad G r) :: _ = _
    rw [jad_lt hP hr]; rfl
  rw [ea]
  refine W.aald C.1 C.2.1 q1 (q2 _ _) rfl (fun q => by cases q) (by rw [arrV_size]; exact hin) (by rw [arrV_read _ _ hlt]; show some (jmv G (jslot Γ h r i.toNatClampNeg)) = _; rw [hsl0]) rfl rfl hd K
theorem j_alen {r ci : Nat} {ty : FieldType} (hr : r < jN Γ) (hk : jK Γ r = ci) (ht : jty ci = some ty) (v : Int32) (hv : Int32.ofNat (jL Γ r) = v) (hd : decode (mC M) pc = .ok (.arraylength, 1)) (kk : WP M Q (pc + 1) lv (.int v :: st) Γ h u) : WP M Q pc lv (.ref r :: st) Γ h u := by
  intro l G p e s m args below meth c C H locs ls hP hS hl
  obtain ⟨q1, q2, -⟩ := jarr C hP hr hk ht
  have K := kk l G p e s m args below meth c C H locs ls hP hS hl
  have ea : (Value.ref r :: st).map (jmv G) = .ref (G.2.2.1 + r) :: st.map (jmv G) := by
    show Value.ref (jad G r) :: _ = _
    rw [jad_lt hP hr]
  rw [ea]
  exact W.alen C.1 C.2.1 q1 (q2 _ _) (by rw [arrV_size]; exact hv) rfl rfl hd K

theorem j_iast {r : Nat} {i : Int32} {x : Int32} (hr : r < jN Γ) (hk : jK Γ r = 14) (hin : vp_in i (jL Γ r)) (hd : decode (mC M) pc = .ok (.iastore, 1)) (kk : WP M Q (pc + 1) lv st Γ (jput h r i.toNatClampNeg (x)) u) : WP M Q pc lv (Value.int x :: .int i :: .ref r :: st) Γ h u := by
  intro l G p e s m args below meth c C H locs ls hP hS hl
  obtain ⟨q1, q2, -⟩ := jarr C hP hr hk (ty := .int) rfl
  have ea : (Value.int x :: .int i :: .ref r :: st).map (jmv G) = Value.int x :: .int i :: .ref (G.2.2.1 + r) :: st.map (jmv G) := by
    show _ :: _ :: Value.ref (jad G r) :: _ = _
    rw [jad_lt hP hr]; rfl
  rw [ea]
  refine W.iast C.1 C.2.1 q1 (q2 _ _) (fun q => by cases q) (by rw [arrV_size]; exact hin) rfl rfl hd fun H1 e1 e2 e3 => ?_
  refine kk l G p e s m args below meth c C H1 _ ls (jP_put hP hr e2 e3 (fun k' _ hk' => jput_ne hk') rfl rfl rfl rfl rfl (fun _ _ _ => rfl) (Or.inr ⟨by rw [hk]; decide, ⟨_, by rw [hk]; rfl⟩, ?_⟩)) (jS_put hS e2 e3 (Nat.le_add_right _ _)) hl
  rw [e1, arrV_store, hk]
  congr 2
  funext j
  by_cases hj : j = i.toNatClampNeg
  · subst hj
    simp only [updV, if_pos, jslot, hk, jput_at]
    rfl
  · simp only [updV, if_neg hj, jslot, hk, jput_sl hj]
theorem j_bast {r : Nat} {i : Int32} {x : Int32} (hr : r < jN Γ) (hk : jK Γ r = 13) (hin : vp_in i (jL Γ r)) (hd : decode (mC M) pc = .ok (.bastore, 1)) (kk : WP M Q (pc + 1) lv st Γ (jput h r i.toNatClampNeg (x.toInt8.toInt32)) u) : WP M Q pc lv (Value.int x :: .int i :: .ref r :: st) Γ h u := by
  intro l G p e s m args below meth c C H locs ls hP hS hl
  obtain ⟨q1, q2, -⟩ := jarr C hP hr hk (ty := .byte) rfl
  have ea : (Value.int x :: .int i :: .ref r :: st).map (jmv G) = Value.int x :: .int i :: .ref (G.2.2.1 + r) :: st.map (jmv G) := by
    show _ :: _ :: Value.ref (jad G r) :: _ = _
    rw [jad_lt hP hr]; rfl
  rw [ea]
  refine W.bast C.1 C.2.1 q1 (q2 _ _) (fun q => by cases q) (by rw [arrV_size]; exact hin) rfl rfl hd fun H1 e1 e2 e3 => ?_
  refine kk l G p e s m args below meth c C H1 _ ls (jP_put hP hr e2 e3 (fun k' _ hk' => jput_ne hk') rfl rfl rfl rfl rfl (fun _ _ _ => rfl) (Or.inr ⟨by rw [hk]; decide, ⟨_, by rw [hk]; rfl⟩, ?_⟩)) (jS_put hS e2 e3 (Nat.le_add_right _ _)) hl
  rw [e1, arrV_store, hk]
  congr 2
  funext j
  by_cases hj : j = i.toNatClampNeg
  · subst hj
    simp only [updV, if_pos, jslot, hk, jput_at]
    rfl
  · simp only [updV, if_neg hj, jslot, hk, jput_sl hj]
theorem j_last {r : Nat} {i : Int32} {x : Int32} (hr : r < jN Γ) (hk : jK Γ r = 16) (hin : vp_in i (jL Γ r)) (hd : decode (mC M) pc = .ok (.lastore, 1)) (kk : WP M Q (pc + 1) lv st Γ (jput h r i.toNatClampNeg (x)) u) : WP M Q pc lv (Value.long x.toInt64 :: .int i :: .ref r :: st) Γ h u := by
  intro l G p e s m args below meth c C H locs ls hP hS hl
  obtain ⟨q1, q2, -⟩ := jarr C hP hr hk (ty := .long) rfl
  have ea : (Value.long x.toInt64 :: .int i :: .ref r :: st).map (jmv G) = Value.long x.toInt64 :: .int i :: .ref (G.2.2.1 + r) :: st.map (jmv G) := by
    show _ :: _ :: Value.ref (jad G r) :: _ = _
    rw [jad_lt hP hr]; rfl
  rw [ea]
  refine W.last C.1 C.2.1 q1 (q2 _ _) (fun q => by cases q) (by rw [arrV_size]; exact hin) rfl rfl hd fun H1 e1 e2 e3 => ?_
  refine kk l G p e s m args below meth c C H1 _ ls (jP_put hP hr e2 e3 (fun k' _ hk' => jput_ne hk') rfl rfl rfl rfl rfl (fun _ _ _ => rfl) (Or.inr ⟨by rw [hk]; decide, ⟨_, by rw [hk]; rfl⟩, ?_⟩)) (jS_put hS e2 e3 (Nat.le_add_right _ _)) hl
  rw [e1, arrV_store, hk]
  congr 2
  funext j
  by_cases hj : j = i.toNatClampNeg
  · subst hj
    simp only [updV, if_pos, jslot, hk, jput_at]
    rfl
  · simp only [updV, if_neg hj, jslot, hk, jput_sl hj]
/-- constants -/
theorem j_ldc {idx : Nat} (v : Int32) (hm : (jCn (mO M), idx, v) ∈ jCT) (hd : decode (mC M) pc = .ok (.ldc idx, 2)) (kk : WP M Q (pc + 2) lv (.int v :: st) Γ h u) : WP M Q pc lv st Γ h u := by
  intro l G p e s m args below meth c C H locs ls hP hS hl
  exact lv_ldc C.1 C.2.1 (jown C) (jword C (jCT_mem hm) rfl) hd (kk l G p e s m args below meth c C H locs ls hP hS hl)
theorem j_ldcw {idx : Nat} (v : Int32) (hm : (jCn (mO M), idx, v) ∈ jCT) (hd : decode (mC M) pc = .ok (.ldc_w idx, 3)) (kk : WP M Q (pc + 3) lv (.int v :: st) Γ h u) : WP M Q pc lv st Γ h u := by
  intro l G p e s m args below meth c C H locs ls hP hS hl
  exact lv_ldcw C.1 C.2.1 (jown C) (jword C (jCT_mem hm) rfl) hd (kk l G p e s m args below meth c C H locs ls hP hS hl)
theorem j_ldc2 {idx : Nat} (v : Int64) (hm : (jCn (mO M), idx, v) ∈ jCLT) (hd : decode (mC M) pc = .ok (.ldc2_w idx, 3)) (kk : WP M Q (pc + 3) lv (.long v :: st) Γ h u) : WP M Q pc lv st Γ h u := by
  intro l G p e s m args below meth c C H locs ls hP hS hl
  exact lv_ldc2 C.1 C.2.1 (jown C) (jword C (jCLT_mem hm) rfl) hd (kk l G p e s m args below meth c C H locs ls hP hS hl)
theorem j_ldcS {idx : Nat} (tx : String) (n : Nat) (hm : (jCn (mO M), idx, tx, n) ∈ jStr) (hd : decode (mC M) pc = .ok (.ldc idx, 2)) (kk : WP M Q (pc + 2) lv (.ref (1000 + n) :: st) Γ h u) : WP M Q pc lv st Γ h u := by
  intro l G p e s m args below meth c C H locs ls hP hS hl
  have hR := C.2.2.2.2.2.2.2.2.2.1.2.2.2.1 _ hm
  have K := kk l G p e s m args below meth c C H locs ls hP hS hl
  have ea : (Value.ref (1000 + n) :: st).map (jmv G) = .ref (G.2.2.2.1 n) :: st.map (jmv G) := by
    show Value.ref (jad G (1000 + n)) :: _ = _
    rw [jad, if_neg (by omega), Nat.add_sub_cancel_left]
  rw [ea] at K
  exact va_ldcS C.1 C.2.1 (jown C) hR hd K
/-- the script: cell 1000, read alone -/
theorem j_sld {i : Int32} (hin : vp_in i (jSc Γ).1) (hd : decode (mC M) pc = .ok (.iaload, 1)) (kk : WP M Q (pc + 1) lv (.int ((jSc Γ).2 i.toNatClampNeg) :: st) Γ h u) : WP M Q pc lv (.int i :: .ref 1000 :: st) Γ h u := by
  intro l G p e s m args below meth c C H locs ls hP hS hl
  obtain ⟨-, -, -, -, -, -, -, hX, hnA, hlt⟩ := C.2.2.2.2.2.2.2.2.2.1
  rw [hP.2.2.2.2] at hX
  have K := kk l G p e s m args below meth c C H locs ls hP hS hl
  obtain ⟨scr, h1, h2, h3, h4, h5⟩ := hX.kept (hS.2.1 _ hlt hnA)
  have hl2 : i.toNatClampNeg < (jSc Γ).1 := Nat.not_le.mp fun q => hin (Or.inr q)
  exact W.iald C.1 C.2.1 h1 h2 h3 (by rw [h4]; exact hin) (h5 _ hl2) rfl rfl hd K
theorem j_slen (v : Int32) (hv : Int32.ofNat (jSc Γ).1 = v) (hd : decode (mC M) pc = .ok (.arraylength, 1)) (kk : WP M Q (pc + 1) lv (.int v :: st) Γ h u) : WP M Q pc lv (.ref 1000 :: st) Γ h u := by
  intro l G p e s m args below meth c C H locs ls hP hS hl
  obtain ⟨-, -, -, -, -, -, -, hX, hnA, hlt⟩ := C.2.2.2.2.2.2.2.2.2.1
  rw [hP.2.2.2.2] at hX
  have K := kk l G p e s m args below meth c C H locs ls hP hS hl
  obtain ⟨scr, h1, h2, h3, h4, h5⟩ := hX.kept (hS.2.1 _ hlt hnA)
  exact W.alen C.1 C.2.1 h1 h2 (by rw [h4]; exact hv) rfl rfl hd K
theorem jS_base {l : Launch} {G : jG} {p : Program} {s : State} {m : MethodId} {args : Array Value} {meth : Method} {c : Code} (C : jC l G M p s m args meth c) {H : Heap} {locs : List Loc} (hS : va_S (jA G) s.heap H locs) : ∀ q ∈ locs, jA G q.base := hS.2.2
/-- returns -/
theorem j_iret {x : Int32} {ty : FieldType} (hr : mR M = some ty) (hn : narrow ty (.int x) = .int x) (h1 : u.1 ≤ mMc M) (h2 : u.2 ≤ mMs M) (hd : decode (mC M) pc = .ok (.ireturn, 1)) (k : Q (.inl (some (.int x))) Γ h) : WP M Q pc lv [.int x] Γ h u := by
  refine j_widen (mMc M, mMs M) h1 h2 ?_
  intro l G p e s m args below meth c C H locs ls hP hS hl
  exact vx_ret (W.zret C.1 C.2.1 (C.2.2.2.1.trans hr) hn (fun t ht hW => ⟨⟨some (.int x), Γ, h, rfl, k, by rw [ht]; exact hP⟩, hS.F ht⟩) hS.2.2 hd C.2.2.2.2.2.1)
theorem j_lret {x : Int64} (hr : mR M = some .long) (h1 : u.1 ≤ mMc M) (h2 : u.2 ≤ mMs M) (hd : decode (mC M) pc = .ok (.lreturn, 1)) (k : Q (.inl (some (.long x))) Γ h) : WP M Q pc lv [.long x] Γ h u := by
  refine j_widen (mMc M, mMs M) h1 h2 ?_
  intro l G p e s m args below meth c C H locs ls hP hS hl
  exact vx_ret (W.lret C.1 C.2.1 (C.2.2.2.1.trans hr) (fun t ht hW => ⟨⟨some (.long x), Γ, h, rfl, k, by rw [ht]; exact hP⟩, hS.F ht⟩) hS.2.2 hd C.2.2.2.2.2.1)
theorem j_vret (hr : mR M = none) (h1 : u.1 ≤ mMc M) (h2 : u.2 ≤ mMs M) (hd : decode (mC M) pc = .ok (.return_, 1)) (k : Q (.inl none) Γ h) : WP M Q pc lv [] Γ h u := by
  refine j_widen (mMc M, mMs M) h1 h2 ?_
  intro l G p e s m args below meth c C H locs ls hP hS hl
  exact vx_ret (W.vret C.1 C.2.1 (C.2.2.2.1.trans hr) (fun t ht hW => ⟨⟨none, Γ, h, rfl, k, by rw [ht]; exact hP⟩, hS.F ht⟩) hS.2.2 hd C.2.2.2.2.2.1)
end JH
