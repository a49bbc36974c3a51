/-! The world grows: new objects, new arrays. -/
section GROW
variable {M : jM} {Q : jQ} {pc : Nat} {lv : List (Option Value)} {st : List Value} {Γ : jS} {h : jH} {u : Nat × Nat}
/-- one cell more -/
def jUp (Γ : jS) : jS := (jN Γ + 1, true, jK Γ, jL Γ, jR Γ, jSc Γ)
theorem jP_up {G : jG} {H H1 : Heap} (hP : jP G Γ h H) (hfr : jFr Γ = true) (hN : jN Γ < 1000) (z1 : H1.size = H.size + 1) (o1 : ∀ q : Nat, q < H.size → H1[q]? = H[q]?) (hc : jAt G (jUp Γ) h H1 (jN Γ)) : jP G (jUp Γ) h H1 := by
  have hsz := hP.2.2.2.1 hfr
  have e1 : jN (jUp Γ) = jN Γ + 1 := rfl
  refine ⟨fun k hk => ?_, by rw [e1]; omega, by rw [e1]; omega, fun _ => by rw [e1]; omega, hP.2.2.2.2⟩
  rw [e1] at hk
  by_cases z : k = jN Γ
  · rw [z]; exact hc
  · have hb : H1[G.2.2.1 + k]? = H[G.2.2.1 + k]? := o1 _ (by omega)
    rcases hP.1 k (by omega) with ⟨r, g1, g2⟩ | ⟨g1, g2, g3⟩
    · exact Or.inl ⟨r, g1, g2.kept hb⟩
    · exact Or.inr ⟨g1, g2, hb.trans g3⟩
theorem jS_up {G : jG} {H0 H H1 : Heap} {locs : List Loc} (hS : va_S (jA G) H0 H locs) (z1 : H1.size = H.size + 1) (o1 : ∀ q : Nat, q < H.size → H1[q]? = H[q]?) : va_S (jA G) H0 H1 locs :=
  ⟨Nat.le_trans hS.1 (by omega), fun x h1 h2 => (o1 x (Nat.lt_of_lt_of_le h1 hS.1)).trans (hS.2.1 x h1 h2), hS.2.2⟩
theorem j_new {idx ci : Nat} (hc : ci < 13) (hfr : jFr Γ = true) (hN : jN Γ < 1000) (hk : jK Γ (jN Γ) = ci) (hz : ∀ j, j < jTN ci → jslot Γ h (jN Γ) j = defaultValue (jTy ci j))
    (hw1 : jlk (.classLink (jCn (mO M)) idx (jCn ci))) (hw2 : jlk (.instantiable (jCn ci) (jTN ci))) (hw3 : jlk (.initialized (jCn ci))) (hu : u.1 + 1 ≤ mMc M ∧ u.2 + jTN ci ≤ mMs M) (hd : decode (mC M) pc = .ok (.new idx, 3))
    (kk : WP M Q (pc + 3) lv (.ref (jN Γ) :: st) (jUp Γ) h (u.1 + 1, u.2 + jTN ci)) : WP M Q pc lv st Γ h u := by
  intro l G p e s m args below meth c C H locs ls hP hS hl
  have hKn := C.2.2.2.2.2.2.2.2.2.1.1 ci _ (jCl_at ci hc)
  have hsz := hP.2.2.2.1 hfr
  have hlays : ∀ w ∈ u_ws (jCn ci) (jTX ci) (jTN ci), w.before args s = true := fun w hw => jword C (jTbl (jLay_tbl ci hc w hw).1) (jLay_tbl ci hc w hw).2
  refine W.newcK C.1 C.2.1 (jown C) (jword C hw1.1 hw1.2) (jword C hw2.1 hw2.2) (jword C hw3.1 hw3.2) rfl hd hu.1 hu.2 hKn.2.1 rfl fun H1 kC hkC e1 z1 o1 => ?_
  have born := u_born (jTy ci) hlays (fun _ h => h) hKn hkC e1 (jTy_ok ci hc)
  have cell : jAt G (jUp Γ) h H1 (jN Γ) := by
    refine Or.inl ⟨_, by rw [show jK (jUp Γ) (jN Γ) = ci from hk]; exact jCl_at ci hc, ?_⟩
    rw [show jK (jUp Γ) (jN Γ) = ci from hk, ← hsz]
    refine t_OB.to born (fun j hj => ?_)
    rw [show jslot (jUp Γ) h (jN Γ) j = jslot Γ h (jN Γ) j from rfl, hz j hj]
    generalize jTy ci j = ty
    cases ty <;> rfl
  have K := kk l G p e s m args below meth c C H1 locs ls (jP_up hP hfr hN z1 o1 cell) (jS_up hS z1 o1) hl
  have ea : (Value.ref (jN Γ) :: st).map (jmv G) = .ref H.size :: st.map (jmv G) := by
    show Value.ref (jad G (jN Γ)) :: _ = _
    rw [hsz, jad, if_pos hN]
  rw [ea] at K
  exact K
theorem j_newA {at' : ArrayType} {kd n : Nat} {ty : FieldType} {x : Int32} (hty : newarray.typeOf at' = ty) (hfr : jFr Γ = true) (hN : jN Γ < 1000) (hk : jK Γ (jN Γ) = kd) (hk13 : 13 ≤ kd) (hjt : jty kd = some ty) (hno : ∀ C, ty ≠ .object C) (hL : jL Γ (jN Γ) = n) (hz : ∀ j, jslot Γ h (jN Γ) j = defaultValue ty)
    (hx0 : ¬ x < 0) (hx : x.toNatClampNeg = n) (hb : n * componentBytes ty ≤ 536870912) (hw : Cond.arrayClass ty ∈ lw_tbl) (hw2 : goodWord (Cond.arrayClass ty) = true) (hu : u.1 + 1 ≤ mMc M ∧ u.2 + n ≤ mMs M) (hd : decode (mC M) pc = .ok (.newarray at', 2))
    (kk : WP M Q (pc + 2) lv (.ref (jN Γ) :: st) (jUp Γ) h (u.1 + 1, u.2 + n)) : WP M Q pc lv (.int x :: st) Γ h u := by
  intro l G p e s m args below meth c C H locs ls hP hS hl
  subst hty
  have hsz := hP.2.2.2.1 hfr
  refine va_newaK C.1 C.2.1 (jword C hw hw2) rfl hd rfl hx0 hx hb hu.1 hu.2 rfl fun H1 cA e1 z1 o1 hAr hNm => ?_
  have hRA := (C.2.2.2.2.2.2.2.2.2.1.2.1 kd _ hjt).2
  have ecA : cA = G.2.1 kd := by
    have : s.vm.findClass ("[" ++ (newarray.typeOf at').toString) = some (G.2.1 kd) := by
      cases at' <;> exact hRA
    exact Option.some.inj (hNm.symm.trans this)
  have cell : jAt G (jUp Γ) h H1 (jN Γ) := by
    refine Or.inr ⟨by show 13 ≤ jK Γ (jN Γ); omega, ⟨_, by rw [show jK (jUp Γ) (jN Γ) = kd from hk]; exact hjt⟩, ?_⟩
    rw [show jK (jUp Γ) (jN Γ) = kd from hk, ← hsz, e1, ecA, show jL (jUp Γ) (jN Γ) = n from hL]
    congr 2
    funext j
    rw [show jslot (jUp Γ) h (jN Γ) j = jslot Γ h (jN Γ) j from rfl, hz j]
    cases at' <;> rfl
  have K := kk l G p e s m args below meth c C H1 locs ls (jP_up hP hfr hN z1 o1 cell) (jS_up hS z1 o1) hl
  have ea : (Value.ref (jN Γ) :: st).map (jmv G) = .ref H.size :: st.map (jmv G) := by
    show Value.ref (jad G (jN Γ)) :: _ = _
    rw [hsz, jad, if_pos hN]
  rw [ea] at K
  exact K
/-- a reference is stored -/
def jRset (Γ : jS) (r k a : Nat) : jS := (jN Γ, jFr Γ, jK Γ, jL Γ, fun x i => if x = r ∧ i = k then some a else jR Γ x i, jSc Γ)
theorem j_putR {idx ci k r a : Nat} (hm : (mO M, idx, ci, k, false) ∈ jFT) (hf : jrefs ci k = true) (hfin : (jTX ci k).2.2.2 = true) (hini : (mY M).name = "<init>") (hown : ci = mO M) (hnar : ∀ q, narrow (jTy ci k) (.ref q) = .ref q) (hfit : ∀ q, fits (jTy ci k) (.ref q) = true) (hr : r < jN Γ) (hk : jK Γ r = ci) (hd : decode (mC M) pc = .ok (.putfield idx, 3))
    (kk : WP M Q (pc + 3) lv st (jRset Γ r k a) h u) : WP M Q pc lv (.ref a :: .ref r :: st) Γ h u := by
  intro l G p e s m args below meth c C H locs ls hP hS hl
  obtain ⟨hw, hc, hkN⟩ := jFT_mem hm
  have hc : ci < 13 := hc
  have hkN : k < jTN ci := hkN
  obtain ⟨⟨cell, q1, q2, q3, q4⟩, hSl, hfc, kC, hkC, hkind⟩ := jobj C hP hr hk hc
  obtain ⟨cf, kf, fi, f, hi, hsl⟩ := hSl k hkN
  have hlays : ∀ w ∈ u_ws (jCn ci) (jTX ci) (jTN ci), w.before args s = true := fun w hw => jword C (jTbl (jLay_tbl ci hc w hw).1) (jLay_tbl ci hc w hw).2
  have hst := (u_facts hfc hkC (u_lays hlays (fun _ h => h) hkN) hi).1
  have hlay := hlays _ (u_in_lay hkN)
  unfold u_lay at hlay
  rw [if_pos hfin] at hlay
  have hcf : m.cls = cf := by
    obtain ⟨_, _, c', _, _, _, -, -, hf', -, -, -, hown2, -⟩ := Cond.laysFinal_spec hlay
    have e1 : c' = cf := by have := hi.symm.trans hf'; simp at this; exact this.1.symm
    rw [jTO_ok ci hc k hkN] at hown2
    have := jown C
    rw [← hown] at this
    rw [← e1]; exact Option.some.inj (this.symm.trans hown2)
  have h6 := u_fits hfc hkC hkind (Or.inr hlay) hi (jTy_ok ci hc k hkN) (hnar (jad G a)) (hfit (jad G a))
  have hap : ∀ x y, x < jTN ci → y < jTN ci → x ≠ y → (G.1.2 ci) x ≠ (G.1.2 ci) y := by
    intro x y hx hy hne
    obtain ⟨_, _, _, fa, hia, ea⟩ := hSl x hx
    obtain ⟨_, _, _, fb, hib, eb⟩ := hSl y hy
    rw [← ea, ← eb]
    refine u_apart (u_lays hlays (fun _ h => h) hx) (u_lays hlays (fun _ h => h) hy) hia hib ?_
    rw [(State.fieldFound?_type hia (jTy_ok ci hc x hx)).1, (State.fieldFound?_type hib (jTy_ok ci hc y hy)).1]
    exact jNm_ok ci hc x hx y hy hne
  have hlt : f.slot < cell.slots.size := by rw [hsl]; exact k2_hasslot (q4 k hkN)
  have hcell : ∀ H1 : Heap, H1[G.2.2.1 + r]? = some (cell.setSlot f.slot (.ref (jad G a))) → jAt G (jRset Γ r k a) h H1 r := by
    intro H1 e1
    refine Or.inl ⟨_, by rw [show jK (jRset Γ r k a) r = ci from hk]; exact jCl_at ci hc, ?_⟩
    rw [show jK (jRset Γ r k a) r = ci from hk]
    refine ⟨_, e1, q2, q3, fun j hj => ?_⟩
    rw [hsl]
    rw [t_set q4 hap hkN (.ref (jad G a)) j hj]
    congr 1
    by_cases hjk : j = k
    · subst hjk
      have : jslot (jRset Γ r j a) h r j = .ref a := by
        unfold jslot
        rw [show jK (jRset Γ r j a) r = ci from hk, if_pos hf, show jR (jRset Γ r j a) r j = some a from if_pos ⟨rfl, rfl⟩]
      show updV (fun j => jmv G (jslot Γ h r j)) j (Value.ref (jad G a)) j = jmv G (jslot (jRset Γ r j a) h r j)
      rw [this]
      simp only [updV, if_pos]
      rfl
    · have : jslot (jRset Γ r k a) h r j = jslot Γ h r j := by
        unfold jslot
        rw [show jR (jRset Γ r k a) r j = jR Γ r j from if_neg (fun z => hjk z.2)]; rfl
      show updV (fun j => jmv G (jslot Γ h r j)) k (Value.ref (jad G a)) j = jmv G (jslot (jRset Γ r k a) h r j)
      rw [this]
      simp only [updV, if_neg hjk]
  have ea : (Value.ref a :: .ref r :: st).map (jmv G) = .ref (jad G a) :: .ref (G.2.2.1 + r) :: st.map (jmv G) := by
    show _ :: Value.ref (jad G r) :: _ = _
    rw [jad_lt hP hr]; rfl
  rw [ea]
  rw [jTO_ok ci hc k hkN] at hi
  refine W.putFinK C.1 C.2.1 (jown C) (jword C hw rfl) hi hst hcf (C.2.2.2.2.2.2.1.trans hini) (by rw [q2]; exact h6) q1 q3 hlt rfl rfl hd fun H1 e1 e2 e3 => ?_
  exact kk l G p e s m args below meth c C H1 (locs ++ [⟨G.2.2.1 + r, f.slot⟩]) ls (jP_put hP hr e2 e3 (fun _ _ _ => rfl) rfl rfl rfl rfl rfl (fun x i hx => if_neg (fun z => hx z.1)) (hcell H1 e1)) (jS_put hS e2 e3 (Nat.le_add_right _ _)) hl
end GROW
