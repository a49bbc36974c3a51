/-! A row of references made. -/
section ANEW
variable {M : jM} {Q : jQ} {pc : Nat} {lv : List (Option Value)} {st : List Value} {Γ : jS} {h : jH} {u : Nat × Nat}
/-- what the start owes: one class of rows of programs -/
def jAO : Prop := ∀ (M : jM) (l : Launch) (G : jG) (p : Program) (s : State) (m : MethodId) (args : Array Value) (meth : Method) (c : Code), jC l G M p s m args meth c → va_AO "MendBench$Program" s
theorem jao : jAO := fun _ _ _ _ _ _ _ _ _ C => C.2.2.2.2.2.2.2.2.2.1.2.2.1.2.2
theorem j_anew (ao : jAO) {idx n : Nat} {x : Int32} (hfr : jFr Γ = true) (hN : jN Γ < 1000) (hk : jK Γ (jN Γ) = 15) (hL : jL Γ (jN Γ) = n) (hz : ∀ j, jR Γ (jN Γ) j = none) (hx0 : ¬ x < 0) (hx : x.toNatClampNeg = n) (hb : n * 4 ≤ 536870912)
    (hw : jlk (.classLink (jCn (mO M)) idx "MendBench$Program")) (hu : u.1 + 1 ≤ mMc M ∧ u.2 + n ≤ mMs M) (hd : decode (mC M) pc = .ok (.anewarray idx, 3))
    (kk : WP M Q (pc + 3) lv (.ref (jN Γ) :: st) (jUp Γ) h (u.1 + 1, u.2 + n)) : WP M Q pc lv (.int x :: st) Γ h u := by
  intro l G p e s m args below meth c C H locs ls hP hS hl
  subst hx
  have hsz := hP.2.2.2.1 hfr
  refine W.anew C.1 C.2.1 (jown C) (jword C hw.1 hw.2) (va_AO.use (ao _ _ _ _ _ _ _ _ _ C)) rfl hd rfl hx0 hb hu.1 hu.2 fun cA kA comp f1 f2 f3 f4 => ?_
  generalize hH1 : H.push ({ cls := cA, slots := Array.replicate x.toNatClampNeg .null, vm := .none } : Cell) = H1
  have z1 : H1.size = H.size + 1 := by rw [← hH1, Array.size_push]
  have e1 : H1[H.size]? = some (arrV cA x.toNatClampNeg (fun _ => .null)) := by rw [← hH1, Array.getElem?_push_size, ← arrV_new]
  have o1 : ∀ q : Nat, q < H.size → H1[q]? = H[q]? := fun q hq => by rw [← hH1, Array.getElem?_push, if_neg (Nat.ne_of_lt hq)]
  obtain ⟨kA', comp', -, -, -, g4⟩ := (C.2.2.2.2.2.2.2.2.2.1.2.1 15 _ rfl).2
  have ecA : cA = G.2.1 15 := Option.some.inj (f1.symm.trans g4)
  have cell : jAt G (jUp Γ) h H1 (jN Γ) := by
    refine Or.inr ⟨by show 13 ≤ jK Γ (jN Γ); rw [hk]; decide, ⟨_, by rw [show jK (jUp Γ) (jN Γ) = 15 from hk]; rfl⟩, ?_⟩
    rw [show jK (jUp Γ) (jN Γ) = 15 from hk, ← hsz, e1, ecA, show jL (jUp Γ) (jN Γ) = x.toNatClampNeg from hL]
    congr 2
    funext j
    have : jslot (jUp Γ) h (jN Γ) j = .null := by
      unfold jslot
      rw [show jK (jUp Γ) (jN Γ) = 15 from hk, if_pos (by rfl), show jR (jUp Γ) (jN Γ) j = none from hz j]
    rw [this]; rfl
  have K := kk l G p e s m args below meth c C H1 locs ls (jP_up hP hfr hN z1 o1 cell) (jS_up hS z1 o1) hl
  have ea : (Value.ref (jN Γ) :: st).map (jmv G) = .ref H.size :: st.map (jmv G) := by
    show Value.ref (jad G (jN Γ)) :: _ = _
    rw [hsz, jad, if_pos hN]
  rw [ea] at K
  exact K
end ANEW
