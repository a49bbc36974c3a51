/-! Operations: fault, end, box, teach. -/
section OP1
variable {sc : Nat × (Nat → Int32)} {h : jH} {A : aA} {n : Nat}
/-- a place below n -/
def aIx (a : Int32) (n : Nat) : Prop := ∃ k, k < n ∧ a = nI k
theorem aIx_in {a : Int32} {n : Nat} (hn : n < 2 ^ 31) : (¬ a < 0 ∧ ¬ nI n - 1 < a) ↔ aIx a n := by
  have e0 : (0 : Int32).toInt = 0 := rfl
  have en := nI_toInt hn
  have ra := toInt_rg a
  have e1 : (1 : Int32).toInt = 1 := rfl
  have em : (nI n - 1).toInt = (n : Int) - 1 := by rw [toInt_sub' (by omega) (by omega)]; omega
  rw [toInt_lt_iff, toInt_lt_iff, em, e0]
  constructor
  · rintro ⟨h1, h2⟩
    exact ⟨a.toInt.toNat, by omega, toInt_nn (by omega)⟩
  · rintro ⟨k, hk, rfl⟩
    have := nI_toInt (n := k) (by omega)
    omega
theorem aIx_lt {a : Int32} {n : Nat} (hn : n < 2 ^ 31) : (¬ a < 0 ∧ a < nI n) ↔ aIx a n := by
  have e0 : (0 : Int32).toInt = 0 := rfl
  have en := nI_toInt hn
  have ra := toInt_rg a
  rw [toInt_lt_iff, toInt_lt_iff, en, e0]
  constructor
  · rintro ⟨h1, h2⟩
    exact ⟨a.toInt.toNat, by omega, toInt_nn (by omega)⟩
  · rintro ⟨k, hk, rfl⟩
    have := nI_toInt (n := k) (by omega)
    omega
theorem aIx_le {a : Int32} {n : Nat} (hn : n < 2 ^ 31) : (¬ a < 0 ∧ ¬ nI n ≤ a) ↔ aIx a n := by rw [i_nle]; exact aIx_lt hn
theorem aIx_le1 {a : Int32} {n : Nat} (hn : n + 1 < 2 ^ 31) : (¬ a < 0 ∧ a ≤ nI n) ↔ aIx a (n + 1) := by
  have e0 : (0 : Int32).toInt = 0 := rfl
  have en := nI_toInt (n := n) (by omega)
  have ra := toInt_rg a
  rw [toInt_lt_iff, toInt_le_iff, en, e0]
  constructor
  · rintro ⟨h1, h2⟩
    exact ⟨a.toInt.toNat, by omega, toInt_nn (by omega)⟩
  · rintro ⟨k, hk, rfl⟩
    have := nI_toInt (n := k) (by omega)
    omega
theorem isImg.eq {h h' : jH} {o : Option aS} (k : isImg h o) (e : h' 0 6 = h 0 6) (g : ∀ I, o = some I → rC h' 39 I) : isImg h' o := by
  cases o with
  | none => exact e.trans k
  | some I => exact ⟨e.trans k.1, g I rfl⟩
theorem aIx_vp {a : Int32} {n : Nat} (hn : n < 2 ^ 31) (k : aIx a n) : vp_in a n := by obtain ⟨m, hm, rfl⟩ := k; exact vp_in_nI hm hn
/-- components' frames -/
theorem isLaw.fr {F : jF} {h h' : jH} {t : Nat} {ls : List Int32} (k : isLaw h t ls) (f : jfr F h h') (h1 : jin F t 1 = false) (h2 : ∀ j, jin F (t + 1) j = false) : isLaw h' t ls := ⟨(f _ _ h1).trans k.1, fun i hi => (f _ _ (h2 i)).trans (k.2 i hi)⟩
theorem isTries.fr {F : jF} {h h' : jH} {t : Nat} {T : aT} (k : isTries h t T) (f : jfr F h h') (h1 : jin F t 1 = false) (h2 : jin F t 2 = false) (h3 : jin F t 3 = false) (h4 : jin F t 4 = false) (h5 : jin F t 5 = false) (h9 : jin F t 9 = false) (g1 : ∀ j, jin F (t + 1) j = false) (g2 : ∀ j, jin F (t + 2) j = false) (g3 : ∀ j, jin F (t + 3) j = false) (g4 : ∀ j, jin F (t + 4) j = false) : isTries h' t T := by
  obtain ⟨e1, e2, e3, e4, e5, e6, e7, e8⟩ := k
  refine ⟨(f _ _ h1).trans e1, fun i hi => (f _ _ (g1 i)).trans (e2 i hi), (f _ _ h2).trans e3, (f _ _ h3).trans e4, (f _ _ h4).trans e5, (f _ _ h5).trans e6, (f _ _ h9).trans e7, fun i hi => ?_⟩
  obtain ⟨a, b, c⟩ := e8 i hi
  exact ⟨(f _ _ (g2 i)).trans a, (f _ _ (g3 i)).trans b, (f _ _ (g4 i)).trans c⟩
theorem isMade.fr {F : jF} {h h' : jH} {t : Nat} {ps : List (List Int32)} (k : isMade h t ps) (f : jfr F h h') (hl : ps.length ≤ 6) (h7 : jin F t 7 = false) (g : ∀ c, t + 18 ≤ c → c ≤ t + 29 → ∀ j, jin F c j = false) : isMade h' t ps :=
  ⟨(f _ _ h7).trans k.1, fun i hi => (k.2 i hi).fr f (g _ (by omega) (by omega) _) (fun j => g _ (by omega) (by omega) j)⟩
/-- cells of the made ones lie off a literal frame -/
theorem g_made {F : jF} (hF : F.1.all (fun r => Nat.blt r.2 27 || Nat.blt 38 r.1) = true ∧ F.2.all (fun r => Nat.blt r.1 27 || Nat.blt 38 r.1) = true) : ∀ c, 9 + 18 ≤ c → c ≤ 9 + 29 → ∀ j, jin F c j = false := by
  intro c h1 h2 j
  rw [jin_f]
  simp only [List.all_eq_true, Bool.or_eq_true, Nat.blt_eq] at hF
  exact ⟨fun r hr => by have := hF.1 r hr; omega, fun r hr => by have := hF.2 r hr; omega⟩
def uBox (S : aS) (b : Nat) : aS := (aBody S, aSecond S, aRuns S, aLaw S, aTr S, aTaught S, aMade S, b)
def uTaught (S : aS) (f : Nat → Int32) : aS := (aBody S, aSecond S, aRuns S, aLaw S, aTr S, f, aMade S, aBox S)
def uS (A : aA) (S : aS) : aA := (S, xI A, xT A, xF A)
def uT (A : aA) (T : List Int32) : aA := (xS A, xI A, T, xF A)
theorem RC.uS {h h' : jH} {S : aS} {F : jF} (k : RC h A) (f : jfr F h h') (hi : jin F 0 6 = false) (h39 : ∀ I, xI A = some I → rC h' 39 I) (h1 : jin F 1 1 = false) (h2 : ∀ j, jin F 2 j = false) (hf : jin F 0 1 = false) (h5 : jin F 69 5 = false) (hs : rC h' 9 S) (hm : isMends h' 75 (aBody S)) : RC h' (uS A S) := by
  refine ⟨hs, ?_, ⟨(f _ _ h1).trans k.2.2.1.1, fun i hi => (f _ _ (h2 i)).trans (k.2.2.1.2 i hi)⟩, (f _ _ hf).trans k.2.2.2.1, (f _ _ h5).trans k.2.2.2.2.1, hm⟩
  have := k.2.1
  show isImg h' (xI A)
  revert h39 this
  cases xI A with
  | none => intro _ q; exact (f _ _ hi).trans q
  | some I => intro q1 q2; exact ⟨(f _ _ hi).trans q2.1, q1 I rfl⟩
/-- the image stands when cells 39 to 68 do -/
theorem RC.img {h h' : jH} (ok : aOk n A) (k : RC h A) (g : ∀ c, 39 ≤ c → c ≤ 68 → h' c = h c) : ∀ I, xI A = some I → rC h' 39 I := by
  intro I e
  have q := k.2.1
  rw [e] at q
  exact q.2.eq (fun c h1 h2 => g c h1 (by omega)) (ok.2.1 I e).2.2.2.2.2.2.1.1
theorem g_img {F : jF} {h h' : jH} (f : jfr F h h') (hF : F.1.all (fun r => Nat.blt r.2 39 || Nat.blt 68 r.1) = true ∧ F.2.all (fun r => Nat.blt r.1 39 || Nat.blt 68 r.1) = true) : ∀ c, 39 ≤ c → c ≤ 68 → h' c = h c := by
  intro c h1 h2
  refine f.cell (fun j => ?_)
  rw [jin_f]
  simp only [List.all_eq_true, Bool.or_eq_true, Nat.blt_eq] at hF
  exact ⟨fun r hr => by have := hF.1 r hr; omega, fun r hr => by have := hF.2 r hr; omega⟩
theorem isMends.fr75 {F : jF} {h h' : jH} {p : List Int32} (k : isMends h 75 p) (f : jfr F h h') (hF : F.1.all (fun r => Nat.blt r.2 75 || Nat.blt 81 r.1) = true ∧ F.2.all (fun r => Nat.blt r.1 75 || Nat.blt 81 r.1) = true) : isMends h' 75 p := by
  simp only [List.all_eq_true, Bool.or_eq_true, Nat.blt_eq] at hF
  have g : ∀ c, 75 ≤ c → c ≤ 81 → ∀ j, jin F c j = false := fun c h1 h2 j => by rw [jin_f]; exact ⟨fun r hr => by have := hF.1 r hr; omega, fun r hr => by have := hF.2 r hr; omega⟩
  exact k.fr f (g 75 (by omega) (by omega) 6) (fun c h1 h2 j => g c (by omega) (by omega) j)
/-! fault -/
def oFault (A : aA) : aO := (0, xF A, A)
theorem ccFault (k : RC h A) : JM mX11_fault [.ref 0] (jG0 sc) h (cQ sc [] (oFault A) h) :=
  jM_of rfl (Nat.le_of_ble_eq_true rfl) (by decide +kernel) rfl (rX11_fault_0 (by rw [k.2.2.2.1]; exact cQ_v k (fun _ _ => rfl)))
theorem mmFault (k : RM h A) : JM mX12_fault [.ref 159] (jG0 sc) h (mQ sc (oFault A) h) :=
  jM_of rfl (Nat.le_of_ble_eq_true rfl) (by decide +kernel) rfl (rX12_fault_0 (by
    have e : jput h 159 0 0 159 10 = xF A := k.2.2.2
    rw [e]
    exact mQ_q k (jfr.rf.put rfl) rfl))
/-! end -/
noncomputable def oEnd (A : aA) (m : Int32) : aO := haveI := Classical.propDecidable; if aIx m ((xT A).length + 1) then (0, 1, uT A ((xT A).take m.toNatClampNeg)) else (0, 0, A)
theorem getD_take {T : List Int32} {m i : Nat} (h : i < m) : (T.take m).getD i 0 = T.getD i 0 := by
  simp only [List.getD_eq_getElem?_getD, List.getElem?_take, h, if_pos]
theorem take_ln {T : List Int32} {m : Nat} (h : m ≤ T.length) : (T.take m).length = m := by rw [List.length_take]; omega
theorem ccEnd {m : Int32} (ok : aOk n A) (k : RC h A) : JM mX11_end [.ref 0, .int m] (jG0 sc) h (cQ sc [] (oEnd A m) h) := by
  have h400 := ok.2.2.1
  have e1 : h 1 1 = nI (xT A).length := k.2.2.1.1
  refine jM_of rfl (Nat.le_of_ble_eq_true rfl) (by decide +kernel) rfl (rX11_end_0 (fun c => ?_) (fun c c2 => ?_) (fun c c2 => ?_))
  · have e : oEnd A m = (0, 0, A) := if_neg (fun q => ((aIx_lt (by omega)).mpr q).1 c)
    rw [e]; exact cQ_v k (fun _ _ => rfl)
  · have hx : aIx m ((xT A).length + 1) := (aIx_le1 (by omega)).mp ⟨c, by rw [← e1]; exact c2⟩
    have e : oEnd A m = (0, 1, uT A ((xT A).take m.toNatClampNeg)) := if_pos hx
    rw [e]
    obtain ⟨d, hd, rfl⟩ := hx
    rw [nI_clamp (by omega)]
    refine cQ_v ⟨k.1.eq (fun c h1 h2 => jput_ne (by omega)) ok.1.2.2.2.2.2.2.1.1, ?_, ⟨?_, fun i hi => ?_⟩, ?_, ?_, ?_⟩ (fun c hc => jput_ne (by omega))
    · exact k.2.1.eq rfl (k.img ok (fun c h1 h2 => jput_ne (by omega)))
    · rw [show xT (uT A (List.take d (xT A))) = List.take d (xT A) from rfl, take_ln (by omega)]; simp [jput]
    · rw [show xT (uT A (List.take d (xT A))) = List.take d (xT A) from rfl, take_ln (by omega)] at hi
      rw [show xT (uT A (List.take d (xT A))) = List.take d (xT A) from rfl, getD_take hi]
      exact k.2.2.1.2 i (by omega)
    · exact k.2.2.2.1
    · exact k.2.2.2.2.1
    · exact k.2.2.2.2.2.fr75 (jfr.rf.put (by rfl : jin ([], [(1, 1, 1)]) 1 1 = true)) ⟨rfl, rfl⟩
  · have e : oEnd A m = (0, 0, A) := if_neg (fun q => by
      obtain ⟨d, hd, rfl⟩ := q
      exact c2 (by rw [e1]; exact nI_le (by omega) (by omega)))
    rw [e]; exact cQ_v k (fun _ _ => rfl)
theorem mmEnd {m : Int32} (ok : aOk n A) (k : RM h A) : JM mX12_end [.ref 159, .int m] (jG0 sc) h (mQ sc (oEnd A m) h) := by
  have h400 := ok.2.2.1
  have e1 : jput h 159 0 0 159 5 = nI (xT A).length := k.2.2.1.1
  refine jM_of rfl (Nat.le_of_ble_eq_true rfl) (by decide +kernel) rfl (rX12_end_0 (fun c => ?_) (fun c c2 => ?_) (fun c c2 => ?_))
  · have e : oEnd A m = (0, 0, A) := if_neg (fun q => ((aIx_lt (by omega)).mpr q).1 c)
    rw [e]; exact mQ_q k (jfr.rf.put rfl) rfl
  · have hx : aIx m ((xT A).length + 1) := (aIx_le1 (by omega)).mp ⟨c, by rw [← e1]; exact c2⟩
    have e : oEnd A m = (0, 1, uT A ((xT A).take m.toNatClampNeg)) := if_pos hx
    rw [e]
    obtain ⟨d, hd, rfl⟩ := hx
    rw [nI_clamp (by omega)]
    refine jint_i ⟨fun _ => rfl, rfl, ⟨k.1, k.2.1.eq rfl rfl, ⟨?_, fun i hi => ?_⟩, k.2.2.2⟩, fun c hc => ?_⟩
    · rw [show xT ((0, 1, uT A (List.take d (xT A))) : aO).2.2 = List.take d (xT A) from rfl, take_ln (by omega)]; simp [jput]
    · rw [show xT ((0, 1, uT A (List.take d (xT A))) : aO).2.2 = List.take d (xT A) from rfl] at hi ⊢
      rw [take_ln (by omega)] at hi
      rw [getD_take hi]
      exact k.2.2.1.2 i (by omega)
    · rw [jput_ne (by omega), jput_ne (by omega)]
  · have e : oEnd A m = (0, 0, A) := if_neg (fun q => by
      obtain ⟨d, hd, rfl⟩ := q
      exact c2 (by rw [e1]; exact nI_le (by omega) (by omega)))
    rw [e]; exact mQ_q k (jfr.rf.put rfl) rfl
theorem okEnd {m : Int32} (ok : aOk n A) : aOk n (oEnd A m).2.2 := by
  unfold oEnd
  split
  · exact ⟨ok.1, ok.2.1, by have := ok.2.2.1; show (List.take _ _).length ≤ 400; rw [List.length_take]; omega, fun b hb => ok.2.2.2 b (List.mem_of_mem_take hb)⟩
  · exact ok
/-! box -/
noncomputable def oBox (A : aA) (m : Int32) : aO := haveI := Classical.propDecidable; if aIx m 16 then (0, 0, uS A (uBox (xS A) m.toNatClampNeg)) else (1, 0, A)
theorem ccBox {m : Int32} (ok : aOk n A) (k : RC h A) : JM mX11_box [.ref 0, .int m] (jG0 sc) h (fun r Γ' h' => (r = if (oBox A m).1 = 0 then .inl none else .inr "java/lang/IllegalArgumentException") ∧ Γ' = jG0 sc ∧ RC h' (oBox A m).2.2 ∧ fC h h') := by
  have no : ∀ q : ¬ aIx m 16, ∀ h', h' = h → (Sum.inr "java/lang/IllegalArgumentException" : jO) = (if (oBox A m).1 = 0 then .inl none else .inr "java/lang/IllegalArgumentException") ∧ jG0 sc = jG0 sc ∧ RC h' (oBox A m).2.2 ∧ fC h h' := fun q h' e => by
    have : oBox A m = (1, 0, A) := if_neg q
    rw [this, e]; exact ⟨rfl, rfl, k, fun _ _ => rfl⟩
  refine jM_of rfl (Nat.le_of_ble_eq_true rfl) (by decide +kernel) rfl (rX11_box_0 (fun c => no (fun q => ((aIx_lt (by omega)).mpr q).1 c) _ rfl) (fun c c2 => ?_) (fun c c2 => no (fun q => c2 ((aIx_le1 (n := 15) (by omega)).mpr q).2) _ rfl))
  have hx : aIx m 16 := (aIx_le1 (n := 15) (by omega)).mp ⟨c, c2⟩
  have e : oBox A m = (0, 0, uS A (uBox (xS A) m.toNatClampNeg)) := if_pos hx
  rw [e]
  obtain ⟨d, hd, rfl⟩ := hx
  rw [nI_clamp (by omega)]
  have f : jfr ([], [(9, 8, 8)]) h (jput h 9 8 (nI d)) := jfr.rf.put rfl
  obtain ⟨k1, k2, k3, k4, k5, k6, k7, k8⟩ := k.1
  refine ⟨rfl, rfl, k.uS f rfl (k.img ok (g_img f ⟨rfl, rfl⟩)) rfl (fun _ => rfl) rfl rfl ?_ (k.2.2.2.2.2.fr75 f ⟨rfl, rfl⟩), fC.of f ⟨rfl, rfl⟩⟩
  exact ⟨k1.fr f rfl (fun _ => rfl), k2.fr f rfl (fun _ => rfl), k3.fr f rfl (fun _ => rfl) (fun _ => rfl) (fun _ => rfl), k4.fr f rfl (fun _ => rfl), k5.fr f rfl rfl rfl rfl rfl rfl (fun _ => rfl) (fun _ => rfl) (fun _ => rfl) (fun _ => rfl), fun i hi => (f 25 i rfl).trans (k6 i hi), k7.fr f ok.1.2.2.2.2.2.2.1.1 rfl (g_made ⟨rfl, rfl⟩), by show jput h 9 8 (nI d) 9 8 = nI d; simp [jput]⟩
/-- writes to a row of the reference off its programs, runs .. -/
theorem isMP.put {w : Nat → Int32} {k j : Nat} {p : List Int32} {x : Int32} (q : isMP w k p) (hj : j < k ∨ k + 60 < j) : isMP (fun i => if i = j then x else w i) k p := by
  have := q.2.1
  refine ⟨?_, q.2.1, fun i hi a ha => ?_⟩
  · show (if k = j then x else w k) = _
    rw [if_neg (by omega)]; exact q.1
  · show (if k + 1 + 6 * i + a = j then x else w (k + 1 + 6 * i + a)) = _
    rw [if_neg (by omega)]; exact q.2.2 i hi a ha
theorem rM.put {w : Nat → Int32} {S S' : aS} {j : Nat} {x : Int32} (k : rM w S) (ok : sStOk n S) (hj : 279 ≤ j ∧ j ≤ 285) (e1 : aBody S' = aBody S) (e2 : aSecond S' = aSecond S) (e3 : aRuns S' = aRuns S) (e4 : aLaw S' = aLaw S) (e5 : aTr S' = aTr S) (e6 : aMade S' = aMade S)
    (ht : ∀ i, i < 6 → (if 279 + i = j then x else w (279 + i)) = aTaught S' i) (hb : (if 285 = j then x else w 285) = nI (aBox S')) : rM (fun i => if i = j then x else w i) S' := by
  obtain ⟨k1, k2, k3, k4, k5, k6, k7, k8⟩ := k
  have hr := ok.2.2.1.1
  obtain ⟨t1, -, -, t4⟩ := ok.2.2.2.2.1
  have hm := ok.2.2.2.2.2.2.1.1
  have g : ∀ i, i < 279 ∨ 285 < i → (if i = j then x else w i) = w i := fun i hi => if_neg (by omega)
  refine ⟨by rw [e1]; exact k1.put (by omega), by rw [e2]; exact k2.put (by omega), ?_, ?_, ?_, ht, ?_, hb⟩
  · rw [e3]
    refine ⟨(g _ (by omega)).trans k3.1, fun i hi => ?_⟩
    show (if _ then _ else _) = _ ∧ (if _ then _ else _) = _ ∧ (if _ then _ else _) = _
    rw [g _ (by omega), g _ (by omega), g _ (by omega)]; exact k3.2 i hi
  · rw [e4]
    refine ⟨(g _ (by omega)).trans k4.1, fun i hi => ?_⟩
    show (if _ then _ else _) = _ ∧ (if _ then _ else _) = _
    rw [g _ (by omega), g _ (by omega)]; exact k4.2 i hi
  · rw [e5, e1]
    obtain ⟨z1, z2, z3, z4, z5, z6, z7, z8⟩ := k5
    refine ⟨(g _ (by omega)).trans z1, fun i hi => ?_, (g _ (by omega)).trans z3, (g _ (by omega)).trans z4, (g _ (by omega)).trans z5, (g _ (by omega)).trans z6, (g _ (by omega)).trans z7, fun i hi => ?_⟩
    · show (if _ then _ else _) = _ ∧ (if _ then _ else _) = _ ∧ (if _ then _ else _) = _
      rw [g _ (by omega), g _ (by omega), g _ (by omega)]; exact z2 i hi
    · show (if _ then _ else _) = _ ∧ (if _ then _ else _) = _ ∧ (if _ then _ else _) = _
      rw [g _ (by omega), g _ (by omega), g _ (by omega)]; exact z8 i hi
  · rw [e6]
    exact ⟨(g _ (by omega)).trans k7.1, fun i hi => (k7.2 i hi).put (by omega)⟩
theorem mmBox {m : Int32} (ok : aOk n A) (k : RM h A) : JM mX12_box [.ref 159, .int m] (jG0 sc) h (jvoid sc (fun h' => h' 159 0 = nI (oBox A m).1 ∧ RM h' (oBox A m).2.2 ∧ fM h h')) := by
  refine jM_of rfl (Nat.le_of_ble_eq_true rfl) (by decide +kernel) rfl (rX12_box_0 tX12_in (fun _ _ q _ => by rw [← q.2]; exact tX12_throws0) ?_ ?_ (fun _ _ q _ => by rw [← q.2]; exact tX12_throws1) ?_ ?_)
  · rintro _ _ ⟨rfl, rfl⟩ c _ _ ⟨rfl, rfl⟩ -
    rw [sB_ne] at c
    have hx : aIx m 16 := (aIx_le1 (n := 15) (by omega)).mp ⟨c.1, i_nlt.mp c.2⟩
    have e : oBox A m = (0, 0, uS A (uBox (xS A) m.toNatClampNeg)) := if_pos hx
    rw [e]
    obtain ⟨d, hd, rfl⟩ := hx
    rw [nI_clamp (by omega)]
    refine jvoid_i ⟨rfl, ⟨?_, k.2.1.eq rfl rfl, k.2.2.1.eq rfl rfl, k.2.2.2⟩, fun c hc => by rw [jput_ne (by omega), jput_ne (by omega)]⟩
    rw [jput_eq]
    exact k.1.put ok.1 (by omega) rfl rfl rfl rfl rfl rfl (fun i hi => by rw [if_neg (by omega)]; exact k.1.2.2.2.2.2.1 i hi) (if_pos rfl)
  · rintro _ _ - - _ _ ⟨rfl, -⟩ c
    exact absurd rfl c
  · rintro _ _ - - _ _ ⟨rfl, -⟩ c
    exact absurd c (by decide)
  · rintro _ _ ⟨rfl, rfl⟩ c _ _ ⟨rfl, rfl⟩ -
    rw [sB_eq] at c
    have e : oBox A m = (1, 0, A) := if_neg (fun q => c (by have := (aIx_le1 (n := 15) (by omega)).mpr q; exact ⟨this.1, i_nlt.mpr this.2⟩))
    rw [e]
    have f : jfr fMs h (jput (jput h 159 0 0) 159 0 1) := (jfr.rf.put rfl).put rfl
    exact jvoid_i ⟨by simp [jput]; rfl, k.fr f, fM.of f ⟨rfl, rfl⟩⟩
theorem okBox {m : Int32} (ok : aOk n A) : aOk n (oBox A m).2.2 := by
  unfold oBox
  split
  · rename_i hx
    obtain ⟨d, hd, rfl⟩ := hx
    refine ⟨⟨ok.1.1, ok.1.2.1, ok.1.2.2.1, ok.1.2.2.2.1, ok.1.2.2.2.2.1, ok.1.2.2.2.2.2.1, ok.1.2.2.2.2.2.2.1, ?_⟩, ok.2⟩
    show (nI d).toNatClampNeg ≤ 15
    rw [nI_clamp (by omega)]; omega
  · exact ok
/-! teach -/
def sInc (f : Nat → Int32) (d : Nat) : Nat → Int32 := fun i => if i = d then f i + 1 else f i
noncomputable def oTeach (A : aA) (f : Int32) : aO := haveI := Classical.propDecidable; if aIx f 6 then (0, aTaught (xS A) f.toNatClampNeg + 1, uS A (uTaught (xS A) (sInc (aTaught (xS A)) f.toNatClampNeg))) else (1, 0, A)
theorem ccTeach {m : Int32} (ok : aOk n A) (k : RC h A) : JM mX11_teach [.ref 0, .int m] (jG0 sc) h (cQ sc ["java/lang/IllegalArgumentException"] (oTeach A m) h) := by
  have no : ∀ q : ¬ aIx m 6, cQ sc ["java/lang/IllegalArgumentException"] (oTeach A m) h (.inr "java/lang/IllegalArgumentException") (jG0 sc) h := fun q => by
    have : oTeach A m = (1, 0, A) := if_neg q
    rw [this]; exact cQ_x rfl k (fun _ _ => rfl)
  refine jM_of rfl (Nat.le_of_ble_eq_true rfl) (by decide +kernel) rfl (rX11_teach_0 (fun c => no (fun q => ((aIx_lt (by omega)).mpr q).1 c)) (fun c c2 => aIx_vp (by omega) ((aIx_lt (by omega)).mp ⟨c, c2⟩)) (fun c c2 => ?_) (fun c c2 => no (fun q => c2 ((aIx_lt (by omega)).mpr q).2)))
  have hx : aIx m 6 := (aIx_lt (by omega)).mp ⟨c, c2⟩
  have e : oTeach A m = (0, aTaught (xS A) m.toNatClampNeg + 1, uS A (uTaught (xS A) (sInc (aTaught (xS A)) m.toNatClampNeg))) := if_pos hx
  rw [e]
  obtain ⟨d, hd, rfl⟩ := hx
  rw [nI_clamp (by omega)]
  have f : jfr ([(25, 25)], []) h (jput h 25 d (h 25 d + 1)) := jfr.rf.put (by rw [jin_iff]; simp)
  obtain ⟨k1, k2, k3, k4, k5, k6, k7, k8⟩ := k.1
  have e6 : h 25 d = aTaught (xS A) d := k6 d hd
  have e7 : jput h 25 d (h 25 d + 1) 25 d = aTaught (xS A) d + 1 := by simp [jput, e6]
  rw [e7]
  refine cQ_v (k.uS f rfl (k.img ok (g_img f ⟨rfl, rfl⟩)) rfl (fun _ => rfl) rfl rfl ?_ (k.2.2.2.2.2.fr75 f ⟨rfl, rfl⟩)) (fC.of f ⟨rfl, rfl⟩)
  refine ⟨k1.fr f rfl (fun _ => rfl), k2.fr f rfl (fun _ => rfl), k3.fr f rfl (fun _ => rfl) (fun _ => rfl) (fun _ => rfl), k4.fr f rfl (fun _ => rfl), k5.fr f rfl rfl rfl rfl rfl rfl (fun _ => rfl) (fun _ => rfl) (fun _ => rfl) (fun _ => rfl), fun i hi => ?_, k7.fr f ok.1.2.2.2.2.2.2.1.1 rfl (g_made ⟨rfl, rfl⟩), k8⟩
  show jput h 25 d (h 25 d + 1) 25 i = if i = d then aTaught (xS A) i + 1 else aTaught (xS A) i
  by_cases q : i = d
  · subst q; rw [if_pos rfl]; exact e7
  · rw [if_neg q, jput_sl q]; exact k6 i hi
theorem mmTeach {m : Int32} (ok : aOk n A) (k : RM h A) : JM mX12_teach [.ref 159, .int m] (jG0 sc) h (mQ sc (oTeach A m) h) := by
  refine jM_of rfl (Nat.le_of_ble_eq_true rfl) (by decide +kernel) rfl (rX12_teach_0 tX12_in (fun _ _ q _ => by rw [← q.2]; exact tX12_throws0) ?_ ?_ ?_ (fun _ _ q _ => by rw [← q.2]; exact tX12_throws1) ?_ ?_ ?_)
  · rintro _ _ ⟨rfl, rfl⟩ c _ _ - -
    rw [sB_ne] at c
    obtain ⟨d, hd, rfl⟩ : aIx m 6 := (aIx_le1 (n := 5) (by omega)).mp ⟨c.1, i_nlt.mp c.2⟩
    rw [show (279 : Int32) = nI 279 from rfl, nI_add]
    exact vp_in_nI (by omega) (by decide)
  · rintro _ _ ⟨rfl, rfl⟩ c _ _ ⟨rfl, rfl⟩ -
    rw [sB_ne] at c
    have hx : aIx m 6 := (aIx_le1 (n := 5) (by omega)).mp ⟨c.1, i_nlt.mp c.2⟩
    have e : oTeach A m = (0, aTaught (xS A) m.toNatClampNeg + 1, uS A (uTaught (xS A) (sInc (aTaught (xS A)) m.toNatClampNeg))) := if_pos hx
    rw [e]
    obtain ⟨d, hd, rfl⟩ := hx
    rw [show (279 : Int32) = nI 279 from rfl, nI_add, nI_clamp (n := d) (by omega), nI_clamp (by omega)]
    have e6 : jput h 159 0 0 160 (279 + d) = aTaught (xS A) d := k.1.2.2.2.2.2.1 d hd
    rw [e6]
    refine jint_i ⟨fun _ => by simp [jput], rfl, ⟨?_, k.2.1.eq rfl rfl, k.2.2.1.eq rfl rfl, k.2.2.2⟩, fun c hc => by rw [jput_ne (by omega), jput_ne (by omega)]⟩
    rw [jput_eq]
    refine k.1.put ok.1 (by omega) rfl rfl rfl rfl rfl rfl (fun i hi => ?_) (by rw [if_neg (by omega)]; exact k.1.2.2.2.2.2.2.2)
    show _ = if i = d then aTaught (xS A) i + 1 else aTaught (xS A) i
    by_cases q : i = d
    · subst q; rw [if_pos rfl, if_pos rfl]
    · rw [if_neg (by omega), if_neg q]; exact k.1.2.2.2.2.2.1 i hi
  · rintro _ _ - - _ _ ⟨rfl, -⟩ c
    exact absurd rfl c
  · rintro _ _ - - _ _ ⟨rfl, -⟩ c
    exact absurd c (by decide)
  · rintro _ _ - - _ _ ⟨rfl, -⟩ c
    exact absurd c (by decide)
  · rintro _ _ ⟨rfl, rfl⟩ c _ _ ⟨rfl, rfl⟩ -
    rw [sB_eq] at c
    have e : oTeach A m = (1, 0, A) := if_neg (fun q => c (by have := (aIx_le1 (n := 5) (by omega)).mpr q; exact ⟨this.1, i_nlt.mpr this.2⟩))
    rw [e]
    have f : jfr fMs h (jput (jput h 159 0 0) 159 0 1) := (jfr.rf.put rfl).put rfl
    exact mQ_qx k f (by simp [jput]; rfl)
theorem okTeach {m : Int32} (ok : aOk n A) : aOk (n + 1) (oTeach A m).2.2 := by
  unfold oTeach
  split
  · have ok' := ok.up (Nat.le_succ n)
    refine ⟨⟨ok'.1.1, ok'.1.2.1, ok'.1.2.2.1, ok'.1.2.2.2.1, ok'.1.2.2.2.2.1, fun i hi => ?_, ok'.1.2.2.2.2.2.2⟩, ok'.2⟩
    obtain ⟨a, ha, e⟩ := ok.1.2.2.2.2.2.1 i hi
    show ∃ b, b ≤ n + 1 ∧ sInc _ _ i = nI b
    unfold sInc
    split
    · exact ⟨a + 1, by omega, by rw [e, nI_succ]⟩
    · exact ⟨a, by omega, e⟩
  · exact ok.up (Nat.le_succ n)
end OP1
