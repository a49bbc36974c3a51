/-! Operation takeBack: the reference. -/
section OP18
variable {sc : Nat × (Nat → Int32)} {h : jH} {A : aA} {n : Nat} {p q : List Int32} {rs : List aRun} {T : aT}
theorem rM_body {w w' : Nat → Int32} {S : aS} {ms : List (List Int32)} (k : rM w S) (ok : sStOk n S) (e : ∀ i, (61 ≤ i ∧ i < 159) ∨ (279 ≤ i ∧ i < 286) ∨ 653 ≤ i → w' i = w i) (hp : isMP w' 0 p) (ht : isMTries w' p T) (hm : isMMade w' ms) : rM w' (uBody S p T ms) := by
  obtain ⟨k1, k2, k3, k4, k5, k6, k7, k8⟩ := k
  have hr := ok.2.2.1.1
  refine ⟨hp, ?_, ⟨(e _ (by omega)).trans k3.1, fun i hi => ?_⟩, ⟨(e _ (by omega)).trans k4.1, fun i hi => ?_⟩, ht, fun i hi => (e _ (by omega)).trans (k6 i hi), hm, (e _ (by omega)).trans k8⟩
  · have := k2.2.1
    exact ⟨(e _ (by omega)).trans k2.1, k2.2.1, fun i hi a ha => (e _ (by have : i < (aSecond S).length := hi; omega)).trans (k2.2.2 i hi a ha)⟩
  · have hi' : i < (aRuns S).length := hi
    rw [e _ (by omega), e _ (by omega), e _ (by omega)]; exact k3.2 i hi
  · rw [e _ (by omega), e _ (by omega)]; exact k4.2 i hi
theorem tX12_forgets : JM mX12_forgets [.ref 159] (jG0 sc) h (jvoid sc (fun h' => (∀ p, isMTries (h' 160) p tNone) ∧ jfr ([], [(160, 159, 163), (160, 254, 254)]) h h')) := by
  refine jM_of rfl (Nat.le_of_ble_eq_true rfl) (by decide +kernel) rfl (bX12_forgets_0 (bX12_forgets_43 (vp_in_nI (n := 163) (by decide) (by decide)) (jvoid_i ⟨fun p => ⟨rfl, fun i hi => absurd hi (Nat.not_lt_zero _), rfl, rfl, rfl, rfl, rfl, fun i hi => absurd hi (Nat.not_lt_zero _)⟩, ?_⟩)))
  exact (((((jfr.rf.put rfl).put rfl).put rfl).put rfl).put rfl).put rfl
theorem mmTakeBack (ok : aOk n A) (k : RM h A) : JM mX12_takeBack [.ref 159] (jG0 sc) h (mQ sc (oTakeBack A) h) := by
  have h6 := ok.1.2.2.2.2.2.2.1.1
  obtain ⟨m1, m2⟩ := k.1.2.2.2.2.2.2.1
  generalize hL : (aMade (xS A)).length = L at *
  have m1' : jput h 159 0 0 160 286 = nI L := m1
  by_cases z : L = 0
  · have eo : oTakeBack A = (0, 0, A) := if_pos (by rw [hL]; exact z)
    rw [eo]
    exact jM_of rfl (Nat.le_of_ble_eq_true rfl) (by decide +kernel) rfl (bX12_takeBack_0 (fun c => absurd (by rw [m1', z]; rfl) c) (fun _ => bX12_takeBack_16 (mQ_q k (jfr.rf.put rfl) rfl)))
  · obtain ⟨m, rfl⟩ : ∃ m, L = m + 1 := ⟨L - 1, by omega⟩
    have eo : oTakeBack A = (0, 1, uS A (uBody (xS A) ((aMade (xS A)).getD m []) tNone ((aMade (xS A)).take m))) := by unfold oTakeBack; rw [if_neg (by rw [hL]; exact z), hL]; rfl
    rw [eo]
    have e1 : nI (m + 1) - 1 = nI m := by rw [nI_succ]; exact Int32.add_sub_cancel _ _
    refine jM_of rfl (Nat.le_of_ble_eq_true rfl) (by decide +kernel) rfl (bX12_takeBack_0 (fun _ => bX12_takeBack_18 ?_) (fun c => absurd c (by rw [m1', show (0 : Int32) = nI 0 from rfl, jn_eq (by omega) (by omega)]; omega)))
    rw [m1', e1]
    refine jloop (fun i h1 => WP mX12_takeBack _ 32 [some (.ref 159), some (.int (nI i))] [] (jG0 sc) h1 (0, 0)) (fun i h1 => (∀ j, j < i → h1 160 j = h 160 (287 + 61 * m + j)) ∧ h1 160 286 = nI m ∧ jfr ([], [(159, 0, 0), (160, 0, 60), (160, 286, 286)]) h h1 ∧ h1 159 0 = 0) 61 ?_ ?_ 0 _ (by omega) ⟨fun j hj => absurd hj (by omega), jput_at, (jfr.rf.put rfl).put rfl, rfl⟩
    · rintro h1 ⟨i1, i0, f, i3⟩
      refine bX12_takeBack_32 (fun _ => bX12_takeBack_74 tX12_forgets (fun h2 y => ?_)) (fun c => absurd (by decide) c)
      have g : ∀ j, (61 ≤ j ∧ j < 159) ∨ (279 ≤ j ∧ j < 286) ∨ 287 ≤ j → h2 160 j = h 160 j := fun j hj => (y.2 160 j (by rw [jin_f]; simp; omega)).trans (f 160 j (by rw [jin_f]; simp; omega))
      have g2 : ∀ j, j < 61 → h2 160 j = h1 160 j := fun j hj => y.2 160 j (by rw [jin_f]; simp; omega)
      have f3 : jfr ([], [(159, 0, 0), (160, 0, 286)]) h h2 := (f.mono rfl).tr2 (y.2.mono rfl)
      refine jint_i ⟨fun _ => rfl, (y.2 159 0 rfl).trans i3, ⟨?_, k.2.1.eq (f3 159 3 rfl) (f3.cell (fun _ => rfl)), k.2.2.1.eq (f3 159 5 rfl) (f3.cell (fun _ => rfl)), (f3 159 10 rfl).trans k.2.2.2⟩, fM.of f3 ⟨rfl, rfl⟩⟩
      refine rM_body (w := h 160) k.1 ok.1 (fun j hj => g j (by omega)) (isMP.copy (m2 m (by omega)) (fun j hj => (g2 j hj).trans (i1 j hj))) (y.1 _) ⟨?_, fun i hi => ?_⟩
      · rw [List.length_take, hL, Nat.min_eq_left (by omega)]
        exact (y.2 160 286 rfl).trans i0
      · rw [List.length_take, hL] at hi
        rw [getD_takeP (by omega)]
        have := m2 i (by omega)
        have l10 := this.2.1
        exact ⟨(g _ (by omega)).trans this.1, this.2.1, fun a ha b hb => (g _ (by omega)).trans (this.2.2 a ha b hb)⟩
    · rintro i h1 hi ⟨i1, i0, f, i3⟩ kk
      have hi' : i < 2 ^ 31 := by omega
      have eA : (287 : Int32) + 61 * nI m + nI i = nI (287 + 61 * m + i) := by rw [show (61 : Int32) = nI 61 from rfl, show (287 : Int32) = nI 287 from rfl, pk_mul, nI_add, nI_add]
      have eB : (0 : Int32) + nI i = nI i := Int32.zero_add _
      refine bX12_takeBack_32 (fun c => absurd ((jn_le (a := 61) (by decide) hi').mp c) (by omega)) (fun _ => bX12_takeBack_38 (by rw [i0, eA]; exact vp_in_nI (by omega) (by decide)) (by rw [eB]; exact vp_in_nI (by omega) (by decide)) ?_)
      rw [i0, eA, eB, nI_clamp hi', nI_clamp (by omega), ← nI_succ]
      refine kk _ ⟨fun j hj => ?_, by rw [jput_sl (by omega)]; exact i0, f.put (by rw [jin_iff]; simp; omega), i3⟩
      by_cases w : j = i
      · subst w; rw [jput_at]; exact f 160 _ (by rw [jin_f]; simp; omega)
      · rw [jput_sl w]; exact i1 j (by omega)
end OP18
