/-! Operations image, back. -/
section OP14
variable {sc : Nat × (Nat → Int32)} {h : jH} {A : aA} {n : Nat} {p q : List Int32} {rs : List aRun} {T : aT}
theorem rM_eqw {w w' : Nat → Int32} {S : aS} (k : rM w S) (ok : sStOk n S) (e : ∀ i, i < 1454 → w' i = w i) : rM w' S := by
  obtain ⟨k1, k2, k3, k4, k5, k6, k7, k8⟩ := k
  have hr := ok.2.2.1.1
  have hm := ok.2.2.2.2.2.2.1.1
  have hl := ok.2.2.2.1.2.2.2
  have hp : ∀ {c : Nat} {q : List Int32}, isMP w c q → c + 60 < 1454 → isMP w' c q := fun {c q} z hc => by
    have := z.2.1
    exact ⟨(e _ (by omega)).trans z.1, z.2.1, fun i hi a ha => (e _ (by omega)).trans (z.2.2 i hi a ha)⟩
  refine ⟨hp k1 (by omega), hp k2 (by omega), ⟨(e _ (by omega)).trans k3.1, fun i hi => ?_⟩, ⟨(e _ (by omega)).trans k4.1, fun i hi => ?_⟩, k5.eqw (fun i _ _ => e i (by omega)) ok.2.2.2.2.1.1 ok.2.2.2.2.1.2.2.2, fun i hi => (e _ (by omega)).trans (k6 i hi), ⟨(e _ (by omega)).trans k7.1, fun i hi => hp (k7.2 i hi) (by omega)⟩, (e _ (by omega)).trans k8⟩
  · rw [e _ (by omega), e _ (by omega), e _ (by omega)]; exact k3.2 i hi
  · rw [e _ (by omega), e _ (by omega)]; exact k4.2 i hi
def oImage (A : aA) : aO := (0, 0, (xS A, some (xS A), xT A, xF A))
theorem okImage (ok : aOk n A) : aOk n (oImage A).2.2 := ⟨ok.1, fun I e => by cases e; exact ok.1, ok.2.2⟩
theorem ccImage (ok : aOk n A) (k : RC h A) : JM mX11_image [.ref 0] (jG0 sc) h (jvoid sc (fun h' => RC h' (oImage A).2.2 ∧ fC h h')) := by
  refine jM_of rfl (Nat.le_of_ble_eq_true rfl) (by decide +kernel) rfl (rX11_image_0 (tX6_image k.1 ok.1) (fun h1 z => jvoid_i ?_))
  have f : jfr ([(40, 68)], [(39, 7, 8), (0, 6, 6)]) h (jput h1 0 6 1) := (z.2.mono rfl).put rfl
  refine ⟨⟨k.1.eq (fun c h1 h2 => f.cell (fun j => by rw [jin_f]; simp; omega)) ok.1.2.2.2.2.2.2.1.1, ⟨rfl, z.1.eq (fun c h1 h2 => jput_ne (by omega)) ok.1.2.2.2.2.2.2.1.1⟩, ⟨(f 1 1 rfl).trans k.2.2.1.1, fun i hi => (f 2 i rfl).trans (k.2.2.1.2 i hi)⟩, (f 0 1 rfl).trans k.2.2.2.1, (f 69 5 rfl).trans k.2.2.2.2.1, k.2.2.2.2.2.fr75 f ⟨rfl, rfl⟩⟩, fC.of f ⟨rfl, rfl⟩⟩
theorem mmImage (ok : aOk n A) (k : RM h A) : JM mX12_image [.ref 159] (jG0 sc) h (jvoid sc (fun h' => h' 159 0 = 0 ∧ RM h' (oImage A).2.2 ∧ fM h h')) := by
  refine jM_of rfl (Nat.le_of_ble_eq_true rfl) (by decide +kernel) rfl (bX12_image_0 ?_)
  refine jloop (fun i h1 => WP mX12_image _ 7 [some (.ref 159), some (.int (nI i))] [] (jG0 sc) h1 (0, 0)) (fun i h1 => (∀ j, j < i → h1 161 j = h 160 j) ∧ jfr ([(161, 161)], [(159, 0, 0)]) h h1 ∧ h1 159 0 = 0) 1454 ?_ ?_ 0 _ (by omega) ⟨fun j hj => absurd hj (by omega), jfr.rf.put rfl, rfl⟩
  · rintro h1 ⟨i1, i2, i3⟩
    refine bX12_image_7 (fun _ => bX12_image_32 (jvoid_i ?_)) (fun c => absurd (by decide) c)
    have f : jfr ([(161, 161)], [(159, 0, 0), (159, 3, 3)]) h (jput h1 159 3 1) := (i2.mono rfl).put rfl
    refine ⟨i3, ⟨by rw [f.cell (k := 160) (fun _ => rfl)]; exact k.1, ⟨rfl, rM_eqw k.1 ok.1 i1⟩, k.2.2.1.eq (f 159 5 rfl) (f.cell (fun _ => rfl)), (f 159 10 rfl).trans k.2.2.2⟩, fM.of f ⟨rfl, rfl⟩⟩
  · rintro i h1 hi ⟨i1, i2, i3⟩ kk
    have hi' : i < 2 ^ 31 := by omega
    refine bX12_image_7 (fun c => absurd ((jn_le (a := 1454) (by decide) hi').mp c) (by omega)) (fun _ => bX12_image_14 (vp_in_nI hi (by decide)) (vp_in_nI hi (by decide)) ?_)
    rw [← nI_succ, nI_clamp hi', i2.cell (k := 160) (fun _ => rfl)]
    refine kk _ ⟨fun j hj => ?_, i2.put (by rw [jin_iff]; simp), i3⟩
    by_cases z : j = i
    · subst z; rw [jput_at]
    · rw [jput_sl z]; exact i1 j (by omega)
def oBack (A : aA) : aO := match xI A with
  | none => (0, 0, A)
  | some I => (0, 1, (I, some I, xT A, xF A))
theorem okBack (ok : aOk n A) : aOk n (oBack A).2.2 := by
  unfold oBack
  split
  · exact ok
  · rename_i I e
    exact ⟨ok.2.1 I e, fun J q => by cases q; exact ok.2.1 I e, ok.2.2⟩
theorem ccBack (ok : aOk n A) (k : RC h A) : JM mX11_back [.ref 0] (jG0 sc) h (cQ sc [] (oBack A) h) := by
  have a_h : jI4 10 := by unfold jI4; decide
  have t_h : jI3 75 := by unfold jI3; decide
  have ki := k.2.1
  unfold oBack
  cases e : xI A with
  | none =>
    rw [e] at ki
    have ki : h 0 6 = 0 := ki
    exact jM_of rfl (Nat.le_of_ble_eq_true rfl) (by decide +kernel) rfl (rX11_back_0 (P1 := fun _ => True) (P2 := fun _ => True) (fun c => absurd ki c) (fun c => absurd ki c) (fun c => absurd ki c) (fun _ => cQ_v k (fun _ _ => rfl)))
  | some I =>
    rw [e] at ki
    obtain ⟨ki1, ki2⟩ := ki
    have okI := ok.2.1 I e
    refine jM_of rfl (Nat.le_of_ble_eq_true rfl) (by decide +kernel) rfl (rX11_back_0 (fun _ => tX6_back ki2 okI) (P2 := fun h' => rC h' 9 I ∧ isMends h' 75 (aBody I) ∧ jfr ([(10, 38), (76, 81)], [(9, 7, 8), (75, 6, 8)]) h h') (fun _ h1 z => ?_) (fun _ h1 _ h2 z => ?_) (fun c => absurd (ki1.symm.trans c) (by decide)))
    · refine jM_void (tX3_of t_h a_h (Or.inl (by decide)) z.1.1 okI.1) (fun h' y => ?_)
      have f : jfr ([(76, 81)], [(75, 6, 8)]) h1 h' := y.2.mono rfl
      exact ⟨z.1.eq (fun c h1 h2 => f.cell (fun j => by rw [jin_f]; simp; omega)) okI.2.2.2.2.2.2.1.1, y.1, (z.2.mono rfl).tr2 (f.mono rfl)⟩
    · obtain ⟨z1, z2, f⟩ := z
      refine cQ_v ⟨z1, ⟨(f 0 6 rfl).trans ki1, ki2.eq (fun c h1 h2 => f.cell (fun j => by rw [jin_f]; simp; omega)) okI.2.2.2.2.2.2.1.1⟩, ⟨(f 1 1 rfl).trans k.2.2.1.1, fun i hi => (f 2 i rfl).trans (k.2.2.1.2 i hi)⟩, (f 0 1 rfl).trans k.2.2.2.1, (f 69 5 rfl).trans k.2.2.2.2.1, z2⟩ (fC.of f ⟨rfl, rfl⟩)
theorem mmBack (ok : aOk n A) (k : RM h A) : JM mX12_back [.ref 159] (jG0 sc) h (mQ sc (oBack A) h) := by
  have ki := k.2.1
  unfold oBack
  cases e : xI A with
  | none =>
    rw [e] at ki
    have ki : jput h 159 0 0 159 3 = 0 := ki
    exact jM_of rfl (Nat.le_of_ble_eq_true rfl) (by decide +kernel) rfl (bX12_back_0 (fun c => absurd ki c) (fun _ => bX12_back_12 (mQ_q k (jfr.rf.put rfl) rfl)))
  | some I =>
    rw [e] at ki
    obtain ⟨ki1, ki2⟩ := ki
    have okI := ok.2.1 I e
    refine jM_of rfl (Nat.le_of_ble_eq_true rfl) (by decide +kernel) rfl (bX12_back_0 (fun _ => bX12_back_14 ?_) (fun c => absurd (ki1.symm.trans c) (by decide)))
    refine jloop (fun i h1 => WP mX12_back _ 16 [some (.ref 159), some (.int (nI i))] [] (jG0 sc) h1 (0, 0)) (fun i h1 => (∀ j, j < i → h1 160 j = h 161 j) ∧ jfr ([(160, 160)], [(159, 0, 0)]) h h1 ∧ h1 159 0 = 0) 1454 ?_ ?_ 0 _ (by omega) ⟨fun j hj => absurd hj (by omega), jfr.rf.put rfl, rfl⟩
    · rintro h1 ⟨i1, f, i3⟩
      refine bX12_back_16 (fun _ => bX12_back_41 ?_) (fun c => absurd (by decide) c)
      refine jint_i ⟨fun _ => rfl, i3, ⟨rM_eqw ki2 okI i1, ⟨(f 159 3 rfl).trans ki1, by rw [f.cell (k := 161) (fun _ => rfl)]; exact ki2⟩, k.2.2.1.eq (f 159 5 rfl) (f.cell (fun _ => rfl)), (f 159 10 rfl).trans k.2.2.2⟩, fM.of f ⟨rfl, rfl⟩⟩
    · rintro i h1 hi ⟨i1, i2, i3⟩ kk
      have hi' : i < 2 ^ 31 := by omega
      refine bX12_back_16 (fun c => absurd ((jn_le (a := 1454) (by decide) hi').mp c) (by omega)) (fun _ => bX12_back_23 (vp_in_nI hi (by decide)) (vp_in_nI hi (by decide)) ?_)
      rw [← nI_succ, nI_clamp hi', i2.cell (k := 161) (fun _ => rfl)]
      refine kk _ ⟨fun j hj => ?_, i2.put (by rw [jin_iff]; simp), i3⟩
      by_cases z : j = i
      · subst z; rw [jput_at]
      · rw [jput_sl z]; exact i1 j (by omega)
end OP14
