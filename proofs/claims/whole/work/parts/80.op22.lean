/-! Operation make: the class. -/
section OP22
variable {sc : Nat × (Nat → Int32)} {h : jH} {A : aA} {n : Nat} {p : List Int32} {ms : List (List Int32)}
noncomputable def oMake (A : aA) (i : Int32) : aO := sIf (aIx i (aKept A).length) (0, nI (sPush (aMade (xS A)) (aBody (xS A))).length, uS A (uBody (xS A) (sShape (aBody (xS A)) ((aKept A).getD i.toNatClampNeg 0)) tNone (sPush (aMade (xS A)) (aBody (xS A))))) (1, 0, A)
theorem sPush_len (h6 : ms.length ≤ 6) : (sPush ms p).length ≤ 6 := by
  unfold sPush
  rw [List.length_append, List.length_singleton]
  split
  · rw [List.length_drop]; omega
  · omega
theorem sPush_mem {q : List Int32} (hq : q ∈ sPush ms p) : q ∈ ms ∨ q = p := by
  unfold sPush at hq
  rcases List.mem_append.mp hq with e | e
  · refine Or.inl ?_
    split at e
    · exact List.mem_of_mem_drop e
    · exact e
  · exact Or.inr (List.mem_singleton.mp e)
theorem okMake {i : Int32} (ok : aOk n A) : aOk n (oMake A i).2.2 := by
  unfold oMake
  by_cases q : aIx i (aKept A).length
  · rw [sIf_t q]
    refine okBody ok (sProg_sh ok.1.1) (sPush_len ok.1.2.2.2.2.2.2.1.1) (fun q hq => ?_)
    rcases sPush_mem hq with e | e
    · exact ok.1.2.2.2.2.2.2.1.2 q e
    · rw [e]; exact ok.1.1
  · rw [sIf_f q]; exact ok
theorem ccMake {i : Int32} (ok : aOk n A) (k : RC h A) : JM mX11_make [.ref 0, .int i] (jG0 sc) h (cQ sc ["java/lang/IndexOutOfBoundsException"] (oMake A i) h) := by
  have b_h : jI4 89 := by unfold jI4; decide
  have a_h : jI4 10 := by unfold jI4; decide
  have h6 := ok.1.2.2.2.2.2.2.1.1
  generalize hsh : sShape (aBody (xS A)) ((aKept A).getD i.toNatClampNeg 0) = sh
  have osh : sProg sh := by rw [← hsh]; exact sProg_sh ok.1.1
  refine jM_of rfl (Nat.le_of_ble_eq_true rfl) (by decide +kernel) rfl (rX11_make_0 (tX11_keptNumber ok k) (P2 := fun _ h' => isP h' 89 sh ∧ jfr ([(90, 90)], [(89, 1, 1), (75, 7, 8)]) h h') ?_
    (P3 := fun h' => isMade h' 9 (sPush (aMade (xS A)) (aBody (xS A))) ∧ isP h' 89 sh ∧ jfr ([(27, 38), (90, 90)], [(9, 7, 7), (89, 1, 1), (75, 7, 8)]) h h') ?_
    (P4 := fun h' => isMade h' 9 (sPush (aMade (xS A)) (aBody (xS A))) ∧ isP h' 10 sh ∧ jfr ([(11, 11), (27, 38), (90, 90)], [(9, 7, 7), (10, 1, 1), (89, 1, 1), (75, 7, 8)]) h h') ?_
    (P5 := fun h' => isMade h' 9 (sPush (aMade (xS A)) (aBody (xS A))) ∧ isP h' 10 sh ∧ isTries h' 20 tNone ∧ isMends h' 75 sh ∧ jfr ([(11, 11), (27, 38), (76, 81), (90, 90)], [(9, 7, 7), (10, 1, 1), (20, 1, 9), (89, 1, 1), (75, 6, 8)]) h h') ?_ ?_ ?_)
  · rintro _ _ ⟨e, rfl⟩ c
    rw [e] at c ⊢
    rw [kn_ne ok, Classical.not_not] at c
    rw [sIf_t c, ← hsh]
    exact jM_int (tX3_kept b_h (Or.inr (by decide)) (Or.inr (by decide)) ok k.2.2.2.2.2 k.1.1 c) (fun x h' y => ⟨y.1, y.2⟩)
  · rintro _ _ - - x2 h2 ⟨y1, y2⟩
    refine jM_void (tX6_pushBody (k.1.1.fr y2 rfl (fun _ => rfl)) (k.1.2.2.2.2.2.2.1.fr y2 h6 rfl (g_made ⟨rfl, rfl⟩)) h6) (fun h' z => ⟨z.1, y1.fr z.2 rfl (fun _ => rfl), (y2.mono rfl).tr2 (z.2.mono rfl)⟩)
  · rintro _ _ - - x2 h2 - h3 ⟨y0, y1, y2⟩
    refine jM_void (tX4_copyOf a_h b_h y1 (by omega)) (fun h' z => ?_)
    have f : jfr ([(11, 11)], [(10, 1, 1)]) h3 h' := z.2
    exact ⟨y0.fr f (sPush_len h6) rfl (g_made ⟨rfl, rfl⟩), z.1, (y2.mono rfl).tr2 (f.mono rfl)⟩
  · rintro _ _ - - x2 h2 - h3 - h4 ⟨y0, y1, y2⟩
    refine jM_void (tX11_beginAnew y1 osh) (fun h' z => ⟨y0.fr z.2.2 (sPush_len h6) rfl (g_made ⟨rfl, rfl⟩), y1.fr z.2.2 rfl (fun _ => rfl), z.1, z.2.1, (y2.mono rfl).tr2 (z.2.2.mono rfl)⟩)
  · rintro _ _ ⟨e, rfl⟩ c x2 h2 - h3 - h4 - h5 ⟨y0, y1, y2, y3, f⟩
    rw [e, kn_ne ok, Classical.not_not] at c
    rw [oMake, sIf_t c, hsh, y0.1]
    exact cQ_v (RC_body k ok (f.mono rfl) y1 y2 y3 y0 (xT A) (xF A) ⟨(f 1 1 rfl).trans k.2.2.1.1, fun i hi => (f 2 i rfl).trans (k.2.2.1.2 i hi)⟩ ((f 0 1 rfl).trans k.2.2.2.1)) (fC.of f ⟨rfl, rfl⟩)
  · rintro _ _ ⟨e, rfl⟩ c
    rw [e, kn_ne ok] at c
    rw [oMake, sIf_f c]
    exact cQ_x rfl k (fun _ _ => rfl)
end OP22
