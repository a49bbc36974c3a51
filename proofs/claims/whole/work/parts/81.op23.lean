/-! Operation make: the reference. -/
section OP23
variable {sc : Nat × (Nat → Int32)} {h : jH} {A : aA} {n : Nat} {p : List Int32} {ms : List (List Int32)}
theorem isMP.cp {w w' : Nat → Int32} {k k' : Nat} (hp : isMP w k p) (e : ∀ j, j < 61 → w' (k' + j) = w (k + j)) : isMP w' k' p := by
  have := hp.2.1
  refine ⟨(e 0 (by omega)).trans hp.1, hp.2.1, fun i hi a ha => ?_⟩
  rw [show k' + 1 + 6 * i + a = k' + (1 + 6 * i + a) by omega, e _ (by omega), show k + (1 + 6 * i + a) = k + 1 + 6 * i + a by omega]
  exact hp.2.2 i hi a ha
theorem mmMake {i : Int32} (ok : aOk n A) (k : RM h A) : JM mX12_make [.ref 159, .int i] (jG0 sc) h (mQ sc (oMake A i) h) := by
  have h6 := ok.1.2.2.2.2.2.2.1.1
  have h30 : (aKept A).length ≤ 30 := ok.1.2.2.2.2.1.1
  have h8 : (tRows (aTr (xS A))).length ≤ 8 := ok.1.2.2.2.2.1.2.2.2
  have hp : isMP (h 160) 0 (aBody (xS A)) := k.1.1
  have hs := ok.1.1
  have hT : isMTries (h 160) (aBody (xS A)) (aTr (xS A)) := k.1.2.2.2.2.1
  have e1 : h 160 163 = nI (aKept A).length := hT.1
  obtain ⟨m1, m2⟩ := k.1.2.2.2.2.2.2.1
  -- from the copy of the body on
  have go : aIx i (aKept A).length → ∀ (ns : List (List Int32)) (m : Nat) (h1 : jH), ns.length = m → m ≤ 5 → h1 160 286 = nI m → (∀ a, a < m → isMP (h1 160) (287 + 61 * a) (ns.getD a [])) → jfr ([], [(159, 0, 0), (160, 286, 652)]) h h1 → h1 159 0 = 0 → sPush (aMade (xS A)) (aBody (xS A)) = ns ++ [aBody (xS A)] →
      WP mX12_make (mQ sc (oMake A i) h) 84 [some (.ref 159), some (.int i), none] [] (jG0 sc) h1 (0, 0) := by
    intro q ns m h1 hl h5 c0 c1 f1 z1 ePush
    have eo : oMake A i = (0, nI (m + 1), uS A (uBody (xS A) (sShape (aBody (xS A)) ((aKept A).getD i.toNatClampNeg 0)) tNone (ns ++ [aBody (xS A)]))) := by
      rw [oMake, sIf_t q, ePush, List.length_append, List.length_singleton, hl]
    rw [eo]
    generalize hsh : sShape (aBody (xS A)) ((aKept A).getD i.toNatClampNeg 0) = sh
    have osh : sProg sh := by rw [← hsh]; exact sProg_sh hs
    refine bX12_make_84 ?_
    refine jloop (fun a (h2 : jH) => WP mX12_make _ 86 [some (.ref 159), some (.int i), some (.int (nI a))] [] (jG0 sc) h2 (0, 0))
      (fun a h2 => jfr ([], [(159, 0, 0), (160, 286, 652)]) h h2 ∧ h2 159 0 = 0 ∧ (∀ j, j < 287 + 61 * m → h2 160 j = h1 160 j) ∧ ∀ j, j < a → h2 160 (287 + 61 * m + j) = h 160 j) 61 ?_ ?_ 0 h1 (by omega) ⟨f1, z1, fun _ _ => rfl, fun j hj => absurd hj (by omega)⟩
    · rintro h2 ⟨f2, z2, g2, b2⟩
      have e86 : h2 160 286 = nI m := (g2 286 (by omega)).trans c0
      refine bX12_make_86 (fun _ => ?_) (fun c => absurd (by decide) c)
      have pb : isMP (h2 160) (287 + 61 * m) (aBody (xS A)) := hp.cp (fun j hj => by rw [b2 j hj, Nat.zero_add])
      have pa : ∀ a, a < m → isMP (h2 160) (287 + 61 * a) (ns.getD a []) := fun a ha => (c1 a ha).cp (fun j hj => g2 _ (by omega))
      generalize hh3 : jput h2 160 286 (h2 160 286 + 1) = h3
      have f3 : jfr ([], [(159, 0, 0), (160, 286, 652)]) h h3 := by rw [← hh3]; exact f2.put rfl
      have z3 : h3 159 0 = 0 := by rw [← hh3]; exact z2
      have d86 : h3 160 286 = nI (m + 1) := by rw [← hh3, jput_at, e86, nI_succ]
      have mm3 : isMMade (h3 160) (ns ++ [aBody (xS A)]) := by
        have o3 : ∀ j, j ≠ 286 → h3 160 j = h2 160 j := fun j hj => by rw [← hh3]; exact jput_sl hj
        refine ⟨by rw [d86, List.length_append, List.length_singleton, hl], fun a ha => ?_⟩
        rw [List.length_append, List.length_singleton, hl] at ha
        rw [getD_ap1P, hl]
        by_cases z : a = m
        · subst z
          rw [if_neg (Nat.lt_irrefl _), if_pos rfl]
          exact pb.cp (fun j hj => o3 _ (by omega))
        · rw [if_pos (show a < m by omega)]
          exact (pa a (by omega)).cp (fun j hj => o3 _ (by omega))
      have g3 : ∀ j, j < 286 ∨ 652 < j → h3 160 j = h 160 j := fun j hj => f3 160 j (by rw [jin_f]; simp; omega)
      have hp3 : isMP (h3 160) 0 (aBody (xS A)) := hp.cp (fun j hj => g3 _ (by omega))
      have hT3 : isMTries (h3 160) (aBody (xS A)) (aTr (xS A)) := hT.eqw (fun j a b => g3 j (by omega)) h30 h8
      refine bX12_make_128 (P1 := fun h' => isML h' (aBody (xS A)) ∧ jfr fLists h3 h') (P2 := fun h' => isMP (h' 167) 0 sh ∧ jfr ([(167, 167), (170, 173)], [(159, 26, 26)]) h3 h') (by rw [hh3]; exact tX12_listed hp3 hs) (fun h4 z => ?_) (fun h4 _ h5 z => ?_)
      · rw [← hsh]
        exact jM_void (tX12_laysAlive ok z.1 (by rw [z.2.cell (k := 160) (fun _ => rfl)]; exact hT3) q) (fun h' y => ⟨y.1, (z.2.mono rfl).tr2 (y.2.mono rfl)⟩)
      · obtain ⟨p5, f5⟩ := z
        have e160 : h5 160 = h3 160 := f5.cell (fun _ => rfl)
        refine jloop (fun a (h6 : jH) => WP mX12_make _ 151 [some (.ref 159), some (.int i), some (.int (nI a))] [] (jG0 sc) h6 (0, 0))
          (fun a h6 => jfr ([], [(160, 0, 60)]) h5 h6 ∧ ∀ j, j < a → h6 160 j = h5 167 j) 61 ?_ ?_ 0 h5 (by omega) ⟨jfr.rf, fun j hj => absurd hj (by omega)⟩
        · rintro h6 ⟨f6, i6⟩
          refine bX12_make_151 (fun _ => ?_) (fun c => absurd (by decide) c)
          refine bX12_make_177 tX12_forgets (fun h7 y => ?_)
          have r7 : ∀ j, (61 ≤ j ∧ j < 159) ∨ (164 ≤ j ∧ j < 254) ∨ 254 < j → h7 160 j = h3 160 j := fun j hj => by
            rw [y.2 160 j (by rw [jin_f]; simp; omega), f6 160 j (by rw [jin_f]; simp; omega), e160]
          have p7 : isMP (h7 160) 0 sh := p5.cp (fun j hj => by
            rw [y.2 160 (0 + j) (by rw [jin_f]; simp; omega), Nat.zero_add, i6 j hj])
          have mm7 : isMMade (h7 160) (ns ++ [aBody (xS A)]) := by
            refine ⟨(r7 _ (by omega)).trans mm3.1, fun a ha => ?_⟩
            exact (mm3.2 a ha).cp (fun j hj => r7 _ (by omega))
          have e7 : h7 160 286 = nI (m + 1) := (r7 286 (by omega)).trans d86
          rw [e7]
          have f7 : jfr ([(167, 167), (170, 173)], [(159, 0, 0), (159, 26, 26), (160, 0, 652)]) h h7 := (((f3.mono rfl).tr2 (f5.mono rfl)).tr2 (f6.mono rfl)).tr2 (y.2.mono rfl)
          have z7 : h7 159 0 = 0 := (((y.2 159 0 rfl).trans (f6 159 0 rfl)).trans (f5 159 0 rfl)).trans z3
          refine jint_i ⟨fun _ => rfl, z7, ⟨?_, k.2.1.eq (f7 159 3 rfl) (f7.cell (fun _ => rfl)), k.2.2.1.eq (f7 159 5 rfl) (f7.cell (fun _ => rfl)), (f7 159 10 rfl).trans k.2.2.2⟩, fM.of f7 ⟨rfl, rfl⟩⟩
          exact rM_body (w := h 160) k.1 ok.1 (fun j hj => (r7 j (by omega)).trans (g3 j (by omega))) p7 (y.1 _) mm7
        · rintro a h6 ha ⟨f6, i6⟩ kk
          have hi' : a < 2 ^ 31 := by omega
          have eB : (0 : Int32) + nI a = nI a := Int32.zero_add _
          refine bX12_make_151 (fun c => absurd ((jn_le (a := 61) (by decide) hi').mp c) (by omega)) (fun _ => bX12_make_157 (vp_in_nI (by omega) (by decide)) (by rw [eB]; exact vp_in_nI (by omega) (by decide)) ?_)
          rw [eB, nI_clamp hi', ← nI_succ]
          refine kk _ ⟨f6.put (by rw [jin_iff]; simp; omega), fun j hj => ?_⟩
          by_cases w : j = a
          · subst w; rw [jput_at]; exact f6 167 _ (by rw [jin_f]; simp)
          · rw [jput_sl w]; exact i6 j (by omega)
    · rintro a h2 ha ⟨f2, z2, g2, b2⟩ kk
      have hi' : a < 2 ^ 31 := by omega
      have e86 : h2 160 286 = nI m := (g2 286 (by omega)).trans c0
      have eA : (287 : Int32) + 61 * nI m + nI a = nI (287 + 61 * m + a) := by rw [show (61 : Int32) = nI 61 from rfl, show (287 : Int32) = nI 287 from rfl, pk_mul, nI_add, nI_add]
      have eB : (0 : Int32) + nI a = nI a := Int32.zero_add _
      refine bX12_make_86 (fun c => absurd ((jn_le (a := 61) (by decide) hi').mp c) (by omega)) (fun _ => bX12_make_92 (by rw [eB]; exact vp_in_nI (by omega) (by decide)) (by rw [e86, eA]; exact vp_in_nI (by omega) (by decide)) ?_)
      rw [e86, eA, eB, nI_clamp hi', nI_clamp (by omega), ← nI_succ]
      refine kk _ ⟨f2.put (by rw [jin_iff]; simp; omega), z2, fun j hj => by rw [jput_sl (by omega)]; exact g2 j hj, fun j hj => ?_⟩
      by_cases w : j = a
      · subst w; rw [jput_at]; exact f2 160 _ (by rw [jin_f]; simp; omega)
      · rw [jput_sl (by omega)]; exact b2 j (by omega)
  have f0 : jfr ([], [(159, 0, 0), (160, 286, 652)]) h (jput h 159 0 0) := jfr.rf.put rfl
  refine jM_of rfl (Nat.le_of_ble_eq_true rfl) (by decide +kernel) rfl (bX12_make_0 (tX12_noAlive (m := (aKept A).length) (by omega) e1) (fun _ _ q => by rw [← q.2, q.1]; exact tX12_throwsIf rfl) ?_ ?_)
  · rintro _ _ ⟨rfl, rfl⟩ _ _ q c
    have q := (throws_go (h0 := h) q).1 c
    have q1 := Classical.not_not.mp q.1
    rw [q.2]
    by_cases z : (aMade (xS A)).length = 6
    · have e86 : jput h 159 0 0 160 286 = nI 6 := m1.trans (by rw [z])
      refine bX12_make_20 (fun c => absurd e86 c) (fun _ => bX12_make_33 ?_)
      refine jloop (fun a (h2 : jH) => WP mX12_make _ 36 [some (.ref 159), some (.int i), some (.int (nI (61 + a)))] [] (jG0 sc) h2 (0, 0))
        (fun a h2 => jfr ([], [(159, 0, 0), (160, 286, 652)]) h h2 ∧ h2 159 0 = 0 ∧ h2 160 286 = nI 6 ∧ (∀ j, j < a → h2 160 (287 + j) = h 160 (287 + 61 + j)) ∧ ∀ j, a ≤ j → h2 160 (287 + j) = h 160 (287 + j)) 305 ?_ ?_ 0 _ (by omega) ⟨f0, rfl, e86, fun j hj => absurd hj (by omega), fun j hj => rfl⟩
      · rintro h2 ⟨f2, z2, c2, b2, -⟩
        refine bX12_make_36 (fun _ => bX12_make_72 ?_) (fun c => absurd (by decide) c)
        rw [c2]
        refine go q1 ((aMade (xS A)).drop 1) 5 _ (by rw [List.length_drop, z]) (by omega) (by rw [jput_at]; decide) (fun a ha => ?_) (f2.put rfl) z2 (by unfold sPush; rw [if_pos z])
        rw [show ((aMade (xS A)).drop 1).getD a [] = (aMade (xS A)).getD (a + 1) [] from getD_drop1]
        refine (m2 (a + 1) (by omega)).cp (fun j hj => ?_)
        rw [jput_sl (by omega), show 287 + 61 * a + j = 287 + (61 * a + j) by omega, b2 _ (by omega)]
        congr 1; omega
      · rintro a h2 ha ⟨f2, z2, c2, b2, d2⟩ kk
        have gA : (287 : Int32) + nI (61 + a) = nI (287 + a + 61) := by rw [show (287 : Int32) = nI 287 from rfl, nI_add]; congr 1; omega
        have gB : nI (287 + a + 61) - 61 = nI (287 + a) := by rw [← nI_add _ 61]; exact Int32.add_sub_cancel _ _
        refine bX12_make_36 (fun c => absurd ((jn_le (a := 366) (by decide) (by omega)).mp c) (by omega)) (fun _ => bX12_make_43 (by rw [gA]; exact vp_in_nI (by omega) (by decide)) (by rw [gA, gB]; exact vp_in_nI (by omega) (by decide)) ?_)
        rw [gA, gB, nI_clamp (by omega), nI_clamp (by omega), ← nI_succ]
        refine kk _ ⟨f2.put (by rw [jin_iff]; simp; omega), z2, by rw [jput_sl (by omega)]; exact c2, fun j hj => ?_, fun j hj => by rw [jput_sl (by omega)]; exact d2 j (by omega)⟩
        by_cases w : j = a
        · subst w; rw [jput_at, show 287 + j + 61 = 287 + (61 + j) by omega, d2 _ (by omega), show 287 + (61 + j) = 287 + 61 + j by omega]
        · rw [jput_sl (by omega)]; exact b2 j (by omega)
    · have e86 : jput h 159 0 0 160 286 = nI (aMade (xS A)).length := m1
      refine bX12_make_20 (fun _ => ?_) (fun c => absurd c (by rw [e86, show (6 : Int32) = nI 6 from rfl, jn_eq (by omega) (by decide)]; exact z))
      exact go q1 (aMade (xS A)) _ _ rfl (by omega) e86 (fun a ha => m2 a ha) f0 rfl (by unfold sPush; rw [if_neg z])
  · rintro _ _ ⟨rfl, rfl⟩ _ _ q c
    have q := (throws_go (h0 := h) q).2 c
    rw [q.2]
    refine bX12_make_18 ?_
    rw [oMake, sIf_f q.1]
    exact mQ_qx k ((jfr.rf.put rfl).put rfl) (by simp [jput]; rfl)
end OP23
