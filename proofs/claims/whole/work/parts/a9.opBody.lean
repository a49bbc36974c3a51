/-! Operation body. -/
section OBD
variable {sc : Nat × (Nat → Int32)} {h h0 : jH} {T : List Int32} {A : aA} {n e : Nat} {p : List Int32} {s : Int32}
def uSec (S : aS) (p : List Int32) : aS := (aBody S, p, aRuns S, aLaw S, aTr S, aTaught S, aMade S, aBox S)
noncomputable def oBody (A : aA) (s : Int32) : aO := match pText (xT A) with
  | .inl e => (1, 0, (xS A, xI A, [], nI e))
  | .inr p => sIf (s = 0) (0, nI p.length, (uBody (xS A) p tNone [], xI A, [], -1)) (0, nI p.length, (uSec (xS A) p, xI A, [], -1))
theorem oBody_l (e1 : pText (xT A) = .inl e) : oBody A s = (1, 0, (xS A, xI A, [], nI e)) := by unfold oBody; rw [e1]
theorem oBody_0 (e1 : pText (xT A) = .inr p) (h : s = 0) : oBody A s = (0, nI p.length, (uBody (xS A) p tNone [], xI A, [], -1)) := by unfold oBody; rw [e1]; exact sIf_t h
theorem oBody_1 (e1 : pText (xT A) = .inr p) (h : ¬ s = 0) : oBody A s = (0, nI p.length, (uSec (xS A) p, xI A, [], -1)) := by unfold oBody; rw [e1]; exact sIf_f h
theorem okNoTape {S : aS} {x : Int32} (ok : aOk n A) (hs : sStOk n S) : aOk n (S, xI A, [], x) := ⟨hs, ok.2.1, Nat.zero_le _, fun b hb => absurd hb List.not_mem_nil⟩
theorem okBody2 (ok : aOk n A) : aOk n (oBody A s).2.2 := by
  cases e1 : pText (xT A) with
  | inl e => rw [oBody_l e1]; exact okNoTape ok ok.1
  | inr p =>
    have hp := (ok_text e1).1
    by_cases z : s = 0
    · rw [oBody_0 e1 z]
      exact okNoTape ok (okBody (ms := []) ok hp (Nat.zero_le _) (fun p hp => absurd hp List.not_mem_nil)).1
    · rw [oBody_1 e1 z]
      exact okNoTape ok ⟨ok.1.1, hp, ok.1.2.2⟩
theorem no_m1 {e : Nat} (h : e < 2 ^ 31) : ¬ nI e = -1 := fun q => by
  have := nI_pos h
  rw [q] at this
  exact this (by decide)
abbrev fBd : jF := ([(5, 5), (8, 8)], [(0, 1, 1), (1, 1, 5), (4, 1, 1), (7, 1, 1)])
theorem RC_second {h' : jH} (k : RC h A) (ok : aOk n A) (f : jfr ([(5, 5), (8, 8), (13, 13)], [(0, 1, 1), (1, 1, 5), (4, 1, 1), (7, 1, 1), (12, 1, 1)]) h h') (hp : isP h' 12 p) (ht : h' 1 1 = 0) {x : Int32} (hx : h' 0 1 = x) : RC h' (uSec (xS A) p, xI A, [], x) := by
  obtain ⟨k1, k2, k3, k4, k5, k6, k7, k8⟩ := k.1
  exact ⟨⟨k1.fr f rfl (fun _ => rfl), hp, k3.fr f rfl (fun _ => rfl) (fun _ => rfl) (fun _ => rfl), k4.fr f rfl (fun _ => rfl), k5.fr f rfl rfl rfl rfl rfl rfl (fun _ => rfl) (fun _ => rfl) (fun _ => rfl) (fun _ => rfl), fun i hi => (f 25 i rfl).trans (k6 i hi), k7.fr f ok.1.2.2.2.2.2.2.1.1 rfl (g_made ⟨rfl, rfl⟩), (f 9 8 rfl).trans k8⟩,
    k.2.1.eq (f 0 6 rfl) (k.img ok (g_img f ⟨rfl, rfl⟩)), ⟨ht, fun i hi => absurd hi (Nat.not_lt_zero _)⟩, hx, (f 69 5 rfl).trans k.2.2.2.2.1, k.2.2.2.2.2.fr75 f ⟨rfl, rfl⟩⟩
theorem ccBody (ok : aOk n A) (k : RC h A) : JM mX11_body [.ref 0, .int s] (jG0 sc) h (cQ sc ["java/lang/IllegalArgumentException"] (oBody A s) h) := by
  have h400 := ok.2.2.1
  have a10 : jI4 10 := by unfold jI4; decide
  have a12 : jI4 12 := by unfold jI4; decide
  have a4 : jI4 4 := by unfold jI4; decide
  have rd := tX0_wrongIn (sc := sc) k.2.2.1 h400
  cases e1 : pText (xT A) with
  | inl e =>
    rw [oBody_l e1]
    rw [e1] at rd
    have no : ∀ x1 h1, cW h (xT A) (.inl e) x1 h1 → ¬ jput (jput h1 0 1 x1) 1 1 0 0 1 = -1 := fun x1 h1 z c => no_m1 (e := e) (by have := z.2.2.2; omega) (z.2.2.1.symm.trans c)
    refine jM_of rfl (Nat.le_of_ble_eq_true rfl) (by decide +kernel) rfl (rX11_body_0 rd (P2 := fun _ => True) (P3 := fun _ => True) (P4 := fun _ => True) ?_ ?_ ?_ ?_ ?_ ?_)
    · rintro x1 h1 z c; exact absurd c (no _ _ z)
    · rintro x1 h1 z c; exact absurd c (no _ _ z)
    · rintro x1 h1 z c; exact absurd c (no _ _ z)
    · rintro x1 h1 z c; exact absurd c (no _ _ z)
    · rintro x1 h1 z c; exact absurd c (no _ _ z)
    · rintro x1 h1 z -
      have f : jfr fBd h (jput (jput h1 0 1 x1) 1 1 0) := ((z.2.1.mono rfl).put rfl).put rfl
      refine cQ_x rfl (RC_tape k ok (f.mono rfl) ⟨jput_at, fun i hi => absurd hi (Nat.not_lt_zero _)⟩ ?_) (fC.of f ⟨rfl, rfl⟩)
      show jput h1 0 1 x1 0 1 = nI e
      exact jput_at.trans z.2.2.1
  | inr p =>
    rw [e1] at rd
    have hs := (ok_text e1).1
    by_cases z0 : s = 0
    · rw [oBody_0 e1 z0]
      refine jM_of rfl (Nat.le_of_ble_eq_true rfl) (by decide +kernel) rfl (rX11_body_0 rd
        (P2 := fun h' => isP h' 10 p ∧ isP h' 4 p ∧ h' 1 1 = 0 ∧ h' 0 1 = -1 ∧ jfr ([(5, 5), (8, 8), (11, 11)], [(0, 1, 1), (1, 1, 5), (4, 1, 1), (7, 1, 1), (10, 1, 1)]) h h')
        (P3 := fun h' => isP h' 10 p ∧ isP h' 4 p ∧ h' 1 1 = 0 ∧ h' 0 1 = -1 ∧ isTries h' 20 tNone ∧ isMends h' 75 p ∧ h' 9 7 = 0 ∧ jfr ([(5, 5), (8, 8), (11, 11), (76, 81)], [(0, 1, 1), (1, 1, 5), (4, 1, 1), (7, 1, 1), (9, 7, 7), (10, 1, 1), (20, 1, 9), (75, 6, 8)]) h h') (P4 := fun _ => True) ?_ ?_ ?_ ?_ ?_ ?_)
      · rintro x1 h1 ⟨-, f, rfl, hp⟩ - -
        have f1 : jfr fBd h (jput (jput h1 0 1 (-1)) 1 1 0) := ((f.mono rfl).put rfl).put rfl
        have hp1 : isP (jput (jput h1 0 1 (-1)) 1 1 0) 4 p := hp.fr (F := ([], [(0, 1, 1), (1, 1, 1)])) ((jfr.rf.put rfl).put rfl) rfl (fun _ => rfl)
        refine jM_void (tX4_copyOf a10 a4 hp1 (by omega)) (fun h' y => ?_)
        have g : jfr ([(11, 11)], [(10, 1, 1)]) _ h' := y.2
        exact ⟨y.1, hp1.fr g rfl (fun _ => rfl), (g 1 1 rfl).trans rfl, (g 0 1 rfl).trans rfl, (f1.mono rfl).tr2 (g.mono rfl)⟩
      · rintro x1 h1 - - - h2 ⟨p1, p2, t, x, f⟩
        have g1 : jfr ([], [(9, 7, 7)]) h2 (jput h2 9 7 0) := jfr.rf.put rfl
        refine jM_void (tX11_beginAnew (p1.fr g1 rfl (fun _ => rfl)) hs) (fun h' y => ?_)
        have g2 := y.2.2
        exact ⟨(p1.fr g1 rfl (fun _ => rfl)).fr g2 rfl (fun _ => rfl), (p2.fr g1 rfl (fun _ => rfl)).fr g2 rfl (fun _ => rfl), ((g2 1 1 rfl).trans (g1 1 1 rfl)).trans t, ((g2 0 1 rfl).trans (g1 0 1 rfl)).trans x, y.1, y.2.1, (g2 9 7 rfl).trans rfl, ((f.mono rfl).tr2 (g1.mono rfl)).tr2 (g2.mono rfl)⟩
      · rintro x1 h1 - - - h2 - h3 ⟨p1, p2, t, x, y1, y2, e7, f⟩
        rw [p2.1]
        exact cQ_v (RC_body (ms := []) k ok (f.mono rfl) p1 y1 y2 ⟨e7, fun i hi => absurd hi (Nat.not_lt_zero _)⟩ [] (-1) ⟨t, fun i hi => absurd hi (Nat.not_lt_zero _)⟩ x) (fC.of f ⟨rfl, rfl⟩)
      · rintro x1 h1 - - c; exact absurd z0 c
      · rintro x1 h1 - - c; exact absurd z0 c
      · rintro x1 h1 ⟨-, -, rfl, -⟩ c; exact absurd rfl c
    · rw [oBody_1 e1 z0]
      refine jM_of rfl (Nat.le_of_ble_eq_true rfl) (by decide +kernel) rfl (rX11_body_0 rd (P2 := fun _ => True) (P3 := fun _ => True)
        (P4 := fun h' => isP h' 12 p ∧ isP h' 4 p ∧ h' 1 1 = 0 ∧ h' 0 1 = -1 ∧ jfr ([(5, 5), (8, 8), (13, 13)], [(0, 1, 1), (1, 1, 5), (4, 1, 1), (7, 1, 1), (12, 1, 1)]) h h') ?_ ?_ ?_ ?_ ?_ ?_)
      · rintro x1 h1 - - c; exact absurd c z0
      · rintro x1 h1 - - c; exact absurd c z0
      · rintro x1 h1 - - c; exact absurd c z0
      · rintro x1 h1 ⟨-, f, rfl, hp⟩ - -
        have f1 : jfr fBd h (jput (jput h1 0 1 (-1)) 1 1 0) := ((f.mono rfl).put rfl).put rfl
        have hp1 : isP (jput (jput h1 0 1 (-1)) 1 1 0) 4 p := hp.fr (F := ([], [(0, 1, 1), (1, 1, 1)])) ((jfr.rf.put rfl).put rfl) rfl (fun _ => rfl)
        refine jM_void (tX4_copyOf a12 a4 hp1 (by omega)) (fun h' y => ?_)
        have g : jfr ([(13, 13)], [(12, 1, 1)]) _ h' := y.2
        exact ⟨y.1, hp1.fr g rfl (fun _ => rfl), (g 1 1 rfl).trans rfl, (g 0 1 rfl).trans rfl, (f1.mono rfl).tr2 (g.mono rfl)⟩
      · rintro x1 h1 - - - h2 ⟨p1, p2, t, x, f⟩
        rw [p2.1]
        exact cQ_v (RC_second k ok f p1 t x) (fC.of f ⟨rfl, rfl⟩)
      · rintro x1 h1 ⟨-, -, rfl, -⟩ c; exact absurd rfl c
/-! the reference -/
theorem rM_second {w w' : Nat → Int32} {S : aS} (k : rM w S) (ok : sStOk n S) (e : ∀ j, j < 61 ∨ 122 ≤ j → w' j = w j) (hp : isMP w' 61 p) : rM w' (uSec S p) := by
  obtain ⟨k1, k2, k3, k4, k5, k6, k7, k8⟩ := k
  refine ⟨k1.cp (fun j hj => e _ (by omega)), hp, ⟨(e _ (by omega)).trans k3.1, fun i hi => ?_⟩, ⟨(e _ (by omega)).trans k4.1, fun i hi => ?_⟩, k5.eqw (fun j a b => e j (by omega)) ok.2.2.2.2.1.1 ok.2.2.2.2.1.2.2.2, fun i hi => (e _ (by omega)).trans (k6 i hi), ⟨(e _ (by omega)).trans k7.1, fun i hi => (k7.2 i hi).cp (fun j hj => e _ (by omega))⟩, (e _ (by omega)).trans k8⟩
  · have hi' : i < (aRuns S).length := hi
    rw [e _ (by omega), e _ (by omega), e _ (by omega)]; exact k3.2 i hi
  · rw [e _ (by omega), e _ (by omega)]; exact k4.2 i hi
/-- the tape is taken to be read -/
theorem mUses (ok : aOk n A) (k : RM h A) : JM mX12_uses [.ref 159] (jG0 sc) h (jvoid sc (fun h' => (∀ i, i < (xT A).length → h' 162 i = ((xT A).getD i 0).toInt8.toInt32) ∧ h' 159 7 = nI (xT A).length ∧ h' 159 6 = 0 ∧ h' 159 5 = 0 ∧ h' 159 0 = 0 ∧ jfr ([], [(159, 0, 0), (159, 5, 7)]) h h')) := by
  refine jM_of rfl (Nat.le_of_ble_eq_true rfl) (by decide +kernel) rfl (rX12_uses_0 (jvoid_i ⟨fun i hi => k.2.2.1.2 i hi, ?_, rfl, rfl, rfl, (((jfr.rf.put rfl).put rfl).put rfl).put rfl⟩))
  exact k.2.2.1.1
theorem mmBody (ok : aOk n A) (k : RM h A) : JM mX12_body [.ref 159, .int s] (jG0 sc) h (mQ sc (oBody A s) h) := by
  have h400 := ok.2.2.1
  refine jM_of rfl (Nat.le_of_ble_eq_true rfl) (by decide +kernel) rfl (bX12_body_0 (P2 := fun x h' => ∃ h1, jfr ([], [(159, 0, 0), (159, 5, 7)]) h h1 ∧ h1 159 5 = 0 ∧ h1 159 0 = 0 ∧ mW h1 (pText (xT A)) x h') (mUses ok k) ?_ ?_ ?_)
  · rintro h1 ⟨u1, u2, u3, u4, u5, f1⟩
    have m : ms (wN h1 []) (xT A) 0 h1 := ⟨u1, h400, ok.2.2.2, u2, u3, Nat.zero_le _, wN_st, ⟨fun i hi => absurd hi (Nat.not_lt_zero _), jfr.rf⟩⟩
    exact jM_int (mAll m) (fun x h' z => ⟨h1, f1, u4, u5, z⟩)
  · rintro h1 - x2 h2 ⟨h1', f1, u4, u5, z⟩ c
    cases e1 : pText (xT A) with
    | inl e => rw [e1] at z; rw [z.1] at c; exact absurd c (by decide)
    | inr p =>
      rw [e1] at z
      obtain ⟨rfl, rows, f2⟩ := z
      have hs := (ok_text e1).1
      have f3 : jfr ([(163, 178)], [(159, 0, 0), (159, 5, 8), (159, 10, 10)]) h (jput h2 159 10 (-1)) := ((f1.mono rfl).tr2 (f2.mono rfl)).put rfl
      refine bX12_body_21 (bX12_body_22 (fun _ => bX12_body_34 (bX12_body_35 tX12_throws0 ?_ ?_)) (fun c2 => absurd c c2))
      · rintro _ _ ⟨-, rfl⟩ -
        refine bX12_body_44 ?_
        have w0 : isMP (jput (jput h2 159 10 (-1)) 164 0 (nI p.length) 164) 0 p := ⟨jput_at, hs.1, fun i hi j hj => by
          rw [jput_sl (by omega), jput_ne (by decide), Nat.zero_add]; exact rows i hi j hj⟩
        have e10 : jput (jput h2 159 10 (-1)) 164 0 (nI p.length) 159 10 = -1 := rfl
        have e0 : jput (jput h2 159 10 (-1)) 164 0 (nI p.length) 159 0 = 0 := (f2 159 0 rfl).trans u5
        have e5 : jput (jput h2 159 10 (-1)) 164 0 (nI p.length) 159 5 = 0 := (f2 159 5 rfl).trans u4
        have f4 : jfr ([(163, 178)], [(159, 0, 0), (159, 5, 8), (159, 10, 10)]) h (jput (jput h2 159 10 (-1)) 164 0 (nI p.length)) := f3.put (by rw [jin_iff]; simp)
        generalize jput (jput h2 159 10 (-1)) 164 0 (nI p.length) = h4 at *
        have e160 : h4 160 = h 160 := f4.cell (fun _ => rfl)
        have loop : ∀ (o : Nat) (v : Int32), v = nI o → (o = 0 ∨ o = 61) → (∀ (h6 : jH) i, WP mX12_body (mQ sc (oBody A s) h) 73 [some (.ref 159), some (.int s), some (.int (nI p.length)), some (.int i)] [.int v, .ref 160] (jG0 sc) h6 (0, 0) → WP mX12_body (mQ sc (oBody A s) h) 59 [some (.ref 159), some (.int s), some (.int (nI p.length)), some (.int i)] [] (jG0 sc) h6 (0, 0)) →
            (∀ h6, jfr ([], [(160, o, o + 60)]) h4 h6 → (∀ j, j < 61 → h6 160 (o + j) = h4 164 j) → WP mX12_body (mQ sc (oBody A s) h) 88 [some (.ref 159), some (.int s), some (.int (nI p.length)), some (.int 61)] [] (jG0 sc) h6 (0, 0)) →
            WP mX12_body (mQ sc (oBody A s) h) 53 [some (.ref 159), some (.int s), some (.int (nI p.length)), some (.int 0)] [] (jG0 sc) h4 (0, 0) := by
          rintro o v rfl ho st fin
          refine jloop (fun i (h6 : jH) => WP mX12_body (mQ sc (oBody A s) h) 53 [some (.ref 159), some (.int s), some (.int (nI p.length)), some (.int (nI i))] [] (jG0 sc) h6 (0, 0))
            (fun i h6 => jfr ([], [(160, o, o + 60)]) h4 h6 ∧ ∀ j, j < i → h6 160 (o + j) = h4 164 j) 61 ?_ ?_ 0 h4 (by omega) ⟨jfr.rf, fun j hj => absurd hj (Nat.not_lt_zero _)⟩
          · rintro h6 ⟨f6, i6⟩
            exact bX12_body_53 (fun _ => fin h6 f6 i6) (fun c => absurd (by decide) c)
          · rintro i h6 hi ⟨f6, i6⟩ kk
            refine bX12_body_53 (fun c => absurd ((jn_le (a := 61) (by decide) (by omega)).mp c) (by omega)) (fun _ => st _ _ (bX12_body_73 (vp_in_nI hi (by decide)) (by rw [nI_add]; exact vp_in_nI (by omega) (by decide)) ?_))
            rw [nI_add, nI_clamp (by omega), nI_clamp (by omega), f6.cell (k := 164) (fun j => by rw [jin_f]; simp), ← nI_succ]
            refine kk _ ⟨f6.put (by rw [jin_iff]; simp; omega), fun j hj => ?_⟩
            by_cases z : j = i
            · subst z; exact jput_at
            · rw [jput_sl (by omega)]; exact i6 j (by omega)
        by_cases z0 : s = 0
        · refine loop 0 0 rfl (Or.inl rfl) (fun h6 i w => bX12_body_59 (fun _ => bX12_body_72 w) (fun c => absurd z0 c)) (fun h6 f6 i6 => ?_)
          rw [oBody_0 e1 z0]
          refine bX12_body_88 (fun _ => bX12_body_94 tX12_forgets (fun h7 y => ?_)) (fun c => absurd z0 c)
          have f7 : jfr ([(163, 178)], [(159, 0, 0), (159, 5, 8), (159, 10, 10), (160, 0, 286)]) h (jput h7 160 286 0) := (((f4.mono rfl).tr2 (f6.mono rfl)).tr2 (y.2.mono rfl)).put rfl
          have r7 : ∀ j, (61 ≤ j ∧ j < 159) ∨ (163 < j ∧ j < 254) ∨ (254 < j ∧ j ≠ 286) → jput h7 160 286 0 160 j = h 160 j := fun j hj => by
            rw [jput_sl (by omega), y.2 160 j (by rw [jin_f]; simp; omega), f6 160 j (by rw [jin_f]; simp; omega), e160]
          have p7 : isMP (jput h7 160 286 0 160) 0 p := w0.cp (fun j hj => by
            rw [jput_sl (by omega), y.2 160 (0 + j) (by rw [jin_f]; simp; omega), i6 j hj, Nat.zero_add])
          have o9 : ∀ j, jput h7 160 286 0 159 j = h4 159 j := fun j => Eq.trans (show jput h7 160 286 0 159 j = h7 159 j from rfl) ((y.2 159 j rfl).trans (f6 159 j (by rw [jin_f]; simp)))
          refine jint_i ⟨fun _ => rfl, (o9 0).trans e0, ⟨?_, k.2.1.eq (f7 159 3 rfl) (f7.cell (fun _ => rfl)), ⟨(o9 5).trans e5, fun i hi => absurd hi (Nat.not_lt_zero _)⟩, (o9 10).trans e10⟩, fM.of f7 ⟨rfl, rfl⟩⟩
          refine rM_body (w := h 160) k.1 ok.1 (fun j hj => r7 j (by omega)) p7 ?_ ⟨jput_at, fun i hi => absurd hi (Nat.not_lt_zero _)⟩
          exact (y.1 p).eqw (fun j a b => jput_sl (by omega)) (Nat.zero_le _) (Nat.zero_le _)
        · refine loop 61 61 rfl (Or.inr rfl) (fun h6 i w => bX12_body_59 (fun c => absurd c z0) (fun _ => bX12_body_67 w)) (fun h6 f6 i6 => ?_)
          rw [oBody_1 e1 z0]
          refine bX12_body_88 (fun c => absurd c z0) (fun _ => bX12_body_92 ?_)
          have f7 : jfr ([(163, 178)], [(159, 0, 0), (159, 5, 8), (159, 10, 10), (160, 61, 121)]) h h6 := (f4.mono rfl).tr2 (f6.mono rfl)
          have o9 : ∀ j, h6 159 j = h4 159 j := fun j => f6 159 j (by rw [jin_f]; simp)
          refine jint_i ⟨fun _ => rfl, (o9 0).trans e0, ⟨?_, k.2.1.eq (f7 159 3 rfl) (f7.cell (fun _ => rfl)), ⟨(o9 5).trans e5, fun i hi => absurd hi (Nat.not_lt_zero _)⟩, (o9 10).trans e10⟩, fM.of f7 ⟨rfl, rfl⟩⟩
          exact rM_second (w := h 160) k.1 ok.1 (fun j hj => (f6 160 j (by rw [jin_f]; simp; omega)).trans (congrFun e160 j)) (w0.cp (fun j hj => by rw [i6 j hj, Nat.zero_add]))
      · rintro _ _ ⟨rfl, -⟩ c2; exact absurd rfl c2
  · rintro h1 - x2 h2 ⟨h1', f1, u4, u5, z⟩ c
    cases e1 : pText (xT A) with
    | inr p => rw [e1] at z; rw [z.1] at c; exact absurd (nI_le (a := 0) (by omega) (by have := (ok_text e1).1.1; omega)) c
    | inl e =>
      rw [e1] at z
      rw [oBody_l e1]
      obtain ⟨rfl, eb, f2⟩ := z
      have f3 : jfr ([(163, 178)], [(159, 0, 0), (159, 5, 8), (159, 10, 10)]) h (jput h2 159 10 (h2 159 8)) := ((f1.mono rfl).tr2 (f2.mono rfl)).put rfl
      refine bX12_body_14 (bX12_body_22 (fun c2 => absurd c2 (by decide)) (fun _ => bX12_body_30 (bX12_body_35 tX12_throws1 ?_ ?_)))
      · rintro _ _ ⟨rfl, -⟩ c2; exact absurd c2 (by decide)
      · rintro _ _ ⟨-, rfl⟩ -
        have f4 : jfr ([(163, 178)], [(159, 0, 0), (159, 5, 8), (159, 10, 10)]) h (jput (jput h2 159 10 (h2 159 8)) 159 0 1) := f3.put rfl
        refine bX12_body_42 (jint_i ⟨fun q => absurd q Nat.one_ne_zero, rfl, ⟨by rw [f4.cell (k := 160) (fun _ => rfl)]; exact k.1, k.2.1.eq (f4 159 3 rfl) (f4.cell (fun _ => rfl)), ⟨?_, fun i hi => absurd hi (Nat.not_lt_zero _)⟩, ?_⟩, fM.of f4 ⟨rfl, rfl⟩⟩)
        · exact (f2 159 5 rfl).trans u4
        · exact eb
end OBD
