/-! Operations alive, aliveEnds. -/
section OP12
variable {sc : Nat × (Nat → Int32)} {h : jH} {A : aA} {n : Nat} {p q : List Int32} {rs : List aRun} {T : aT}
abbrev aKept (A : aA) : List Nat := tKept (aTr (xS A))
theorem kept_lt {i : Nat} (ok : aOk n A) (hi : i < (aKept A).length) : (aKept A).getD i 0 < (sAll (sMends (aBody (xS A)))).length := ok.1.2.2.2.2.1.2.1 _ (getD_mem hi)
theorem tX11_keptNumber {i : Int32} (ok : aOk n A) (k : RC h A) : JM mX11_keptNumber [.ref 0, .int i] (jG0 sc) h (jgets sc (sIf (aIx i (aKept A).length) (nI ((aKept A).getD i.toNatClampNeg 0)) (-1)) h) := by
  have h30 : (aKept A).length ≤ 30 := ok.1.2.2.2.2.1.1
  have e1 : h 20 1 = nI (aKept A).length := k.1.2.2.2.2.1.1
  have yes : ¬ i < 0 → ¬ h 20 1 ≤ i → aIx i (aKept A).length := fun a b => (aIx_le (by omega)).mp ⟨a, by rw [← e1]; exact b⟩
  refine jM_of rfl (Nat.le_of_ble_eq_true rfl) (by decide +kernel) rfl (rX11_keptNumber_0 (fun c => jgets_i ?_) (fun _ c => jgets_i ?_) (fun a b c => ?_) (fun a b c => ?_) (fun a b c => jgets_i ?_))
  · exact (sIf_f (fun q => ((aIx_lt (by omega)).mpr q).1 c)).symm
  · exact (sIf_f (fun q => ((aIx_le (by omega)).mpr q).2 (by rw [← e1]; exact c))).symm
  · obtain ⟨d, hd, rfl⟩ := yes a b
    exact absurd ((jn_le (a := 30) (by decide) (by omega)).mp c) (by omega)
  · obtain ⟨d, hd, rfl⟩ := yes a b
    exact vp_in_nI (by omega) (by decide)
  · rw [sIf_t (yes a b)]
    exact k.1.2.2.2.2.1.2.1 _ (aIx_c (by omega) (yes a b)).1
noncomputable def sAliveTold (p : List Int32) (K : Nat) (w : Int32) : Int32 := sIf (w = 0) (nI K) (sIf (w = 1) (sParts p K).1 (sParts p K).2)
noncomputable def oAlive (A : aA) (i w : Int32) : aO := sIf (aIx i (aKept A).length) (sIf (aIx w 3) (0, sAliveTold (aBody (xS A)) ((aKept A).getD i.toNatClampNeg 0) w, A) (2, 0, A)) (1, 0, A)
theorem sTwo_parts {k : Nat} (hk : k < (sAll (sMends p)).length) : sTwo ((sAll (sMends p))[k]?) = sParts p k := by
  unfold sTwo sParts
  rw [List.getElem?_eq_getElem hk]
  generalize (sAll (sMends p))[k] = z
  obtain ⟨a, b⟩ := z
  cases b <;> rfl
theorem kn_ne {i : Int32} (ok : aOk n A) : ((sIf (aIx i (aKept A).length) (nI ((aKept A).getD i.toNatClampNeg 0)) (-1) : Int32) = -1 ↔ ¬ aIx i (aKept A).length) := by
  have hfew := sAll_few ok.1.1
  have h30 : (aKept A).length ≤ 30 := ok.1.2.2.2.2.1.1
  by_cases q : aIx i (aKept A).length
  · rw [sIf_t q]
    have := kept_lt ok (aIx_c (by omega) q).1
    exact ⟨fun e => absurd e (nI_ne1 (by omega)), fun e => absurd q e⟩
  · rw [sIf_f q]; exact ⟨fun _ => q, fun _ => rfl⟩
theorem ccAlive {i w : Int32} (ok : aOk n A) (k : RC h A) : JM mX11_alive [.ref 0, .int i, .int w] (jG0 sc) h (cQ sc eMend (oAlive A i w) h) := by
  have t_h : jI3 75 := by unfold jI3; decide
  have hs := ok.1.1
  have hfew := sAll_few hs
  have h30 : (aKept A).length ≤ 30 := ok.1.2.2.2.2.1.1
  have ne : ∀ {x : Int32}, x = sIf (aIx i (aKept A).length) (nI ((aKept A).getD i.toNatClampNeg 0)) (-1) → ¬ x = -1 → aIx i (aKept A).length := fun e c => by
    rw [e, kn_ne ok, Classical.not_not] at c; exact c
  have no : aIx i (aKept A).length → ¬ aIx w 3 → cQ sc eMend (oAlive A i w) h (.inr "java/util/NoSuchElementException") (jG0 sc) h := fun a b => by
    rw [oAlive, sIf_t a, sIf_f b]; exact cQ_x rfl k (fun _ _ => rfl)
  have fin : ∀ {x : Int32} {h2 : jH}, aIx i (aKept A).length → aIx w 3 → x = sAliveTold (aBody (xS A)) ((aKept A).getD i.toNatClampNeg 0) w → jfr fCs h h2 → cQ sc eMend (oAlive A i w) h (.inl (some (.int x))) (jG0 sc) h2 := fun a b e f => by
    rw [oAlive, sIf_t a, sIf_t b, e]; exact cQ_q ok k f
  refine jM_of rfl (Nat.le_of_ble_eq_true rfl) (by decide +kernel) rfl (rX11_alive_0 (tX11_keptNumber ok k) ?_ (P2 := fun _ h' => h' 75 7 = (sParts (aBody (xS A)) ((aKept A).getD i.toNatClampNeg 0)).1 ∧ h' 75 8 = (sParts (aBody (xS A)) ((aKept A).getD i.toNatClampNeg 0)).2 ∧ jfr fCs h h') ?_ ?_ ?_ ?_ ?_ ?_)
  · rintro _ _ ⟨e, rfl⟩ c c2
    exact no (ne e c) (fun q => ((aIx_lt (by omega)).mpr q).1 c2)
  · rintro _ _ ⟨e, rfl⟩ c c2 c3 c4
    have q := ne e c
    have hk := kept_lt ok (aIx_c (by omega) q).1
    rw [e, sIf_t q]
    refine jM_int (tX3_part t_h hs k.2.2.2.2.2 (by omega)) (fun x h' y => ?_)
    obtain ⟨-, y1, y2, y3⟩ := y
    rw [sTwo_parts hk] at y1 y2
    exact ⟨y1, y2, y3.mono rfl⟩
  · rintro _ _ ⟨e, rfl⟩ c c2 c3 c4 x2 h2 ⟨y1, y2, y3⟩ c5
    exact fin (ne e c) ((aIx_le1 (n := 2) (by omega)).mp ⟨c2, c3⟩) (by rw [sAliveTold, sIf_f c4, sIf_f c5, y2]) y3
  · rintro _ _ ⟨e, rfl⟩ c c2 c3 c4 x2 h2 ⟨y1, y2, y3⟩ c5
    exact fin (ne e c) ((aIx_le1 (n := 2) (by omega)).mp ⟨c2, c3⟩) (by rw [sAliveTold, sIf_f c4, sIf_t c5, y1]) y3
  · rintro _ _ ⟨e, rfl⟩ c c2 c3 c4
    exact fin (ne e c) ((aIx_le1 (n := 2) (by omega)).mp ⟨c2, c3⟩) (by rw [sAliveTold, sIf_t c4, e, sIf_t (ne e c)]) jfr.rf
  · rintro _ _ ⟨e, rfl⟩ c c2 c3
    exact no (ne e c) (fun q => c3 ((aIx_le1 (n := 2) (by omega)).mpr q).2)
  · rintro _ _ ⟨e, rfl⟩ c
    rw [e, kn_ne ok] at c
    rw [oAlive, sIf_f c]; exact cQ_x rfl k (fun _ _ => rfl)
theorem al_ix {i : Nat} (hi : i < 30) : (164 : Int32) + 3 * nI i = nI (164 + 3 * i) ∧ (nI (164 + 3 * i) + 1 = nI (164 + 3 * i + 1)) ∧ (nI (164 + 3 * i) + 2 = nI (164 + 3 * i + 2)) := by
  refine ⟨?_, (nI_succ _).symm, nI_add _ 2⟩
  rw [show (3 : Int32) = nI 3 from rfl, show (164 : Int32) = nI 164 from rfl, pk_mul, nI_add]
theorem mmAlive {i w : Int32} (ok : aOk n A) (k : RM h A) : JM mX12_alive [.ref 159, .int i, .int w] (jG0 sc) h (mQ sc (oAlive A i w) h) := by
  have h30 : (aKept A).length ≤ 30 := ok.1.2.2.2.2.1.1
  have e1 : h 160 163 = nI (aKept A).length := k.1.2.2.2.2.1.1
  have out : ∀ {e : Nat} {h' : jH}, jfr fMs h h' → h' 159 0 = nI (e + 1) → oAlive A i w = (e + 1, 0, A) → WP mX12_alive (mQ sc (oAlive A i w) h) 40 [some (.ref 159), some (.int i), some (.int w)] [] (jG0 sc) h' (0, 0) := fun f f0 o => by
    refine bX12_alive_40 (bX12_alive_58 ?_)
    rw [o]
    exact mQ_qx k f f0
  refine jM_of rfl (Nat.le_of_ble_eq_true rfl) (by decide +kernel) rfl (bX12_alive_0 (tX12_noAlive (by omega) e1) (fun _ _ q => by rw [← q.2, q.1]; exact tX12_throwsIf rfl) ?_ ?_)
  · rintro _ _ ⟨rfl, rfl⟩ _ _ q c
    have q := (throws_go (h0 := h) q).2 c
    rw [q.2]
    exact out (e := 0) ((jfr.rf.put rfl).put rfl) (by simp [jput]; rfl) (by rw [oAlive, sIf_f q.1])
  · rintro _ _ ⟨rfl, rfl⟩ _ _ q c
    have q := (throws_go (h0 := h) q).1 c
    have q1 := Classical.not_not.mp q.1
    rw [q.2]
    refine bX12_alive_18 tX12_in ?_ ?_
    · rintro _ _ ⟨rfl, rfl⟩ dd
      rw [sB_ne] at dd
      have q2 : aIx w 3 := (aIx_le1 (n := 2) (by omega)).mp ⟨dd.1, i_nlt.mp dd.2⟩
      refine bX12_alive_32 (bX12_alive_33 tX12_throws0 ?_ ?_)
      · rintro _ _ ⟨rfl, rfl⟩ -
        have eo : oAlive A i w = (0, sAliveTold (aBody (xS A)) ((aKept A).getD i.toNatClampNeg 0) w, A) := by rw [oAlive, sIf_t q1, sIf_t q2]
        rw [eo]
        obtain ⟨d, hd, rfl⟩ := q1
        obtain ⟨g0, g1, g2⟩ := al_ix (i := d) (by omega)
        obtain ⟨w0, w1, w2⟩ := k.1.2.2.2.2.1.2.1 d hd
        obtain ⟨e, he, rfl⟩ := q2
        refine bX12_alive_44 (by rw [g0, nI_add]; exact vp_in_nI (by omega) (by decide)) (bX12_alive_58 ?_)
        rw [g0, nI_add, nI_clamp (by omega), nI_clamp (by omega)]
        have : jput h 159 0 0 160 (164 + 3 * d + e) = sAliveTold (aBody (xS A)) ((aKept A).getD d 0) (nI e) := by
          show h 160 (164 + 3 * d + e) = _
          match e, he with
          | 0, _ => rw [sAliveTold, sIf_t (show nI 0 = 0 from rfl)]; exact w0
          | 1, _ => rw [sAliveTold, sIf_f (show ¬ nI 1 = 0 by decide), sIf_t (show nI 1 = 1 from rfl)]; exact w1
          | 2, _ => rw [sAliveTold, sIf_f (show ¬ nI 2 = 0 by decide), sIf_f (show ¬ nI 2 = 1 by decide)]; exact w2
        rw [this]
        exact mQ_q k (jfr.rf.put rfl) rfl
      · rintro _ _ ⟨rfl, -⟩ c; exact absurd rfl c
    · rintro _ _ ⟨rfl, rfl⟩ d
      rw [sB_eq] at d
      refine bX12_alive_28 (bX12_alive_33 tX12_throws1 ?_ ?_)
      · rintro _ _ ⟨rfl, -⟩ c; exact absurd c (by decide)
      · rintro _ _ ⟨rfl, rfl⟩ -
        exact out (e := 1) ((jfr.rf.put rfl).put rfl) (by simp [jput]; rfl) (by rw [oAlive, sIf_t q1, sIf_f (fun q => d (by have := (aIx_le1 (n := 2) (by omega)).mpr q; exact ⟨this.1, i_nlt.mpr this.2⟩))])
/-! aliveEnds -/
noncomputable def oAliveEnds (A : aA) (i x y : Int32) : aO := sIf (aIx i (aKept A).length) (0, sEnd (sShape (aBody (xS A)) ((aKept A).getD i.toNatClampNeg 0)) x y, A) (1, 0, A)
/-- a kept one's program: the class, into cell b -/
theorem tX3_kept {b : Nat} {i : Int32} (b_h : jI4 b) (hb : b + 1 < 10 ∨ 11 < b) (hbt : b + 1 < 75 ∨ 81 < b) (ok : aOk n A) (hm : isMends h 75 (aBody (xS A))) (ha : isP h 10 (aBody (xS A))) (q : aIx i (aKept A).length) :
    JM mX3_shape [.ref 75, .ref 10, .int (nI ((aKept A).getD i.toNatClampNeg 0)), .ref b] (jG0 sc) h (jint sc (fun r h' => isP h' b (sShape (aBody (xS A)) ((aKept A).getD i.toNatClampNeg 0)) ∧ jfr (fShape 75 b) h h')) := by
  have a_h : jI4 10 := by unfold jI4; decide
  have t_h : jI3 75 := by unfold jI3; decide
  have hfew := sAll_few ok.1.1
  have h30 : (aKept A).length ≤ 30 := ok.1.2.2.2.2.1.1
  have hk := kept_lt ok (aIx_c (by omega) q).1
  rw [sShape_O]
  exact jM_int (tX3_shape t_h a_h b_h ok.1.1 hm ha (by omega) (Or.inl (by decide)) (by omega) (by omega)) (fun x h' y => ⟨y.2.1, y.2.2⟩)
theorem sProg_sh {k : Nat} (hs : sProg p) : sProg (sShape p k) := by rw [sShape_O]; exact sProg_byO hs k
theorem ccAliveEnds {i x y : Int32} (ok : aOk n A) (k : RC h A) : JM mX11_aliveEnds [.ref 0, .int i, .int x, .int y] (jG0 sc) h (cQ sc ["java/lang/IndexOutOfBoundsException"] (oAliveEnds A i x y) h) := by
  have b_h : jI4 89 := by unfold jI4; decide
  refine jM_of rfl (Nat.le_of_ble_eq_true rfl) (by decide +kernel) rfl (rX11_aliveEnds_0 (tX11_keptNumber ok k) (P2 := fun _ h' => isP h' 89 (sShape (aBody (xS A)) ((aKept A).getD i.toNatClampNeg 0)) ∧ jfr fCs h h') ?_
    (P3 := fun r h' => r = sEnd (sShape (aBody (xS A)) ((aKept A).getD i.toNatClampNeg 0)) x y ∧ jfr fCs h h') ?_ ?_ ?_)
  · rintro _ _ ⟨e, rfl⟩ c
    rw [e] at c ⊢
    rw [kn_ne ok, Classical.not_not] at c
    rw [sIf_t c]
    exact jM_int (tX3_kept b_h (Or.inr (by decide)) (Or.inr (by decide)) ok k.2.2.2.2.2 k.1.1 c) (fun x h' y => ⟨y.1, y.2.mono rfl⟩)
  · rintro _ _ - - x2 h2 ⟨z1, z2⟩
    exact jM_int (tX10_end b_h (Or.inr (by decide)) z1 (sProg_sh ok.1.1) ((k.fr ok z2).2.2.2.2.1)) (fun r h' v => ⟨v.1, z2.tr2 (fWalk_Cs v.2.2.2.2)⟩)
  · rintro _ _ ⟨e, rfl⟩ c x2 h2 - x3 h3 ⟨z1, z2⟩
    rw [e, kn_ne ok, Classical.not_not] at c
    rw [oAliveEnds, sIf_t c, z1]
    exact cQ_q ok k z2
  · rintro _ _ ⟨e, rfl⟩ c
    rw [e, kn_ne ok] at c
    rw [oAliveEnds, sIf_f c]
    exact cQ_x rfl k (fun _ _ => rfl)
/-- a kept one's program: the reference -/
theorem tX12_laysAlive {i : Int32} (ok : aOk n A) (l : isML h (aBody (xS A))) (kt : isMTries (h 160) (aBody (xS A)) (aTr (xS A))) (q : aIx i (aKept A).length) :
    JM mX12_laysAlive [.ref 159, .int i] (jG0 sc) h (jvoid sc (fun h' => isMP (h' 167) 0 (sShape (aBody (xS A)) ((aKept A).getD i.toNatClampNeg 0)) ∧ jfr fProg h h')) := by
  have h30 : (aKept A).length ≤ 30 := ok.1.2.2.2.2.1.1
  obtain ⟨d, hd, rfl⟩ := q
  rw [nI_clamp (by omega)]
  have hk := kept_lt ok hd
  obtain ⟨g0, g1, g2⟩ := al_ix (i := d) (by omega)
  obtain ⟨w0, w1, w2⟩ := kt.2.1 d hd
  refine jM_of rfl (Nat.le_of_ble_eq_true rfl) (by decide +kernel) rfl (rX12_laysAlive_0 (by rw [g0, g1]; exact vp_in_nI (by omega) (by decide)) (by rw [g0, g2]; exact vp_in_nI (by omega) (by decide)) (P1 := fun h' => isMP (h' 167) 0 (sShape (aBody (xS A)) ((aKept A).getD d 0)) ∧ jfr fProg h h') ?_ (fun h1 z => jvoid_i z))
  rw [g0, g1, g2, nI_clamp (by omega), nI_clamp (by omega), w1, w2]
  have hz := List.getElem?_eq_getElem hk
  have ea := sAll_lt hz
  have e3 : sShape (aBody (xS A)) ((aKept A).getD d 0) = sBy (aBody (xS A)) ((sAll (sMends (aBody (xS A))))[(aKept A).getD d 0]) := by rw [sShape_O, hz]; rfl
  rw [e3]
  have e4 : sParts (aBody (xS A)) ((aKept A).getD d 0) = (nI ((sAll (sMends (aBody (xS A))))[(aKept A).getD d 0]).1, match ((sAll (sMends (aBody (xS A))))[(aKept A).getD d 0]).2 with | none => -1 | some d => nI d) := by
    unfold sParts
    rw [hz]
    generalize (sAll (sMends (aBody (xS A))))[(aKept A).getD d 0] = z
    obtain ⟨u, v⟩ := z
    cases v <;> rfl
  rw [e4]
  exact tX12_laysBy l.1 ok.1.1 l.2 ea.1 ea.2
theorem mmAliveEnds {i x y : Int32} (ok : aOk n A) (k : RM h A) : JM mX12_aliveEnds [.ref 159, .int i, .int x, .int y] (jG0 sc) h (mQ sc (oAliveEnds A i x y) h) := by
  have h30 : (aKept A).length ≤ 30 := ok.1.2.2.2.2.1.1
  have hp : isMP (h 160) 0 (aBody (xS A)) := k.1.1
  have e1 : h 160 163 = nI (aKept A).length := k.1.2.2.2.2.1.1
  refine jM_of rfl (Nat.le_of_ble_eq_true rfl) (by decide +kernel) rfl (bX12_aliveEnds_0 (tX12_noAlive (by omega) e1) (fun _ _ q => by rw [← q.2, q.1]; exact tX12_throwsIf rfl) ?_ ?_)
  · rintro _ _ ⟨rfl, rfl⟩ _ _ q c
    have q := (throws_go (h0 := h) q).1 c
    have q1 := Classical.not_not.mp q.1
    rw [q.2]
    refine bX12_aliveEnds_20 (P1 := fun h' => isML h' (aBody (xS A)) ∧ jfr fMs h h' ∧ h' 159 0 = 0) (jM_void (tX12_listed hp ok.1.1) (fun h' z => ⟨z.1, (jfr.rf.put rfl).tr z.2 (A := ([], [(159, 0, 0)])) rfl rfl, (z.2 159 0 rfl).trans rfl⟩))
      (P2 := fun h' => isMP (h' 167) 0 (sShape (aBody (xS A)) ((aKept A).getD i.toNatClampNeg 0)) ∧ jfr fMs h h' ∧ h' 159 0 = 0) (fun h1 z => jM_void (tX12_laysAlive ok z.1 (by rw [z.2.1.cell (k := 160) (fun _ => rfl)]; exact k.1.2.2.2.2.1) q1) (fun h' v => ⟨v.1, z.2.1.tr2 (v.2.mono rfl), (v.2 159 0 rfl).trans z.2.2⟩))
      (P3 := fun r h' => r = sEnd (sShape (aBody (xS A)) ((aKept A).getD i.toNatClampNeg 0)) x y ∧ jfr fMs h h' ∧ h' 159 0 = 0) (fun h1 _ h2 z => jM_int (tX12_endAt z.1 (sProg_sh ok.1.1)) (fun r h' v => ⟨v.1, z.2.1.tr2 (v.2.2.2.2.mono rfl), (v.2.2.2.2 159 0 rfl).trans z.2.2⟩)) ?_
    rintro h1 - h2 - x3 h3 ⟨z1, z2, z3⟩
    rw [oAliveEnds, sIf_t q1, z1]
    exact mQ_q k z2 z3
  · rintro _ _ ⟨rfl, rfl⟩ _ _ q c
    have q := (throws_go (h0 := h) q).2 c
    rw [q.2]
    refine bX12_aliveEnds_18 ?_
    rw [oAliveEnds, sIf_f q.1]
    exact mQ_qx k ((jfr.rf.put rfl).put rfl) (by simp [jput]; rfl)
end OP12
