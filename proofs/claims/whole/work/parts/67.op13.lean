/-! Operations row, tear, check. -/
section OP13
variable {sc : Nat × (Nat → Int32)} {h : jH} {A : aA} {n : Nat} {p q : List Int32} {rs : List aRun} {T : aT}
abbrev aRws (A : aA) : List aRow := tRows (aTr (xS A))
abbrev eRow : List String := ["java/util/NoSuchElementException"]
noncomputable def oRow (A : aA) (i w : Int32) : aO := sIf (aIx i (aRws A).length ∧ aIx w 2) (0, sIf (w = 0) ((aRws A).getD i.toNatClampNeg aRun0).1 ((aRws A).getD i.toNatClampNeg aRun0).2.1, A) (1, 0, A)
theorem ccRow {i w : Int32} (ok : aOk n A) (k : RC h A) : JM mX11_row [.ref 0, .int i, .int w] (jG0 sc) h (cQ sc eRow (oRow A i w) h) := by
  have h8 : (aRws A).length ≤ 8 := ok.1.2.2.2.2.1.2.2.2
  have e1 : h 20 9 = nI (aRws A).length := k.1.2.2.2.2.1.2.2.2.2.2.2.1
  have e8 := k.1.2.2.2.2.1.2.2.2.2.2.2.2
  have yes : ¬ i < 0 → ¬ h 20 9 ≤ i → aIx i (aRws A).length := fun a b => (aIx_le (by omega)).mp ⟨a, by rw [← e1]; exact b⟩
  have no : ¬ (aIx i (aRws A).length ∧ aIx w 2) → cQ sc eRow (oRow A i w) h (.inr "java/util/NoSuchElementException") (jG0 sc) h := fun q => by
    rw [oRow, sIf_f q]; exact cQ_x rfl k (fun _ _ => rfl)
  have vi : ¬ i < 0 → ¬ h 20 9 ≤ i → vp_in i 8 := fun a b => by obtain ⟨d, hd, rfl⟩ := yes a b; exact vp_in_nI (by omega) (by decide)
  have fin : ∀ {x : Int32}, ¬ i < 0 → ¬ h 20 9 ≤ i → ¬ w < 0 → w ≤ 1 → (aIx i (aRws A).length → x = sIf (w = 0) ((aRws A).getD i.toNatClampNeg aRun0).1 ((aRws A).getD i.toNatClampNeg aRun0).2.1) → cQ sc eRow (oRow A i w) h (.inl (some (.int x))) (jG0 sc) h := fun a b c d e => by
    rw [oRow, sIf_t ⟨yes a b, (aIx_le1 (n := 1) (by omega)).mp ⟨c, d⟩⟩, e (yes a b)]; exact cQ_v k (fun _ _ => rfl)
  refine jM_of rfl (Nat.le_of_ble_eq_true rfl) (by decide +kernel) rfl (rX11_row_0 (fun c => no (fun q => ((aIx_lt (by omega)).mpr q.1).1 c)) (fun _ c => no (fun q => ((aIx_le (by omega)).mpr q.1).2 (by rw [← e1]; exact c))) (fun a b c => ?_) (fun a b _ c => no (fun q => ((aIx_lt (by omega)).mpr q.2).1 c)) (fun a b _ _ _ _ => vi a b) (fun a b _ c d e => fin a b c d (fun q => ?_)) (fun a b _ _ _ _ => vi a b) (fun a b _ c d e => fin a b c d (fun q => ?_)) (fun a b _ c d => no (fun q => d ((aIx_le1 (n := 1) (by omega)).mpr q.2).2)))
  · obtain ⟨d, hd, rfl⟩ := yes a b
    exact absurd ((jn_le (a := 8) (by decide) (by omega)).mp c) (by omega)
  · rw [sIf_f e]; exact (e8 _ (aIx_c (by omega) q).1).2.1
  · rw [sIf_t e]; exact (e8 _ (aIx_c (by omega) q).1).1
theorem rw_ix {i : Nat} (hi : i < 8) : (255 : Int32) + 3 * nI i = nI (255 + 3 * i) ∧ (nI (255 + 3 * i) + 1 = nI (255 + 3 * i + 1)) ∧ (nI (255 + 3 * i) + 2 = nI (255 + 3 * i + 2)) := by
  refine ⟨?_, (nI_succ _).symm, nI_add _ 2⟩
  rw [show (3 : Int32) = nI 3 from rfl, show (255 : Int32) = nI 255 from rfl, pk_mul, nI_add]
theorem mmRow {i w : Int32} (ok : aOk n A) (k : RM h A) : JM mX12_row [.ref 159, .int i, .int w] (jG0 sc) h (mQ sc (oRow A i w) h) := by
  have h8 : (aRws A).length ≤ 8 := ok.1.2.2.2.2.1.2.2.2
  have e1 : h 160 254 = nI (aRws A).length := k.1.2.2.2.2.1.2.2.2.2.2.2.1
  have e8 := k.1.2.2.2.2.1.2.2.2.2.2.2.2
  have bad : ¬ (aIx i (aRws A).length ∧ aIx w 2) → WP mX12_row (mQ sc (oRow A i w) h) 23 [some (.ref 159), some (.int i), some (.int w)] [.ref 159] (jG0 sc) (jput h 159 0 0) (0, 0) := fun q => by
    refine bX12_row_23 (bX12_row_28 tX12_throws1 ?_ ?_)
    · rintro _ _ ⟨rfl, -⟩ c; exact absurd c (by decide)
    · rintro _ _ ⟨rfl, rfl⟩ -
      refine bX12_row_35 (bX12_row_53 ?_)
      rw [oRow, sIf_f q]
      exact mQ_qx k ((jfr.rf.put rfl).put rfl) (by simp [jput]; rfl)
  refine jM_of rfl (Nat.le_of_ble_eq_true rfl) (by decide +kernel) rfl (bX12_row_0 (tX12_noRow (by omega) e1) ?_ ?_)
  · rintro _ _ ⟨rfl, rfl⟩ c
    rw [sB_ne] at c
    exact bad (fun q => c q.1)
  · rintro _ _ ⟨rfl, rfl⟩ c
    have q1 := sB_not.mp c
    refine bX12_row_14 tX12_in ?_ ?_
    · rintro _ _ ⟨rfl, rfl⟩ dd
      rw [sB_ne] at dd
      have q2 : aIx w 2 := (aIx_le1 (n := 1) (by omega)).mp ⟨dd.1, i_nlt.mp dd.2⟩
      refine bX12_row_27 (bX12_row_28 tX12_throws0 ?_ ?_)
      · rintro _ _ ⟨rfl, rfl⟩ -
        have eo : oRow A i w = (0, sIf (w = 0) ((aRws A).getD i.toNatClampNeg aRun0).1 ((aRws A).getD i.toNatClampNeg aRun0).2.1, A) := by rw [oRow, sIf_t ⟨q1, q2⟩]
        rw [eo]
        obtain ⟨d, hd, rfl⟩ := q1
        obtain ⟨g0, g1, g2⟩ := rw_ix (i := d) (by omega)
        obtain ⟨w0, w1, w2⟩ := e8 d hd
        obtain ⟨e, he, rfl⟩ := q2
        refine bX12_row_39 (by rw [g0, nI_add]; exact vp_in_nI (by omega) (by decide)) (bX12_row_53 ?_)
        rw [g0, nI_add, nI_clamp (by omega), nI_clamp (by omega)]
        have : jput h 159 0 0 160 (255 + 3 * d + e) = sIf (nI e = 0) ((aRws A).getD d aRun0).1 ((aRws A).getD d aRun0).2.1 := by
          show h 160 (255 + 3 * d + e) = _
          match e, he with
          | 0, _ => rw [sIf_t (show nI 0 = 0 from rfl)]; exact w0
          | 1, _ => rw [sIf_f (show ¬ nI 1 = 0 by decide)]; exact w1
        rw [this]
        exact mQ_q k (jfr.rf.put rfl) rfl
      · rintro _ _ ⟨rfl, -⟩ c; exact absurd rfl c
    · rintro _ _ ⟨rfl, rfl⟩ dd
      rw [sB_eq] at dd
      exact bad (fun q => dd (by have := (aIx_le1 (n := 1) (by omega)).mpr q.2; exact ⟨this.1, i_nlt.mpr this.2⟩))
/-! check -/
noncomputable def oCheck (A : aA) : aO := (0, sFirst1 (fun i => ¬ ((aRws A).getD i aRun0).2.1 = ((aRws A).getD i aRun0).2.2) (aRws A).length 0, A)
theorem ccCheck (ok : aOk n A) (k : RC h A) : JM mX11_check [.ref 0] (jG0 sc) h (cQ sc [] (oCheck A) h) := by
  have h8 : (aRws A).length ≤ 8 := ok.1.2.2.2.2.1.2.2.2
  have e1 : h 20 9 = nI (aRws A).length := k.1.2.2.2.2.1.2.2.2.2.2.2.1
  have e8 := k.1.2.2.2.2.1.2.2.2.2.2.2.2
  refine jM_of rfl (Nat.le_of_ble_eq_true rfl) (by decide +kernel) rfl (rX11_check_0 ?_)
  refine jloop (fun i (_ : Unit) => WP mX11_check _ 10 [some (.ref 0), some (.ref 20), some (.int (nI i))] [] (jG0 sc) h (0, 0))
    (fun i _ => sFirst1 (fun i => ¬ ((aRws A).getD i aRun0).2.1 = ((aRws A).getD i aRun0).2.2) (aRws A).length 0 = sFirst1 (fun i => ¬ ((aRws A).getD i aRun0).2.1 = ((aRws A).getD i aRun0).2.2) ((aRws A).length - i) i) (aRws A).length ?_ ?_ 0 () (by omega) rfl
  · intro _ i1
    rw [Nat.sub_self] at i1
    have no : ¬ h 20 9 ≤ nI (aRws A).length → False := fun c => c (by rw [e1]; exact nI_le (Nat.le_refl _) (by omega))
    refine rX11_check_10 (fun _ => ?_) (fun c => (no c).elim) (fun c => (no c).elim) (fun c => (no c).elim) (fun c => (no c).elim)
    rw [oCheck, i1]; exact cQ_v k (fun _ _ => rfl)
  · intro i _ hi i1 kk
    have nle : ¬ h 20 9 ≤ nI i := by rw [e1, jn_le (by omega) (by omega)]; omega
    have nle2 : ¬ (8 : Int32) ≤ nI i := fun c => by have := (jn_le (a := 8) (by decide) (by omega)).mp c; omega
    obtain ⟨w0, w1, w2⟩ := e8 i hi
    obtain ⟨m, hm⟩ : ∃ m, (aRws A).length - i = m + 1 := ⟨(aRws A).length - i - 1, by omega⟩
    rw [hm] at i1
    refine rX11_check_10 (fun c => absurd c nle) (fun _ c => absurd c nle2) (fun _ _ => vp_in_nI (by omega) (by decide)) (fun _ _ c => ?_) (fun _ _ c => ?_)
    all_goals rw [nI_clamp (show i < 2 ^ 31 by omega), show h 23 i = _ from w1, show h 24 i = _ from w2] at c
    · rw [← nI_succ]
      refine kk () ?_
      rw [i1, sFirst1_f (fun q => q c), show (aRws A).length - (i + 1) = m by omega]
    · rw [oCheck, i1, sFirst1_t c]; exact cQ_v k (fun _ _ => rfl)
theorem mmCheck (ok : aOk n A) (k : RM h A) : JM mX12_check [.ref 159] (jG0 sc) h (mQ sc (oCheck A) h) := by
  have h8 : (aRws A).length ≤ 8 := ok.1.2.2.2.2.1.2.2.2
  have e1 : jput h 159 0 0 160 254 = nI (aRws A).length := k.1.2.2.2.2.1.2.2.2.2.2.2.1
  have e8 := k.1.2.2.2.2.1.2.2.2.2.2.2.2
  refine jM_of rfl (Nat.le_of_ble_eq_true rfl) (by decide +kernel) rfl (rX12_check_0 ?_)
  refine jloop (fun i (_ : Unit) => WP mX12_check _ 7 [some (.ref 159), some (.int (nI i))] [] (jG0 sc) (jput h 159 0 0) (0, 0))
    (fun i _ => sFirst1 (fun i => ¬ ((aRws A).getD i aRun0).2.1 = ((aRws A).getD i aRun0).2.2) (aRws A).length 0 = sFirst1 (fun i => ¬ ((aRws A).getD i aRun0).2.1 = ((aRws A).getD i aRun0).2.2) ((aRws A).length - i) i) (aRws A).length ?_ ?_ 0 () (by omega) rfl
  · intro _ i1
    rw [Nat.sub_self] at i1
    have no : ¬ jput h 159 0 0 160 254 ≤ nI (aRws A).length → False := fun c => c (by rw [e1]; exact nI_le (Nat.le_refl _) (by omega))
    refine rX12_check_7 (fun _ => ?_) (fun c => (no c).elim) (fun c => (no c).elim) (fun c => (no c).elim) (fun c => (no c).elim)
    rw [oCheck, i1]; exact mQ_q k (jfr.rf.put rfl) rfl
  · intro i _ hi i1 kk
    have nle : ¬ jput h 159 0 0 160 254 ≤ nI i := by rw [e1, jn_le (by omega) (by omega)]; omega
    obtain ⟨g0, g1, g2⟩ := rw_ix (i := i) (by omega)
    obtain ⟨w0, w1, w2⟩ := e8 i hi
    obtain ⟨m, hm⟩ : ∃ m, (aRws A).length - i = m + 1 := ⟨(aRws A).length - i - 1, by omega⟩
    rw [hm] at i1
    refine rX12_check_7 (fun c => absurd c nle) (fun _ => by rw [g0, g1]; exact vp_in_nI (by omega) (by decide)) (fun _ => by rw [g0, g2]; exact vp_in_nI (by omega) (by decide)) (fun _ c => ?_) (fun _ c => ?_)
    all_goals rw [g0, g1, g2, nI_clamp (by omega), nI_clamp (by omega), show jput h 159 0 0 160 (255 + 3 * i + 1) = _ from w1, show jput h 159 0 0 160 (255 + 3 * i + 2) = _ from w2] at c
    · rw [← nI_succ]
      refine kk () ?_
      rw [i1, sFirst1_f (fun q => q c), show (aRws A).length - (i + 1) = m by omega]
    · rw [oCheck, i1, sFirst1_t c]; exact mQ_q k (jfr.rf.put rfl) rfl
/-! tear -/
def rTear (r : aRow) (m : Int32) : aRow := (r.1, r.2.1 ^^^ m, r.2.2)
noncomputable def oTear (A : aA) (i m : Int32) : aO := sIf (aIx i (aRws A).length) (0, ((aRws A).getD i.toNatClampNeg aRun0).2.1 ^^^ m, uS A (uTr (xS A) (uRows (aTr (xS A)) ((aRws A).set i.toNatClampNeg (rTear ((aRws A).getD i.toNatClampNeg aRun0) m))))) (1, 0, A)
theorem okTear {i m : Int32} (ok : aOk n A) : aOk n (oTear A i m).2.2 := by
  unfold oTear
  by_cases q : aIx i (aRws A).length
  · rw [sIf_t q]
    obtain ⟨a, b, c, d⟩ := ok.1.2.2.2.2.1
    exact okTr ok ⟨a, b, c, by show ((aRws A).set _ _).length ≤ 8; rw [List.length_set]; exact d⟩
  · rw [sIf_f q]; exact ok
theorem ccTear {i m : Int32} (ok : aOk n A) (k : RC h A) : JM mX11_tear [.ref 0, .int i, .int m] (jG0 sc) h (cQ sc eRow (oTear A i m) h) := by
  have h8 : (aRws A).length ≤ 8 := ok.1.2.2.2.2.1.2.2.2
  obtain ⟨e1, e2, e3, e4, e5, e6, e7, e8⟩ := k.1.2.2.2.2.1
  have e9 : h 20 9 = nI (aRws A).length := e7
  have yes : ¬ i < 0 → ¬ h 20 9 ≤ i → aIx i (aRws A).length := fun a b => (aIx_le (by omega)).mp ⟨a, by rw [← e9]; exact b⟩
  have no : ¬ aIx i (aRws A).length → cQ sc eRow (oTear A i m) h (.inr "java/util/NoSuchElementException") (jG0 sc) h := fun q => by
    rw [oTear, sIf_f q]; exact cQ_x rfl k (fun _ _ => rfl)
  refine jM_of rfl (Nat.le_of_ble_eq_true rfl) (by decide +kernel) rfl (rX11_tear_0 (fun c => no (fun q => ((aIx_lt (by omega)).mpr q).1 c)) (fun _ c => no (fun q => ((aIx_le (by omega)).mpr q).2 (by rw [← e9]; exact c))) (fun a b _ => by obtain ⟨d, hd, rfl⟩ := yes a b; exact vp_in_nI (by omega) (by decide)) (fun a b _ => ?_) (fun a b c => absurd (by obtain ⟨d, hd, rfl⟩ := yes a b; exact (jn_lt (b := 8) (by omega) (by decide)).mpr (by omega)) c))
  have q := yes a b
  rw [oTear, sIf_t q]
  obtain ⟨d, hd, rfl⟩ := q
  rw [nI_clamp (by omega)]
  obtain ⟨w0, w1, w2⟩ := e8 d hd
  have w1 : h 23 d = ((aRws A).getD d aRun0).2.1 := w1
  rw [w1, jput_at]
  have f : jfr ([(23, 23)], []) h (jput h 23 d (((aRws A).getD d aRun0).2.1 ^^^ m)) := jfr.rf.put (by rw [jin_iff]; simp)
  refine cQ_v (RC_tr k ok (f.mono rfl) ⟨e1, e2, e3, e4, e5, e6, ?_, fun j hj => ?_⟩) (fC.of f ⟨rfl, rfl⟩)
  · show _ = nI ((aRws A).set d _).length
    rw [List.length_set]; exact e7
  · have hj' : j < ((aRws A).set d (rTear ((aRws A).getD d aRun0) m)).length := hj
    rw [List.length_set] at hj'
    obtain ⟨v0, v1, v2⟩ := e8 j hj'
    show h 22 j = (((aRws A).set d (rTear ((aRws A).getD d aRun0) m)).getD j aRun0).1 ∧ jput h 23 d _ 23 j = (((aRws A).set d (rTear ((aRws A).getD d aRun0) m)).getD j aRun0).2.1 ∧ h 24 j = (((aRws A).set d (rTear ((aRws A).getD d aRun0) m)).getD j aRun0).2.2
    by_cases z : j = d
    · subst z
      have e : ((aRws A).set j (rTear ((aRws A).getD j aRun0) m)).getD j aRun0 = rTear ((aRws A).getD j aRun0) m := by
        simp only [List.getD_eq_getElem?_getD, List.getElem?_set_self hj', Option.getD_some]
      rw [e, jput_at]
      exact ⟨v0, rfl, v2⟩
    · have e : ((aRws A).set d (rTear ((aRws A).getD d aRun0) m)).getD j aRun0 = (aRws A).getD j aRun0 := by
        simp only [List.getD_eq_getElem?_getD, List.getElem?_set_ne (show d ≠ j from fun q => z q.symm)]
      rw [e, jput_sl z]
      exact ⟨v0, v1, v2⟩
theorem mmTear {i m : Int32} (ok : aOk n A) (k : RM h A) : JM mX12_tear [.ref 159, .int i, .int m] (jG0 sc) h (mQ sc (oTear A i m) h) := by
  have h8 : (aRws A).length ≤ 8 := ok.1.2.2.2.2.1.2.2.2
  obtain ⟨e1, e2, e3, e4, e5, e6, e7, e8⟩ := k.1.2.2.2.2.1
  have e9 : h 160 254 = nI (aRws A).length := e7
  have h30 : (aKept A).length ≤ 30 := ok.1.2.2.2.2.1.1
  refine jM_of rfl (Nat.le_of_ble_eq_true rfl) (by decide +kernel) rfl (bX12_tear_0 (tX12_noRow (by omega) e9) (fun _ _ q => by rw [← q.2, q.1]; exact tX12_throwsIf rfl) ?_ ?_)
  · rintro _ _ ⟨rfl, rfl⟩ _ _ q c
    have q := (throws_go (h0 := h) q).1 c
    have q1 := Classical.not_not.mp q.1
    rw [q.2]
    have eo : oTear A i m = (0, ((aRws A).getD i.toNatClampNeg aRun0).2.1 ^^^ m, uS A (uTr (xS A) (uRows (aTr (xS A)) ((aRws A).set i.toNatClampNeg (rTear ((aRws A).getD i.toNatClampNeg aRun0) m))))) := by rw [oTear, sIf_t q1]
    rw [eo]
    obtain ⟨d, hd, rfl⟩ := q1
    rw [nI_clamp (n := d) (by omega)]
    obtain ⟨g0, g1, g2⟩ := rw_ix (i := d) (by omega)
    obtain ⟨w0, w1, w2⟩ := e8 d hd
    have w1' : jput h 159 0 0 160 (255 + 3 * d + 1) = ((aRws A).getD d aRun0).2.1 := w1
    have v : vp_in (nI (255 + 3 * d + 1)) 1454 := vp_in_nI (by omega) (by decide)
    refine bX12_tear_20 (by rw [g0, g1]; exact v) (by rw [g0, g1]; exact v) ?_
    rw [g0, g1, nI_clamp (by omega), w1']
    refine bX12_tear_51 v ?_
    rw [nI_clamp (by omega), jput_at]
    have off : ∀ j, j ≠ 255 + 3 * d + 1 → jput (jput h 159 0 0) 160 (255 + 3 * d + 1) (((aRws A).getD d aRun0).2.1 ^^^ m) 160 j = h 160 j := fun j hj => by rw [jput_sl hj]; rfl
    refine jint_i ⟨fun _ => rfl, rfl, ⟨?_, k.2.1.eq rfl rfl, k.2.2.1.eq rfl rfl, k.2.2.2⟩, fun c hc => by rw [jput_ne (by omega), jput_ne (by omega)]⟩
    refine rM_tries (w := h 160) k.1 ok.1 (fun j hj => off j (by omega)) ⟨(off _ (by omega)).trans e1, fun j hj => ?_, (off _ (by omega)).trans e3, (off _ (by omega)).trans e4, (off _ (by omega)).trans e5, (off _ (by omega)).trans e6, ?_, fun j hj => ?_⟩
    · have hj' : j < (aKept A).length := hj
      rw [off _ (by omega), off _ (by omega), off _ (by omega)]; exact e2 j hj
    · rw [off _ (by omega)]
      show _ = nI ((aRws A).set d _).length
      rw [List.length_set]; exact e7
    · have hj' : j < ((aRws A).set d (rTear ((aRws A).getD d aRun0) m)).length := hj
      rw [List.length_set] at hj'
      obtain ⟨v0, v1, v2⟩ := e8 j hj'
      show jput _ _ _ _ 160 (255 + 3 * j) = (((aRws A).set d (rTear ((aRws A).getD d aRun0) m)).getD j aRun0).1 ∧ jput _ _ _ _ 160 (255 + 3 * j + 1) = (((aRws A).set d (rTear ((aRws A).getD d aRun0) m)).getD j aRun0).2.1 ∧ jput _ _ _ _ 160 (255 + 3 * j + 2) = (((aRws A).set d (rTear ((aRws A).getD d aRun0) m)).getD j aRun0).2.2
      by_cases z : j = d
      · subst z
        have e : ((aRws A).set j (rTear ((aRws A).getD j aRun0) m)).getD j aRun0 = rTear ((aRws A).getD j aRun0) m := by
          simp only [List.getD_eq_getElem?_getD, List.getElem?_set_self hj', Option.getD_some]
        rw [e, jput_at, off _ (by omega), off _ (by omega)]
        exact ⟨v0, rfl, v2⟩
      · have e : ((aRws A).set d (rTear ((aRws A).getD d aRun0) m)).getD j aRun0 = (aRws A).getD j aRun0 := by
          simp only [List.getD_eq_getElem?_getD, List.getElem?_set_ne (show d ≠ j from fun q => z q.symm)]
        rw [e, off _ (by omega), off _ (by omega), off _ (by omega)]
        exact ⟨v0, v1, v2⟩
  · rintro _ _ ⟨rfl, rfl⟩ _ _ q c
    have q := (throws_go (h0 := h) q).2 c
    rw [q.2]
    refine bX12_tear_18 ?_
    rw [oTear, sIf_f q.1]
    exact mQ_qx k ((jfr.rf.put rfl).put rfl) (by simp [jput]; rfl)
end OP13
