/-! Operations: done. -/
section OP4
variable {sc : Nat × (Nat → Int32)} {h : jH} {A : aA} {n : Nat} {p : List Int32} {rs : List aRun}
/-- RIGHT or WRONG runs as bits -/
noncomputable def sSet (p : List Int32) (rs : List aRun) (w : Bool) : Int32 := match w with
  | false => sRightBits p rs
  | true => sBits (fun i => ¬ sRightAt p rs i) rs.length
theorem bt_sSet {w : Bool} {i : Nat} (h12 : rs.length ≤ 12) (hi : i < 32) : bt (sSet p rs w) i = true ↔ i < rs.length ∧ (sRightAt p rs i ↔ w = false) := by
  cases w with
  | false => exact (bt_sBits (by omega) hi).trans (by simp)
  | true => exact (bt_sBits (by omega) hi).trans (by simp)
theorem tX7_doneIn {line : Nat} {w : Bool} (hl : line < 32) (h12 : rs.length ≤ 12) (hv : isSurvey h p rs) :
    JM mX7_doneIn [.ref 72, .int (nI line), .int (sSet p rs w)] (jG0 sc) h (jgets sc (sDoneIn p rs line w) h) := by
  refine jM_of rfl (Nat.le_of_ble_eq_true rfl) (by decide +kernel) rfl (rX7_doneIn_0 ?_)
  refine jloop (fun i (b : Int32) => WP mX7_doneIn _ 5 [some (.ref 72), some (.int (nI line)), some (.int (sSet p rs w)), some (.int b), some (.int (nI i))] [] (jG0 sc) h (0, 0))
    (fun i b => b = sTot (fun i => sB ((sRightAt p rs i ↔ w = false) ∧ bt (sDone p (rs.getD i aRun0).1 (rs.getD i aRun0).2.1) line = true)) (min i rs.length)) 12 ?_ ?_ 0 0 (by omega) (by rw [Nat.zero_min]; rfl)
  · rintro b i1
    refine rX7_doneIn_5 (fun _ => jgets_i ?_) (fun c => absurd (by decide) c) (fun c => absurd (by decide) c) (fun c => absurd (by decide) c)
    rw [i1, Nat.min_eq_right h12]; rfl
  · rintro i b hi i1 k
    have no : ¬ (12 : Int32) ≤ nI i := fun c => by have := (jn_le (a := 12) (by decide) (by omega)).mp c; omega
    refine rX7_doneIn_5 (fun c => absurd c no) (fun _ c => ?_) (fun _ _ => vp_in_nI hi (by decide)) (fun _ c => ?_)
    · rw [x_bit1 (by omega), bt_sSet h12 (by omega)] at c
      rw [← nI_succ, Int32.add_zero]
      refine k b ?_
      rw [i1]
      by_cases g : i < rs.length
      · rw [Nat.min_eq_left (by omega), Nat.min_eq_left (by omega), sTot, sB_f (fun q => c ⟨g, q.1⟩), Int32.add_zero]
      · rw [Nat.min_eq_right (by omega), Nat.min_eq_right (by omega)]
    · rw [x_bit1 (by omega), bt_sSet h12 (by omega)] at c
      rw [← nI_succ, nI_clamp (by omega), (hv.2.2 i c.1).1, x_bit hl]
      refine k _ ?_
      rw [i1, Nat.min_eq_left (by omega), Nat.min_eq_left (by omega), sTot]
      by_cases g : bt (sDone p (rs.getD i aRun0).1 (rs.getD i aRun0).2.1) line = true
      · rw [if_pos g, sB_t ⟨c.2, g⟩]
      · rw [if_neg g, sB_f (fun q => g q.2)]
noncomputable def oDone (A : aA) (line : Int32) (w : Bool) : aO := sIf (aIx line (aBody (xS A)).length) (0, sDoneIn (aBody (xS A)) (aRuns (xS A)) line.toNatClampNeg w, A) (1, 0, A)
theorem fSurvey_Cs {h' : jH} (f : jfr fSurvey h h') : jfr fCs h h' := f.mono rfl
theorem ccDone {l z : Int32} {w : Bool} (hz : z = if w then 1 else 0) (ok : aOk n A) (k : RC h A) : JM mX11_done [.ref 0, .int l, .int z] (jG0 sc) h (cQ sc ["java/lang/IndexOutOfBoundsException"] (oDone A l w) h) := by
  have h12 := ok.1.2.2.1.1
  have hr : isRuns h 14 (aRuns (xS A)) := k.1.2.2.1
  have hp : isP h 10 (aBody (xS A)) := k.1.1
  have h10 := hp.2.1
  have no : ¬ aIx l (aBody (xS A)).length → cQ sc ["java/lang/IndexOutOfBoundsException"] (oDone A l w) h (.inr "java/lang/IndexOutOfBoundsException") (jG0 sc) h := fun q => by
    rw [oDone, sIf_f q]; exact cQ_x rfl k (fun _ _ => rfl)
  have yes : ¬ l < 0 → l < h 10 1 → aIx l (aBody (xS A)).length := fun a b => (aIx_lt (by omega)).mp ⟨a, by rw [← hp.1]; exact b⟩
  have sv : JM mX7_of [.ref 72, .ref 10, .ref 14, .ref 69] (jG0 sc) h (jvoid sc (fun h' => isSurvey h' (aBody (xS A)) (aRuns (xS A)) ∧ jfr fSurvey h h')) := tX7_of hp ok.1.1 hr h12 k.2.2.2.2.1
  have fin : ∀ {x : Int32} {h2 : jH}, ¬ l < 0 → l < h 10 1 → x = sDoneIn (aBody (xS A)) (aRuns (xS A)) l.toNatClampNeg w → jfr fSurvey h h2 → cQ sc ["java/lang/IndexOutOfBoundsException"] (oDone A l w) h (.inl (some (.int x))) (jG0 sc) h2 := fun a b e f => by
    rw [oDone, sIf_t (yes a b), e]; exact cQ_q ok k (fSurvey_Cs f)
  have go : ∀ {h1 : jH} {v : Int32}, ¬ l < 0 → l < h 10 1 → isSurvey h1 (aBody (xS A)) (aRuns (xS A)) ∧ jfr fSurvey h h1 → v = sSet (aBody (xS A)) (aRuns (xS A)) w → JM mX7_doneIn [.ref 72, .int l, .int v] (jG0 sc) h1 (jint sc (fun x h' => x = sDoneIn (aBody (xS A)) (aRuns (xS A)) l.toNatClampNeg w ∧ jfr fSurvey h h')) := fun a b q e => by
    obtain ⟨d, hd, rfl⟩ := yes a b
    rw [nI_clamp (by omega), e]
    exact jM_get (tX7_doneIn (by omega) h12 q.1) q.2
  cases w with
  | false =>
    subst hz
    refine jM_of rfl (Nat.le_of_ble_eq_true rfl) (by decide +kernel) rfl (rX11_done_0 (fun c => no (fun q => ((aIx_lt (by omega)).mpr q).1 c)) (fun _ _ => sv) (fun a b h1 q _ => go a b q q.1.1) (fun a b _ _ _ x h2 q => fin a b q.1 q.2) (P3 := fun _ _ => True) (fun _ _ _ _ c => absurd rfl c) (fun _ _ _ _ c => absurd rfl c) (fun _ c => no (fun q => c (by rw [hp.1]; exact ((aIx_lt (by omega)).mpr q).2))))
  | true =>
    subst hz
    refine jM_of rfl (Nat.le_of_ble_eq_true rfl) (by decide +kernel) rfl (rX11_done_0 (fun c => no (fun q => ((aIx_lt (by omega)).mpr q).1 c)) (fun _ _ => sv) (P2 := fun _ _ => True) (fun _ _ _ _ c => absurd c (by decide)) (fun _ _ _ _ c => absurd c (by decide)) (fun a b h1 q _ => go a b q q.1.2.1) (fun a b _ _ _ x h2 q => fin a b q.1 q.2) (fun _ c => no (fun q => c (by rw [hp.1]; exact ((aIx_lt (by omega)).mpr q).2))))
theorem mmDone {l z : Int32} {w : Bool} (hz : z = if w then 1 else 0) (ok : aOk n A) (k : RM h A) : JM mX12_done [.ref 159, .int l, .int z] (jG0 sc) h (mQ sc (oDone A l w) h) := by
  have h12 := ok.1.2.2.1.1
  have hr : isMRuns (h 160) (aRuns (xS A)) := k.1.2.2.1
  have hp : isMP (h 160) 0 (aBody (xS A)) := k.1.1
  have h10 := hp.2.1
  have e0 : jput h 159 0 0 160 0 = nI (aBody (xS A)).length := hp.1
  refine jM_of rfl (Nat.le_of_ble_eq_true rfl) (by decide +kernel) rfl (bX12_done_0 tX12_lines (fun _ _ q => by rw [← q.2, q.1, e0]; exact tX12_in) ?_ ?_)
  · rintro _ _ - _ _ ⟨rfl, rfl⟩ c
    rw [sB_ne, aIx_in (by omega)] at c
    refine bX12_done_24 (bX12_done_25 tX12_throws0 ?_ ?_)
    · rintro _ _ ⟨rfl, rfl⟩ -
      obtain ⟨hd, er⟩ := aIx_c (by omega) c
      refine bX12_done_34 (P1 := fun h' => isMP (h' 167) 0 (aBody (xS A)) ∧ jfr fMs h h' ∧ h' 159 0 = 0) (jM_void (tX12_lays (fr := 0) (by decide) hp) (fun h' z => ⟨z.1, (jfr.rf.put rfl).tr z.2 (A := ([], [(159, 0, 0)])) rfl rfl, (z.2 159 0 rfl).trans rfl⟩))
        (P2 := fun x h' => x = sDoneIn (aBody (xS A)) (aRuns (xS A)) l.toNatClampNeg w ∧ jfr fMs h h' ∧ h' 159 0 = 0) (fun h1 z => ?_) ?_
      · generalize l.toNatClampNeg = d at *
        subst er
        exact jM_int (tX12_doneIn (by omega) hz z.1 ok.1.1 (by rw [z.2.1.cell (k := 160) (fun _ => rfl)]; exact hr) h12) (fun x h' y => ⟨y.1, z.2.1.tr y.2 rfl rfl, (y.2 159 0 rfl).trans z.2.2⟩)
      · rintro h1 - x2 h2 ⟨z1, z2, z3⟩
        rw [oDone, sIf_t c, z1]
        exact mQ_q k z2 z3
    · rintro _ _ ⟨rfl, -⟩ c; exact absurd rfl c
  · rintro _ _ - _ _ ⟨rfl, rfl⟩ c
    rw [sB_eq, aIx_in (by omega)] at c
    refine bX12_done_20 (bX12_done_25 tX12_throws1 ?_ ?_)
    · rintro _ _ ⟨rfl, -⟩ c; exact absurd c (by decide)
    · rintro _ _ ⟨rfl, rfl⟩ -
      refine bX12_done_32 ?_
      rw [oDone, sIf_f c]
      exact mQ_qx k ((jfr.rf.put rfl).put rfl) (by simp [jput]; rfl)
end OP4
