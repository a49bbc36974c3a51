/-! The class asks what stands at a token. -/
section TQ
variable {sc : Nat × (Nat → Int32)} {h h0 : jH} {T : List Int32} {b d n : Nat} {u : Bool} {ls : List Int32}
theorem nI_subN {a b : Nat} (h : b ≤ a) : nI a - nI b = nI (a - b) := by
  have : nI (a - b) + nI b = nI a := by rw [nI_add, Nat.sub_add_cancel h]
  rw [← this]; exact Int32.add_sub_cancel _ _
theorem kd_le : tKind T b ≤ 3 := by
  by_cases h1 : T.length ≤ b
  · rw [(tk0 h1).1]; decide
  · by_cases h2 : isLet (T.getD b 0)
    · rw [(tk1 (by omega) h2).1]; decide
    · by_cases h3 : isDig (T.getD b 0)
      · rw [(tk2 (by omega) h2 h3).1]; decide
      · rw [(tk3 (by omega) h2 h3).1]; decide
theorem te_le (hb : b ≤ T.length) : b ≤ tEnd T b ∧ tEnd T b ≤ T.length ∧ (b < T.length → b < tEnd T b) := by
  by_cases h1 : T.length ≤ b
  · rw [(tk0 h1).2]; exact ⟨Nat.le_refl _, hb, fun _ => by omega⟩
  · have hb1 : b + 1 ≤ T.length := by omega
    by_cases h2 : isLet (T.getD b 0)
    · rw [(tk1 (by omega) h2).2]; obtain ⟨x, y, -⟩ := sSpan_in (P := isLet) hb1; exact ⟨by omega, y, fun _ => by omega⟩
    · by_cases h3 : isDig (T.getD b 0)
      · rw [(tk2 (by omega) h2 h3).2]; obtain ⟨x, y, -⟩ := sSpan_in (P := isDig) hb1; exact ⟨by omega, y, fun _ => by omega⟩
      · rw [(tk3 (by omega) h2 h3).2]; exact ⟨by omega, hb1, fun _ => by omega⟩
theorem isTok.kd (k : isTok h T b) {m : Nat} (hm : m < 2 ^ 31) : h 1 2 = nI m ↔ tKind T b = m := by
  have := kd_le (T := T) (b := b)
  rw [k.1, jn_eq (by omega) hm]
theorem isTok.len (k : isTok h T b) (hb : b ≤ T.length) : h 1 4 - h 1 3 = nI (tEnd T b - b) := by
  rw [k.2.1, k.2.2.1, nI_subN (te_le hb).1]
def tMark (T : List Int32) (b : Nat) (c : Int32) : Prop := tKind T b = 3 ∧ T.getD b 0 = c
def tNumb (T : List Int32) (b d : Nat) : Prop := tKind T b = 2 ∧ tEnd T b - b ≤ d
def tWd (T : List Int32) (b n : Nat) : Prop := tKind T b = 1 ∧ tEnd T b - b = jTxtL.getD n 0 ∧ ∀ j, j < jTxtL.getD n 0 → T.getD (b + j) 0 = jch n j
def sIdxF (n : Nat) (c : Int32) : Nat → Nat → Int32
  | 0, _ => -1
  | f + 1, k => if c = jch n k then nI k else sIdxF n c f (k + 1)
def sIdx (n : Nat) (c : Int32) : Int32 := sIdxF n c (jTxtL.getD n 0) 0
noncomputable def tLet (T : List Int32) (b n : Nat) : Int32 := sIf (tKind T b = 1 ∧ tEnd T b - b = 1) (sIdx n (T.getD b 0)) (-1)
def sSg (c : Int32) : Int32 := if c = 43 then 1 else if c = 45 then 2 else if c = 42 then 3 else if c = 47 then 4 else if c = 37 then 5 else if c = 60 then 6 else if c = 62 then 7 else if c = 61 then 8 else 0
noncomputable def tSgn (T : List Int32) (b : Nat) : Int32 := sIf (tKind T b = 3) (sSg (T.getD b 0)) 0
noncomputable def sAt (T : List Int32) (b d n : Nat) : Int32 := sIf (tNumb T b d) (nI (sNum T b (tEnd T b - b)) + 10) (tLet T b n)
theorem tJlength (hn : n < 22) : JM mJlength [.ref (1001 + n)] (jG0 sc) h (jgets sc (nI (jTxtL.getD n 0)) h) := jM_mono (jlength_ok hn) (fun o Γ' h' z => by obtain ⟨a, b, c⟩ := z; exact ⟨_, a, b, rfl, c.symm⟩)
theorem jTxtL_le : ∀ i, i < 22 → jTxtL.getD i 0 ≤ 6 := by decide +kernel
theorem tJcharAt {j : Nat} (hn : n < 22) (hj : j < jTxtL.getD n 0) : JM mJcharAt [.ref (1001 + n), .int (nI j)] (jG0 sc) h (jgets sc (jch n j) h) := by
  have := jTxtL_le n hn
  refine jM_mono (jcharAt_ok hn (nI_pos (by omega)) ((jn_lt (b := jTxtL.getD n 0) (by omega) (by omega)).mpr hj)) (fun o Γ' h' z => ?_)
  obtain ⟨a, b, c⟩ := z
  exact ⟨_, a, b, by rw [nI_clamp (by omega)], c.symm⟩
theorem tX8_isMark {c : Int32} (k : isTok h T b) : JM mX8_isMark [.ref 1, .int c] (jG0 sc) h (jgets sc (sB (tMark T b c)) h) := by
  have e := k.kd (m := 3) (by decide)
  refine jM_of rfl (Nat.le_of_ble_eq_true rfl) (by decide +kernel) rfl (rX8_isMark_0 (fun q => ?_) (fun q p => ?_) (fun q p => ?_))
  · exact jgets_i (sB_f (fun z => q (e.mpr z.1))).symm
  · have q1 := e.mp q
    rw [k.2.2.2.1 (Or.inr q1)] at p
    exact jgets_i (sB_f (fun z => p z.2)).symm
  · have q1 := e.mp q
    rw [k.2.2.2.1 (Or.inr q1)] at p
    exact jgets_i (sB_t ⟨q1, p⟩).symm
theorem tX8_isNumber (k : isTok h T b) (hb : b ≤ T.length) (h4 : T.length ≤ 400) (hd : d < 100) : JM mX8_isNumber [.ref 1, .int (nI d)] (jG0 sc) h (jgets sc (sB (tNumb T b d)) h) := by
  have e := k.kd (m := 2) (by decide)
  have e2 := k.len hb
  have l := te_le hb
  refine jM_of rfl (Nat.le_of_ble_eq_true rfl) (by decide +kernel) rfl (rX8_isNumber_0 (fun q => ?_) (fun q p => ?_) (fun q p => ?_))
  · exact jgets_i (sB_f (fun z => q (e.mpr z.1))).symm
  · rw [e2, jn_lt (by omega) (by omega)] at p
    exact jgets_i (sB_f (fun z => absurd z.2 (by omega))).symm
  · rw [e2, jn_lt (by omega) (by omega)] at p
    exact jgets_i (sB_t ⟨e.mp q, by omega⟩).symm
theorem tX8_isWord (k : isTok h T b) (ht : isTape h T) (hb : b ≤ T.length) (h4 : T.length ≤ 400) (hn : n < 22) : JM mX8_isWord [.ref 1, .ref (1001 + n)] (jG0 sc) h (jgets sc (sB (tWd T b n)) h) := by
  have e := k.kd (m := 1) (by decide)
  have e2 := k.len hb
  have l := te_le hb
  have l6 := jTxtL_le n hn
  refine jM_of rfl (Nat.le_of_ble_eq_true rfl) (by decide +kernel) rfl (rX8_isWord_0 (P1 := fun x h' => x = nI (jTxtL.getD n 0) ∧ h = h') hn (fun q => ?_) (fun q => tJlength hn) ?_ ?_)
  · exact jgets_i (sB_f (fun z => q (e.mpr z.1))).symm
  · rintro q _ _ ⟨rfl, rfl⟩ p
    rw [e2, jn_eq (by omega) (by omega)] at p
    have q1 := e.mp q
    have go : ∀ m j, jTxtL.getD n 0 - j = m → j ≤ jTxtL.getD n 0 → (∀ i, i < j → T.getD (b + i) 0 = jch n i) → WP mX8_isWord (jgets sc (sB (tWd T b n)) h) 28 [some (.ref 1), some (.ref (1001 + n)), some (.int (nI j))] [] (jG0 sc) h (0, 0) := by
      intro m
      induction m with
      | zero =>
        intro j em hj hi
        refine rX8_isWord_28 (P1 := fun x h' => x = nI (jTxtL.getD n 0) ∧ h = h') (P2 := fun _ _ => False) hn (tJlength hn) ?_ ?_ ?_ ?_ ?_ ?_
        · rintro _ _ ⟨rfl, rfl⟩ -
          exact jgets_i (sB_t ⟨q1, p, fun i h => hi i (by omega)⟩).symm
        all_goals (rintro _ _ ⟨rfl, rfl⟩ c; exact absurd (nI_le (by omega) (by omega)) c)
      | succ m ih =>
        intro j em hj hi
        have ea : h 1 3 + nI j = nI (b + j) := by rw [k.2.1, nI_add]
        have hbj : b + j < T.length := by omega
        have ej : h 2 (nI (b + j)).toNatClampNeg = T.getD (b + j) 0 := by rw [nI_clamp (by omega)]; exact ht.2 _ hbj
        refine rX8_isWord_28 (P1 := fun x h' => x = nI (jTxtL.getD n 0) ∧ h = h') (P2 := fun x h' => x = jch n j ∧ h = h') hn (tJlength hn) ?_ ?_ ?_ ?_ ?_ ?_
        · rintro _ _ ⟨rfl, rfl⟩ c
          exact absurd ((jn_le (by omega) (by omega)).mp c) (by omega)
        · rintro _ _ ⟨rfl, rfl⟩ - c
          rw [ea] at c
          exact absurd ((jn_le (a := 400) (by decide) (by omega)).mp c) (by omega)
        · rintro _ _ ⟨rfl, rfl⟩ - -
          rw [ea]; exact vp_in_nI (by omega) (by decide)
        · rintro _ _ ⟨rfl, rfl⟩ - -
          exact tJcharAt hn (by omega)
        · rintro _ _ ⟨rfl, rfl⟩ - - _ _ ⟨rfl, rfl⟩ c
          rw [ea, ej] at c
          rw [← nI_succ]
          refine ih (j + 1) (by omega) (by omega) (fun i hi2 => ?_)
          by_cases z : i = j
          · subst z; exact c
          · exact hi i (by omega)
        · rintro _ _ ⟨rfl, rfl⟩ - - _ _ ⟨rfl, rfl⟩ c
          rw [ea, ej] at c
          exact jgets_i (sB_f (fun z => c (z.2.2 j (by omega)))).symm
    exact go _ 0 rfl (Nat.zero_le _) (fun i hi => absurd hi (Nat.not_lt_zero _))
  · rintro q _ _ ⟨rfl, rfl⟩ p
    rw [e2, jn_eq (by omega) (by omega)] at p
    exact jgets_i (sB_f (fun z => p z.2.1)).symm
theorem tX8_letterOf (k : isTok h T b) (hb : b ≤ T.length) (h4 : T.length ≤ 400) (hn : n < 22) : JM mX8_letterOf [.ref 1, .ref (1001 + n)] (jG0 sc) h (jgets sc (tLet T b n) h) := by
  have e := k.kd (m := 1) (by decide)
  have e2 := k.len hb
  have l := te_le hb
  have l6 := jTxtL_le n hn
  refine jM_of rfl (Nat.le_of_ble_eq_true rfl) (by decide +kernel) rfl (rX8_letterOf_0 hn (fun q => ?_) (fun q p => ?_) (fun q p => ?_))
  · exact jgets_i (sIf_f (fun z => q (e.mpr z.1))).symm
  · have p1 := p
    rw [e2] at p1
    have q1 := e.mp q
    have ev : tLet T b n = sIdx n (T.getD b 0) := sIf_t ⟨q1, (jn_eq (b := 1) (by omega) (by decide)).mp p1⟩
    rw [ev]
    have e5 := k.2.2.2.1 (Or.inl q1)
    have go : ∀ m j, j + m = jTxtL.getD n 0 → WP mX8_letterOf (jgets sc (sIdxF n (T.getD b 0) m j) h) 25 [some (.ref 1), some (.ref (1001 + n)), some (.int (nI j))] [] (jG0 sc) h (0, 0) := by
      intro m
      induction m with
      | zero =>
        intro j em
        refine rX8_letterOf_25 (P1 := fun x h' => x = nI (jTxtL.getD n 0) ∧ h = h') (P2 := fun _ _ => False) hn (tJlength hn) ?_ ?_ ?_ ?_
        · rintro _ _ ⟨rfl, rfl⟩ -
          exact jgets_i rfl
        all_goals (rintro _ _ ⟨rfl, rfl⟩ c; exact absurd (nI_le (by omega) (by omega)) c)
      | succ m ih =>
        intro j em
        refine rX8_letterOf_25 (P1 := fun x h' => x = nI (jTxtL.getD n 0) ∧ h = h') (P2 := fun x h' => x = jch n j ∧ h = h') hn (tJlength hn) ?_ ?_ ?_ ?_
        · rintro _ _ ⟨rfl, rfl⟩ c
          exact absurd ((jn_le (by omega) (by omega)).mp c) (by omega)
        · rintro _ _ ⟨rfl, rfl⟩ -
          exact tJcharAt hn (by omega)
        · rintro _ _ ⟨rfl, rfl⟩ - _ _ ⟨rfl, rfl⟩ c
          rw [e5] at c
          rw [sIdxF, if_neg c, ← nI_succ]
          exact ih (j + 1) (by omega)
        · rintro _ _ ⟨rfl, rfl⟩ - _ _ ⟨rfl, rfl⟩ c
          rw [e5] at c
          rw [sIdxF, if_pos c]
          exact jgets_i rfl
    exact go _ 0 (Nat.zero_add _)
  · rw [e2] at p
    exact jgets_i (sIf_f (fun z => p ((jn_eq (b := 1) (by omega) (by decide)).mpr z.2))).symm
theorem tX8_sign (k : isTok h T b) : JM mX8_sign [.ref 1] (jG0 sc) h (jgets sc (tSgn T b) h) := by
  have e := k.kd (m := 3) (by decide)
  have v : h 1 2 = 3 → tSgn T b = sSg (h 1 5) := fun q => by
    rw [k.2.2.2.1 (Or.inr (e.mp q))]; exact sIf_t (e.mp q)
  have w : ∀ {m : Int}, ∀ x : Int32, x.toInt = m → (h 1 5).toInt = m → h 1 5 = x := fun x hx hy => toInt_eq_iff.mpr (hy.trans hx.symm)
  refine jM_of rfl (Nat.le_of_ble_eq_true rfl) (by decide +kernel) rfl (rX8_sign_0 (fun q p => ?_) (fun q p => ?_) (fun q p => ?_) (fun q p => ?_) (fun q p => ?_) (fun q p => ?_) (fun q p => ?_) (fun q p => ?_) (fun q p => ?_) (fun q p => ?_) (fun q p => ?_) (fun q p => ?_) (fun q p => ?_) (fun q p => ?_) (fun q p => ?_) (fun q p => ?_) (fun q p => ?_) (fun q p => ?_) (fun q p => ?_) (fun q p => ?_) (fun q p => ?_) (fun q p => ?_) (fun q p => ?_) (fun q p => ?_) (fun q p => ?_) (fun q p => ?_) (fun q p => ?_) (fun q => ?_))
  · refine jgets_i ?_
    rw [v q]
    have ne : ∀ x : Int32, 37 ≤ x.toInt → x.toInt ≤ 62 → ¬ h 1 5 = x := fun x h1 h2 c => by rw [c] at p; omega
    unfold sSg
    rw [if_neg (ne 43 (by decide) (by decide)), if_neg (ne 45 (by decide) (by decide)), if_neg (ne 42 (by decide) (by decide)), if_neg (ne 47 (by decide) (by decide)), if_neg (ne 37 (by decide) (by decide)), if_neg (ne 60 (by decide) (by decide)), if_neg (ne 62 (by decide) (by decide)), if_neg (ne 61 (by decide) (by decide))]
  · refine jgets_i ?_; rw [v q, w 37 rfl p]; decide
  · refine jgets_i ?_; rw [v q, w 38 rfl p]; decide
  · refine jgets_i ?_; rw [v q, w 39 rfl p]; decide
  · refine jgets_i ?_; rw [v q, w 40 rfl p]; decide
  · refine jgets_i ?_; rw [v q, w 41 rfl p]; decide
  · refine jgets_i ?_; rw [v q, w 42 rfl p]; decide
  · refine jgets_i ?_; rw [v q, w 43 rfl p]; decide
  · refine jgets_i ?_; rw [v q, w 44 rfl p]; decide
  · refine jgets_i ?_; rw [v q, w 45 rfl p]; decide
  · refine jgets_i ?_; rw [v q, w 46 rfl p]; decide
  · refine jgets_i ?_; rw [v q, w 47 rfl p]; decide
  · refine jgets_i ?_; rw [v q, w 48 rfl p]; decide
  · refine jgets_i ?_; rw [v q, w 49 rfl p]; decide
  · refine jgets_i ?_; rw [v q, w 50 rfl p]; decide
  · refine jgets_i ?_; rw [v q, w 51 rfl p]; decide
  · refine jgets_i ?_; rw [v q, w 52 rfl p]; decide
  · refine jgets_i ?_; rw [v q, w 53 rfl p]; decide
  · refine jgets_i ?_; rw [v q, w 54 rfl p]; decide
  · refine jgets_i ?_; rw [v q, w 55 rfl p]; decide
  · refine jgets_i ?_; rw [v q, w 56 rfl p]; decide
  · refine jgets_i ?_; rw [v q, w 57 rfl p]; decide
  · refine jgets_i ?_; rw [v q, w 58 rfl p]; decide
  · refine jgets_i ?_; rw [v q, w 59 rfl p]; decide
  · refine jgets_i ?_; rw [v q, w 60 rfl p]; decide
  · refine jgets_i ?_; rw [v q, w 61 rfl p]; decide
  · refine jgets_i ?_; rw [v q, w 62 rfl p]; decide
  · exact jgets_i (sIf_f (fun z => q (e.mpr z))).symm
/-- what a reader has read: lines or a law's codes -/
def isRd (u : Bool) (ls : List Int32) (h : jH) : Prop := match u with
  | true => isP h 4 ls
  | false => isLaw h 7 ls
theorem isRd.fr {h' : jH} {F : jF} (k : isRd u ls h) (f : jfr F h h') (a : jin F 4 1 = false ∧ jin F 7 1 = false) (c5 : ∀ j, jin F 5 j = false) (c8 : ∀ j, jin F 8 j = false) : isRd u ls h' := by
  cases u with
  | true => exact isP.fr k f a.1 c5
  | false => exact ⟨(f 7 1 a.2).trans k.1, fun i hi => (f 8 i (c8 i)).trans (k.2 i hi)⟩
abbrev fRd : jF := ([(5, 5), (8, 8)], [(1, 2, 5), (4, 1, 1), (7, 1, 1)])
noncomputable def nx (T : List Int32) (b : Nat) : Nat := sSkip T (tEnd T b)
theorem nx_le (hb : b ≤ T.length) : b ≤ nx T b ∧ nx T b ≤ T.length ∧ (b < T.length → b < nx T b) := by
  obtain ⟨l1, l2, l3⟩ := te_le hb
  obtain ⟨m1, m2, -⟩ := sSpan_in (P := isBla) l2
  exact ⟨Nat.le_trans l1 m1, m2, fun q => Nat.lt_of_lt_of_le (l3 q) m1⟩
/-- a reader at the token b -/
def cs (h0 : jH) (u : Bool) (T : List Int32) (b : Nat) (ls : List Int32) (h : jH) : Prop := isTape h T ∧ T.length ≤ 400 ∧ isTok h T b ∧ b ≤ T.length ∧ isRd u ls h ∧ jfr fRd h0 h
theorem cs.next (k : cs h0 u T b ls h) : JM mX8_next [.ref 1] (jG0 sc) h (jvoid sc (cs h0 u T (nx T b) ls)) := by
  obtain ⟨k1, k2, k3, k4, k5, k6⟩ := k
  have l := te_le k4
  exact jM_void (tX8_next k1 k2 k3.2.2.1 l.2.1) (fun h' z => ⟨k1.nx z.2, k2, z.1, (nx_le k4).2.1, k5.fr z.2 ⟨rfl, rfl⟩ (fun _ => rfl) (fun _ => rfl), k6.tr2 (z.2.mono rfl)⟩)
theorem cs.mark {c : Int32} (k : cs h0 u T b ls h) : JM mX8_isMark [.ref 1, .int c] (jG0 sc) h (jint sc (fun x h' => x = sB (tMark T b c) ∧ cs h0 u T b ls h')) := jM_get (tX8_isMark k.2.2.1) k
theorem cs.numb (hd : d < 100) (k : cs h0 u T b ls h) : JM mX8_isNumber [.ref 1, .int (nI d)] (jG0 sc) h (jint sc (fun x h' => x = sB (tNumb T b d) ∧ cs h0 u T b ls h')) := jM_get (tX8_isNumber k.2.2.1 k.2.2.2.1 k.2.1 hd) k
theorem cs.word (hn : n < 22) (k : cs h0 u T b ls h) : JM mX8_isWord [.ref 1, .ref (1001 + n)] (jG0 sc) h (jint sc (fun x h' => x = sB (tWd T b n) ∧ cs h0 u T b ls h')) := jM_get (tX8_isWord k.2.2.1 k.1 k.2.2.2.1 k.2.1 hn) k
theorem cs.letr (hn : n < 22) (k : cs h0 u T b ls h) : JM mX8_letterOf [.ref 1, .ref (1001 + n)] (jG0 sc) h (jint sc (fun x h' => x = tLet T b n ∧ cs h0 u T b ls h')) := jM_get (tX8_letterOf k.2.2.1 k.2.2.2.1 k.2.1 hn) k
theorem cs.sign (k : cs h0 u T b ls h) : JM mX8_sign [.ref 1] (jG0 sc) h (jint sc (fun x h' => x = tSgn T b ∧ cs h0 u T b ls h')) := jM_get (tX8_sign k.2.2.1) k
theorem cs.num (k : cs h0 u T b ls h) (q : tNumb T b d) (hd : d ≤ 4) : h 1 5 = nI (sNum T b (tEnd T b - b)) := k.2.2.1.2.2.2.2 q.1 (Nat.le_trans q.2 hd)
end TQ
