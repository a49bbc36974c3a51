/-! The reference's walk through a program. -/
section WM
variable {sc : Nat × (Nat → Int32)} {h : jH}
abbrev jgetl (sc : Nat × (Nat → Int32)) (f : Int64) (h : jH) : jQ := jlong sc (fun x h' => x = f ∧ h = h')
theorem jgetl_i {sc : Nat × (Nat → Int32)} {x f : Int64} {h : jH} (e : x = f) : jgetl sc f h (.inl (some (.long x))) (jG0 sc) h := ⟨x, rfl, rfl, e, rfl⟩
theorem tX12_in {a lo hi : Int32} : JM mX12_in [.int a, .int lo, .int hi] (jG0 sc) h (jgets sc (sB (¬ a < lo ∧ ¬ hi < a)) h) := by
  refine jM_of rfl (Nat.le_of_ble_eq_true rfl) (by decide +kernel) rfl (bX12_in_0 (fun c => ?_) (fun c => bX12_in_5 (fun c2 => ?_) (fun c2 => ?_)))
  · exact bX12_in_14 (bX12_in_15 (by decide) (jgets_i (sB_f (fun q => q.1 c)).symm))
  · exact bX12_in_14 (bX12_in_15 (by decide) (jgets_i (sB_f (fun q => q.2 c2)).symm))
  · exact bX12_in_10 (bX12_in_15 (by decide) (jgets_i (sB_t ⟨c, c2⟩).symm))
theorem tX12_atomOf {a x y : Int32} (ha : sAtom a) : JM mX12_atomOf [.ref 159, .int a, .int x, .int y] (jG0 sc) h (jgets sc (sVal (h 168) x y a) h) := by
  have e0 : (0 : Int32).toInt = 0 := rfl
  have e4 : (4 : Int32).toInt = 4 := rfl
  have e5 : (5 : Int32).toInt = 5 := rfl
  have e10 : (10 : Int32).toInt = 10 := rfl
  have lo : a < 10 → ¬ a = 4 → ¬ a = 5 → ¬ a < 0 ∧ a < 4 := by
    intro c1 c2 c3
    rw [toInt_eq_iff] at c2 c3
    rw [toInt_lt_iff] at c1
    rw [toInt_lt_iff, toInt_lt_iff]
    rcases ha with ha | ha <;> · obtain ⟨h1, h2⟩ := ha; omega
  refine jM_of rfl (Nat.le_of_ble_eq_true rfl) (by decide +kernel) rfl (rX12_atomOf_0 (fun c1 c2 c3 => ?_) (fun c1 c2 c3 => ?_) (fun c1 c2 c3 => ?_) (fun c1 c2 => ?_) (fun c1 => ?_))
  · exact in_of (n := 4) (lo c1 c2 c3).1 (i_nle.mpr (lo c1 c2 c3).2) (by decide)
  · exact jgets_i (by unfold sVal; rw [if_pos (lo c1 c2 c3)])
  · exact jgets_i (by subst c3; rfl)
  · exact jgets_i (by subst c2; rfl)
  · refine jgets_i ?_
    rw [toInt_lt_iff] at c1
    have n4 : ¬ (¬ a < 0 ∧ a < 4) := fun q => by have := toInt_lt_iff.mp q.2; omega
    have n1 : ¬ a = 4 := fun q => by rw [q] at c1; exact c1 (by decide)
    have n2 : ¬ a = 5 := fun q => by rw [q] at c1; exact c1 (by decide)
    unfold sVal
    rw [if_neg n4, if_neg n1, if_neg n2]
theorem tX12_restOf {a : Int32} : JM mX12_restOf [.ref 159, .int a] (jG0 sc) h (jgets sc (sRest (h 169) a) h) := by
  have e3 : ¬ (3 : Int32) < a ↔ a < 4 := by
    rw [toInt_lt_iff, toInt_lt_iff]
    have e3 : (3 : Int32).toInt = 3 := rfl
    have e4 : (4 : Int32).toInt = 4 := rfl
    omega
  refine jM_of rfl (Nat.le_of_ble_eq_true rfl) (by decide +kernel) rfl (rX12_restOf_0 tX12_in ?_ ?_ ?_)
  · rintro _ _ ⟨rfl, rfl⟩ c
    rw [sB_eq, e3] at c
    exact jgets_i (by unfold sRest; rw [if_neg c])
  · rintro _ _ ⟨rfl, rfl⟩ c
    rw [sB_ne, e3] at c
    exact in_of (n := 4) c.1 (i_nle.mpr c.2) (by decide)
  · rintro _ _ ⟨rfl, rfl⟩ c
    rw [sB_ne, e3] at c
    exact jgets_i (by unfold sRest; rw [if_pos c])
/-- a place of a row, as the code names it -/
theorem mk_ix {n j : Nat} (hn : n < 10) (hj : j < 6) : nI (1 + 6 * n) + nI j = nI (1 + 6 * n + j) ∧ vp_in (nI (1 + 6 * n) + nI j) 61 ∧ (nI (1 + 6 * n) + nI j).toNatClampNeg = 1 + 6 * n + j := by
  have e := nI_add (1 + 6 * n) j
  refine ⟨e, by rw [e]; exact vp_in_nI (by omega) (by decide), by rw [e, nI_clamp (by omega)]⟩
theorem mk_0 {n : Nat} (hn : n < 10) : vp_in (nI (1 + 6 * n)) 61 ∧ (nI (1 + 6 * n)).toNatClampNeg = 1 + 6 * n ∧ (1 : Int32) + 6 * nI n = nI (1 + 6 * n) := by
  refine ⟨vp_in_nI (by omega) (by decide), nI_clamp (by omega), ?_⟩
  rw [show (6 : Int32) = nI 6 from rfl, show (1 : Int32) = nI 1 from rfl, pk_mul, nI_add]
theorem isMP.at {w : Nat → Int32} {p : List Int32} (hp : isMP w 0 p) {n j : Nat} (hn : n < p.length) (hj : j < 6) : w (1 + 6 * n + j) = sFld (p.getD n 4) j := by
  have := hp.2.2 n hn j hj
  rw [show 0 + 1 + 6 * n + j = 1 + 6 * n + j by omega] at this
  exact this
theorem isMP.at0 {w : Nat → Int32} {p : List Int32} (hp : isMP w 0 p) {n : Nat} (hn : n < p.length) : w (1 + 6 * n) = sKind (p.getD n 4) := hp.at hn (j := 0) (by decide)
theorem toI64_toI32 (x : Int32) : x.toInt64.toInt32 = x := by
  rw [toInt_eq_iff, Int64.toInt_toInt32, Int32.toInt_toInt64]
  have := toInt_rg x
  exact Int.bmod_eq_of_le (by omega) (by omega)
theorem toI64_lt (x y : Int32) : x.toInt64 < y.toInt64 ↔ x < y := by rw [Int64.lt_iff_toInt_lt, Int32.toInt_toInt64, Int32.toInt_toInt64, toInt_lt_iff]
theorem fit64 {v : Int64} (h1 : ¬ 999999 < v) (h2 : ¬ v < -999999) : v = v.toInt32.toInt64 := by
  rw [Int64.lt_iff_toInt_lt] at h1 h2
  have e1 : (999999 : Int64).toInt = 999999 := rfl
  have e2 : (-999999 : Int64).toInt = -999999 := rfl
  refine Int64.toInt_inj.mp ?_
  rw [Int32.toInt_toInt64, Int64.toInt_toInt32]
  exact (Int.bmod_eq_of_le (by omega) (by omega)).symm
theorem msum3 {a s b : Int32} {v : Int64} (h1 : ¬ ((s = 4 ∨ s = 5) ∧ b.toInt64 = 0)) (hv : sSumL a s b = v) :
    (0 < lg_cmp v 999999 → (2000002 : Int64) = (sSum a s b).toInt64) ∧ (¬ 0 < lg_cmp v 999999 → 0 ≤ lg_cmp v (-999999) → v = (sSum a s b).toInt64) ∧ (¬ 0 < lg_cmp v 999999 → ¬ 0 ≤ lg_cmp v (-999999) → (2000002 : Int64) = (sSum a s b).toInt64) := by
  subst hv
  rw [lg_cmp_gt, lg_cmp_ge]
  refine ⟨fun q => by rw [sSum_B h1 (Or.inl q)]; rfl, fun q r => by rw [sSum_v h1 q (l_nlt.mpr r)]; exact fit64 q (l_nlt.mpr r), fun q r => by rw [sSum_B h1 (Or.inr (l_nle.mp r))]; rfl⟩
/-- a line that has a sum -/
def sSumLine (l : Int32) : Prop := sAtom (sFirst l) ∧ (sSign l = 0 ∨ (sIn (sSign l) 1 5 ∧ sAtom (sSecond l)))
theorem m141 {l1 l2 l3 s A B : Int32} {l4 l7 v : Int64} (h1 : ¬ ((s = 4 ∨ s = 5) ∧ B.toInt64 = 0)) (hv : sSumL A s B = v) :
    WP mX12_sumOf (jgetl sc (sSum A s B).toInt64 h) 141 [some (.ref 159), some (.int l1), some (.int l2), some (.int l3), some (.long l4), none, some (.int s), some (.long l7), none, none, none] [.long v] (jG0 sc) h (0, 0) :=
  bX12_sumOf_141 (fun c => bX12_sumOf_161 (bX12_sumOf_169 (jgetl_i ((msum3 h1 hv).1 c)))) (fun c => bX12_sumOf_152 (fun c2 => bX12_sumOf_167 (bX12_sumOf_169 (jgetl_i ((msum3 h1 hv).2.1 c c2)))) (fun c2 => bX12_sumOf_161 (bX12_sumOf_169 (jgetl_i ((msum3 h1 hv).2.2 c c2)))))
theorem tX12_sumOf {n : Nat} {p : List Int32} {x y : Int32} (hp : isMP (h 167) 0 p) (hn : n < p.length) (hl : sSumLine (p.getD n 4)) :
    JM mX12_sumOf [.ref 159, .int (nI (1 + 6 * n)), .int x, .int y] (jG0 sc) h (jgetl sc (sSum (sVal (h 168) x y (sFirst (p.getD n 4))) (sSign (p.getD n 4)) (sVal (h 168) x y (sSecond (p.getD n 4)))).toInt64 h) := by
  have hn10 : n < 10 := Nat.lt_of_lt_of_le hn hp.2.1
  obtain ⟨-, v2, e2⟩ := mk_ix (j := 2) hn10 (by decide)
  obtain ⟨-, v3, e3⟩ := mk_ix (j := 3) hn10 (by decide)
  obtain ⟨-, v4, e4⟩ := mk_ix (j := 4) hn10 (by decide)
  have f2 : h 167 ((nI (1 + 6 * n) + nI 2).toNatClampNeg) = sFirst (p.getD n 4) := by rw [e2]; exact hp.at hn (j := 2) (by decide)
  have f3 : h 167 ((nI (1 + 6 * n) + nI 3).toNatClampNeg) = sSign (p.getD n 4) := by rw [e3]; exact hp.at hn (j := 3) (by decide)
  have f4 : h 167 ((nI (1 + 6 * n) + nI 4).toNatClampNeg) = sSecond (p.getD n 4) := by rw [e4]; exact hp.at hn (j := 4) (by decide)
  generalize p.getD n 4 = l at *
  refine jM_of rfl (Nat.le_of_ble_eq_true rfl) (by decide +kernel) rfl (bX12_sumOf_0 v2 (by have := tX12_atomOf (sc := sc) (h := h) (x := x) (y := y) hl.1; rw [← f2] at this; exact this) (fun _ _ _ => v3) ?_)
  rintro _ _ ⟨rfl, rfl⟩
  have f3' : h 167 ((nI (1 + 6 * n) + 3).toNatClampNeg) = sSign l := f3
  have f2' : h 167 ((nI (1 + 6 * n) + nI 2).toNatClampNeg) = sFirst l := f2
  rw [f3', f2']
  generalize hA : sVal (h 168) x y (sFirst l) = A
  generalize hB : sVal (h 168) x y (sSecond l) = B
  have z0 : (0 : Int32).toInt = 0 := rfl
  have z4 : (4 : Int32).toInt = 4 := rfl
  have J70 : ∀ b : Int64, ¬ ((sSign l = 4 ∨ sSign l = 5) ∧ B.toInt64 = 0) → (¬ sSign l = 0 → b = B.toInt64) →
      WP mX12_sumOf (jgetl sc (sSum A (sSign l) B).toInt64 h) 70 [some (.ref 159), some (.int (nI (1 + 6 * n))), some (.int x), some (.int y), some (.long A.toInt64), none, some (.int (sSign l)), some (.long b), none, none, none] [] (jG0 sc) h (0, 0) := by
    intro b h1 hb
    refine bX12_sumOf_70 (fun c0 => ?_) (fun c0 => bX12_sumOf_75 (m141 h1 (by rw [c0]; simp [sSumL])))
    have hb := hb c0
    subst hb
    refine bX12_sumOf_80 (fun c1 => ?_) (fun c1 => bX12_sumOf_86 (m141 h1 (by rw [c1]; simp [sSumL])))
    refine bX12_sumOf_94 (fun c2 => ?_) (fun c2 => bX12_sumOf_100 (m141 h1 (by rw [c2]; simp [sSumL])))
    refine bX12_sumOf_108 (fun c3 => ?_) (fun c3 => bX12_sumOf_114 (m141 h1 (by rw [c3]; simp [sSumL])))
    have h45 : sSign l = 4 ∨ sSign l = 5 := by
      rcases hl.2 with q | ⟨⟨q1, q2⟩, -⟩
      · exact absurd q c0
      · rw [toInt_eq_iff] at c1 c2 c3
        rw [toInt_eq_iff, toInt_eq_iff]
        have z1 : (1 : Int32).toInt = 1 := rfl
        have z2 : (2 : Int32).toInt = 2 := rfl
        have z3 : (3 : Int32).toInt = 3 := rfl
        have z5 : (5 : Int32).toInt = 5 := rfl
        omega
    have hB0 : ¬ B.toInt64 = 0 := fun q => h1 ⟨h45, q⟩
    refine bX12_sumOf_122 (fun c4 => bX12_sumOf_136 hB0 (m141 h1 (by rw [h45.resolve_left c4]; simp [sSumL]))) (fun c4 => bX12_sumOf_128 hB0 (m141 h1 (by rw [c4]; simp [sSumL])))
  refine bX12_sumOf_29 (fun c0 => ?_) (fun c0 => ?_)
  · have ha2 : sAtom (sSecond l) := (hl.2.resolve_left c0).2
    refine bX12_sumOf_36 v4 (by have := tX12_atomOf (sc := sc) (h := h) (x := x) (y := y) ha2; rw [← f4] at this; exact this) ?_
    rintro _ _ ⟨rfl, rfl⟩
    have f4' : h 167 ((nI (1 + 6 * n) + nI 4).toNatClampNeg) = sSecond l := f4
    rw [f4', hB]
    have hs15 := (hl.2.resolve_left c0).1
    refine bX12_sumOf_51 (fun c => J70 _ (fun q => ?_) (fun _ => rfl)) (fun c => ?_)
    · rw [toInt_lt_iff] at c
      rcases q.1 with q | q <;> rw [q] at c <;> exact absurd c (by decide)
    · refine bX12_sumOf_59 (fun c2 => ?_) (fun c2 => ?_)
      · rw [lg_cmp_eq] at c2
        exact J70 _ (fun q => c2 q.2) (fun _ => rfl)
      · rw [lg_cmp_eq] at c2
        have h45 : sSign l = 4 ∨ sSign l = 5 := by
          rw [toInt_lt_iff] at c
          rw [toInt_eq_iff, toInt_eq_iff]
          have z5 : (5 : Int32).toInt = 5 := rfl
          obtain ⟨q1, q2⟩ := hs15
          omega
        exact bX12_sumOf_66 (jgetl_i (by rw [sSum_D h45 c2]; rfl))
  · refine bX12_sumOf_32 (bX12_sumOf_51 (fun c => J70 _ (fun q => ?_) (fun c => absurd c0 c)) (fun c => ?_))
    · rcases q.1 with q | q <;> rw [q] at c0 <;> exact absurd c0 (by decide)
    · rw [c0] at c; exact absurd (by decide) c
theorem tX12_meets {n : Nat} {p : List Int32} {x y : Int32} (hp : isMP (h 167) 0 p) (hn : n < p.length) (h1 : sAtom (sFirst (p.getD n 4))) (h2 : sAtom (sSecond (p.getD n 4))) :
    JM mX12_meets [.ref 159, .int (nI (1 + 6 * n)), .int x, .int y] (jG0 sc) h (jgets sc (sB (sHolds (sVal (h 168) x y (sFirst (p.getD n 4))) (sSign (p.getD n 4)) (sVal (h 168) x y (sSecond (p.getD n 4))))) h) := by
  have hn10 : n < 10 := Nat.lt_of_lt_of_le hn hp.2.1
  obtain ⟨-, v2, e2⟩ := mk_ix (j := 2) hn10 (by decide)
  obtain ⟨-, v3, e3⟩ := mk_ix (j := 3) hn10 (by decide)
  obtain ⟨-, v4, e4⟩ := mk_ix (j := 4) hn10 (by decide)
  have f2 : h 167 ((nI (1 + 6 * n) + 2).toNatClampNeg) = sFirst (p.getD n 4) := by rw [show (2 : Int32) = nI 2 from rfl, e2]; exact hp.at hn (j := 2) (by decide)
  have f3 : h 167 ((nI (1 + 6 * n) + 3).toNatClampNeg) = sSign (p.getD n 4) := by rw [show (3 : Int32) = nI 3 from rfl, e3]; exact hp.at hn (j := 3) (by decide)
  have f4 : h 167 ((nI (1 + 6 * n) + 4).toNatClampNeg) = sSecond (p.getD n 4) := by rw [show (4 : Int32) = nI 4 from rfl, e4]; exact hp.at hn (j := 4) (by decide)
  generalize p.getD n 4 = l at *
  refine jM_of rfl (Nat.le_of_ble_eq_true rfl) (by decide +kernel) rfl (bX12_meets_0 v2 (P1 := fun r h' => r = sVal (h 168) x y (sFirst l) ∧ h = h') (by rw [f2]; exact tX12_atomOf h1) (fun _ _ _ => v4) ?_)
  rintro _ _ ⟨rfl, rfl⟩
  rw [f4]
  refine bX12_meets_27 (tX12_atomOf h2) (fun _ _ _ => v3) ?_ ?_
  all_goals rintro _ _ ⟨rfl, rfl⟩ c
  all_goals rw [f3] at c ⊢
  · refine bX12_meets_64 (fun c2 => ?_) (fun c2 => ?_)
    · refine bX12_meets_86 (fun c3 => ?_) (fun c3 => ?_)
      · exact bX12_meets_97 (bX12_meets_98 (by decide) (jgets_i (sB_f (by unfold sHolds; rw [if_neg c, if_neg c2]; exact c3)).symm))
      · exact bX12_meets_93 (bX12_meets_98 (by decide) (jgets_i (sB_t (by unfold sHolds; rw [if_neg c, if_neg c2]; exact c3)).symm))
    · refine bX12_meets_71 (fun c3 => ?_) (fun c3 => ?_)
      · exact bX12_meets_82 (bX12_meets_98 (by decide) (jgets_i (sB_f (by unfold sHolds; rw [if_neg c, if_pos c2]; exact i_nlt.mpr c3)).symm))
      · exact bX12_meets_78 (bX12_meets_98 (by decide) (jgets_i (sB_t (by unfold sHolds; rw [if_neg c, if_pos c2]; exact i_nle.mp c3)).symm))
  · refine bX12_meets_49 (fun c3 => ?_) (fun c3 => ?_)
    · exact bX12_meets_60 (bX12_meets_98 (by decide) (jgets_i (sB_f (by unfold sHolds; rw [if_pos c]; exact i_nlt.mpr c3)).symm))
    · exact bX12_meets_56 (bX12_meets_98 (by decide) (jgets_i (sB_t (by unfold sHolds; rw [if_pos c]; exact i_nle.mp c3)).symm))
end WM
