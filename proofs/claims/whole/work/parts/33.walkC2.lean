/-! The class's walk through a program. -/
section WD
variable {sc : Nat × (Nat → Int32)} {h : jH}
theorem tX10_restsOf {a : Int32} : JM mX10_restsOf [.ref 69, .int a] (jG0 sc) h (jgets sc (sRest (h 71) a) h) := by
  refine jM_of rfl (Nat.le_of_ble_eq_true rfl) (by decide +kernel) rfl (rX10_restsOf_0 ?_ ?_ ?_ ?_)
  · intro c; exact jgets_i (by unfold sRest; rw [if_neg (fun q => q.1 c)])
  · intro c1 c2; exact jgets_i (by unfold sRest; rw [if_neg (fun q => i_nlt.mpr c2 q.2)])
  · intro c1 c2; exact in_of (n := 4) c1 c2 (by decide)
  · intro c1 c2; exact jgets_i (by unfold sRest; rw [if_pos ⟨c1, i_nle.mp c2⟩])
theorem tX10_valueOf {a : Int32} : JM mX10_valueOf [.ref 69, .int a] (jG0 sc) h (jgets sc (sVal (h 70) (h 69 3) (h 69 4) a) h) := by
  refine jM_of rfl (Nat.le_of_ble_eq_true rfl) (by decide +kernel) rfl (rX10_valueOf_0 ?_ ?_ ?_ ?_ ?_ ?_ ?_ ?_)
  · intro c1 c2 c3; exact jgets_i (by unfold sVal; rw [if_neg (fun q => q.1 c1), if_neg c2, if_neg c3])
  · intro c1 c2 c3; exact jgets_i (by unfold sVal; rw [if_neg (fun q => q.1 c1), if_neg c2, if_pos c3])
  · intro c1 c2; exact jgets_i (by unfold sVal; rw [if_neg (fun q => q.1 c1), if_pos c2])
  · intro c1 c2 c3 c4; exact jgets_i (by unfold sVal; rw [if_neg (fun q => i_nlt.mpr c2 q.2), if_neg c3, if_neg c4])
  · intro c1 c2 c3 c4; exact jgets_i (by unfold sVal; rw [if_neg (fun q => i_nlt.mpr c2 q.2), if_neg c3, if_pos c4])
  · intro c1 c2 c3; exact jgets_i (by unfold sVal; rw [if_neg (fun q => i_nlt.mpr c2 q.2), if_pos c3])
  · intro c1 c2; exact in_of (n := 4) c1 c2 (by decide)
  · intro c1 c2; exact jgets_i (by unfold sVal; rw [if_pos ⟨c1, i_nle.mp c2⟩])
theorem tX10_holds {a s b : Int32} : JM mX10_holds [.ref 69, .int a, .int s, .int b] (jG0 sc) h (jgets sc (sB (sHolds (sVal (h 70) (h 69 3) (h 69 4) a) s (sVal (h 70) (h 69 3) (h 69 4) b))) h) := by
  refine jM_of rfl (Nat.le_of_ble_eq_true rfl) (by decide +kernel) rfl (rX10_holds_0 tX10_valueOf (fun x1 h1 p1 => by first | (rw [p1.1, ← p1.2]; exact tX10_valueOf) | (rw [← p1.2]; exact tX10_valueOf)) ?_ ?_ ?_ ?_ ?_ ?_)
  all_goals rintro x1 h1 ⟨rfl, rfl⟩ x2 h2 ⟨rfl, rfl⟩
  · intro c1 c2 c3; exact jgets_i (sB_f (by unfold sHolds; rw [if_neg c1, if_neg c2]; exact c3)).symm
  · intro c1 c2 c3; exact jgets_i (sB_t (by unfold sHolds; rw [if_neg c1, if_neg c2]; exact c3)).symm
  · intro c1 c2 c3; exact jgets_i (sB_f (by unfold sHolds; rw [if_neg c1, if_pos c2]; exact i_nlt.mpr c3)).symm
  · intro c1 c2 c3; exact jgets_i (sB_t (by unfold sHolds; rw [if_neg c1, if_pos c2]; exact i_nle.mp c3)).symm
  · intro c1 c2; exact jgets_i (sB_f (by unfold sHolds; rw [if_pos c1]; exact i_nlt.mpr c2)).symm
  · intro c1 c2; exact jgets_i (sB_t (by unfold sHolds; rw [if_pos c1]; exact i_nle.mp c2)).symm
theorem lc_gt {x y : Int64} : 0 < lg_cmp x y ↔ y < x := lg_cmp_gt x y
theorem l_nle {x y : Int64} : ¬ x ≤ y ↔ y < x := by rw [Int64.le_iff_toInt_le, Int64.lt_iff_toInt_lt]; omega
theorem l_nlt {x y : Int64} : ¬ x < y ↔ y ≤ x := by rw [Int64.le_iff_toInt_le, Int64.lt_iff_toInt_lt]; omega
theorem sSum_B {a s b : Int32} (h1 : ¬ ((s = 4 ∨ s = 5) ∧ b.toInt64 = 0)) (h2 : 999999 < sSumL a s b ∨ sSumL a s b < -999999) : sSum a s b = 2000002 := by
  unfold sSum; rw [if_neg h1, if_pos h2]
theorem sSum_v {a s b : Int32} (h1 : ¬ ((s = 4 ∨ s = 5) ∧ b.toInt64 = 0)) (h2 : ¬ (999999 < sSumL a s b)) (h3 : ¬ (sSumL a s b < -999999)) : sSum a s b = (sSumL a s b).toInt32 := by
  unfold sSum; rw [if_neg h1, if_neg (fun q => q.elim h2 h3)]
theorem sSum_D {a s b : Int32} (h1 : s = 4 ∨ s = 5) (h2 : b.toInt64 = 0) : sSum a s b = 2000001 := by unfold sSum; rw [if_pos ⟨h1, h2⟩]
/-- the three ends of a sum that is worked out -/
theorem sum3 {h : jH} {a s b : Int32} {v : Int64} (h1 : ¬ ((s = 4 ∨ s = 5) ∧ b.toInt64 = 0)) (hv : sSumL a s b = v) :
    (0 < lg_cmp v 999999 → jgets sc (sSum a s b) h (.inl (some (.int 2000002))) (jG0 sc) h) ∧
    (¬ 0 < lg_cmp v 999999 → 0 ≤ lg_cmp v (-999999) → jgets sc (sSum a s b) h (.inl (some (.int v.toInt32))) (jG0 sc) h) ∧
    (¬ 0 < lg_cmp v 999999 → ¬ 0 ≤ lg_cmp v (-999999) → jgets sc (sSum a s b) h (.inl (some (.int 2000002))) (jG0 sc) h) := by
  subst hv
  rw [lg_cmp_gt, lg_cmp_ge]
  refine ⟨fun q => jgets_i (sSum_B h1 (Or.inl q)).symm, fun q r => jgets_i (sSum_v h1 q (l_nlt.mpr r)).symm, fun q r => jgets_i (sSum_B h1 (Or.inr (l_nle.mp r))).symm⟩
theorem w105 {l1 l2 l3 A B : Int32} {l4 l6 v : Int64} (h1 : ¬ ((l2 = 4 ∨ l2 = 5) ∧ B.toInt64 = 0)) (hv : sSumL A l2 B = v) :
    WP mX10_sumOf (jgets sc (sSum A l2 B) h) 105 [some (.ref 69), some (.int l1), some (.int l2), some (.int l3), some (.long l4), none, some (.long l6), none, some (.long v), none] [] (jG0 sc) h (0, 0) :=
  bX10_sumOf_105 (fun c => bX10_sumOf_123 (bX10_sumOf_131 ((sum3 h1 hv).1 c))) (fun c => bX10_sumOf_114 (fun c2 => bX10_sumOf_128 (bX10_sumOf_131 ((sum3 h1 hv).2.1 c c2))) (fun c2 => bX10_sumOf_123 (bX10_sumOf_131 ((sum3 h1 hv).2.2 c c2))))
theorem tX10_sumOf {a s b : Int32} : JM mX10_sumOf [.ref 69, .int a, .int s, .int b] (jG0 sc) h (jgets sc (sSum (sVal (h 70) (h 69 3) (h 69 4) a) s (sVal (h 70) (h 69 3) (h 69 4) b)) h) := by
  refine jM_of rfl (Nat.le_of_ble_eq_true rfl) (by decide +kernel) rfl (bX10_sumOf_0 tX10_valueOf (fun x1 h1 p1 => by first | (rw [p1.1, ← p1.2]; exact tX10_valueOf) | (rw [← p1.2]; exact tX10_valueOf)) ?_ ?_)
  all_goals rintro _ _ ⟨rfl, rfl⟩ _ _ ⟨rfl, rfl⟩ c1
  · refine bX10_sumOf_35 (fun c2 => ?_) (fun c2 => ?_)
    · refine bX10_sumOf_50 (fun c3 => ?_) (fun c3 => ?_)
      · have J : (s = 4 ∨ s = 5) → WP mX10_sumOf (jgets sc (sSum (sVal (h 70) (h 69 3) (h 69 4) a) s (sVal (h 70) (h 69 3) (h 69 4) b)) h) 75 [some (.ref 69), some (.int a), some (.int s), some (.int b), some (.long (sVal (h 70) (h 69 3) (h 69 4) a).toInt64), none, some (.long (sVal (h 70) (h 69 3) (h 69 4) b).toInt64), none, some (.long (sVal (h 70) (h 69 3) (h 69 4) a).toInt64), none] [] (jG0 sc) h (0, 0) := by
          intro hs
          refine bX10_sumOf_75 (fun c => ?_) (fun c => ?_)
          · rw [lg_cmp_eq] at c
            refine bX10_sumOf_85 (fun c4 => ?_) (fun c4 => ?_)
            · exact bX10_sumOf_98 c (bX10_sumOf_103 (w105 (fun q => c q.2) (by have c5 : s = 5 := hs.resolve_left c4; subst c5; simp [sSumL])))
            · exact bX10_sumOf_90 c (bX10_sumOf_103 (w105 (fun q => c q.2) (by subst c4; simp [sSumL])))
          · rw [lg_cmp_eq] at c
            exact bX10_sumOf_82 (jgets_i (sSum_D hs c).symm)
        refine bX10_sumOf_65 (fun c4 => J (Or.inl c4)) (fun c4 => ?_)
        refine bX10_sumOf_70 (fun c5 => w105 (fun q => q.1.elim c4 c5) (by simp [sSumL, c1, c2, c3, c4, c5])) (fun c5 => J (Or.inr c5))
      · exact bX10_sumOf_55 (w105 (by subst c3; exact fun q => q.1.elim (fun e => absurd e (by decide)) (fun e => absurd e (by decide))) (by subst c3; simp [sSumL]))
    · exact bX10_sumOf_40 (w105 (by subst c2; exact fun q => q.1.elim (fun e => absurd e (by decide)) (fun e => absurd e (by decide))) (by subst c2; simp [sSumL]))
  · exact bX10_sumOf_25 (w105 (by subst c1; exact fun q => q.1.elim (fun e => absurd e (by decide)) (fun e => absurd e (by decide))) (by subst c1; simp [sSumL]))
/-- what the walk holds -/
def wSt (h : jH) (x y fl fv : Int32) (V R : Nat → Int32) (T : Int32) : Prop := sRel4 (h 70) V ∧ sRel4 (h 71) R ∧ h 69 2 = T ∧ h 69 3 = x ∧ h 69 4 = y ∧ h 69 5 = fl ∧ h 69 6 = fv
def wPost (x y fl fv : Int32) (z : sSt) (h : jH) (r : Int32) (h' : jH) : Prop := r = nI z.2.2.2.1 ∧ jfr ([(70, 71)], [(69, 2, 2), (69, 9, 11)]) h h' ∧
  ((z.1 = true ∧ h' 69 11 = 1 ∧ h' 69 10 = z.2.1 ∧ h' 69 9 = z.2.2.1) ∨ (z.1 = false ∧ h' 69 11 = 0 ∧ wSt h' x y fl fv z.2.2.2.2.1 z.2.2.2.2.2.1 z.2.2.2.2.2.2))
theorem sStep_4 {x y fl fv l : Int32} {n : Nat} {V R : Nat → Int32} {T : Int32} (h : sKind l = 4) : sStep x y fl fv l n V R T = (false, 0, 0, n + 1, V, R, T) := by unfold sStep; rw [if_pos h]
theorem sStep_j {x y fl fv l : Int32} {n : Nat} {V R : Nat → Int32} {T : Int32} (h : sKind l = 1 ∨ sKind l = 2) :
    (¬ sHolds (sVal V x y (sFirst l)) (sSign l) (sVal V x y (sSecond l)) → sStep x y fl fv l n V R T = (false, 0, 0, n + 1, V, R, T ||| sUnder R n l)) ∧
    (sHolds (sVal V x y (sFirst l)) (sSign l) (sVal V x y (sSecond l)) → sKind l = 1 → sStep x y fl fv l n V R T = (false, 0, 0, n + 1 + (sCount l).toNatClampNeg, V, R, T ||| sUnder R n l)) ∧
    (sHolds (sVal V x y (sFirst l)) (sSign l) (sVal V x y (sSecond l)) → ¬ sKind l = 1 → sStep x y fl fv l n V R T = (false, 0, 0, n - (sCount l).toNatClampNeg, V, R, T ||| sUnder R n l)) := by
  have h4 : ¬ sKind l = 4 := by rcases h with h | h <;> rw [h] <;> decide
  refine ⟨fun q => ?_, fun q r => ?_, fun q r => ?_⟩
  · unfold sStep; rw [if_neg h4, if_pos h, if_neg q]
  · unfold sStep; rw [if_neg h4, if_pos h, if_pos q, if_pos r]
  · unfold sStep; rw [if_neg h4, if_pos h, if_pos q, if_neg r]
theorem sStep_s {x y fl fv l : Int32} {n : Nat} {V R : Nat → Int32} {T s : Int32} (h4 : ¬ sKind l = 4) (h1 : ¬ sKind l = 1) (h2 : ¬ sKind l = 2) (hs : (sKind l = 0 ∧ nI n = fl ∧ s = fv) ∨ (¬ (sKind l = 0 ∧ nI n = fl) ∧ s = sSum (sVal V x y (sFirst l)) (sSign l) (sVal V x y (sSecond l)))) :
    ((sKind l = 3 ∨ 999999 < s) → sStep x y fl fv l n V R T = (true, s, T ||| sUnder R n l, n, V, R, T)) ∧
    (¬ (sKind l = 3 ∨ 999999 < s) → sStep x y fl fv l n V R T = (false, 0, 0, n + 1, sUp V (sMade l) s, sUp R (sMade l) (sUnder R n l ||| T), T)) := by
  have e : ∀ (D : Decidable (sKind l = 0 ∧ nI n = fl)), @ite _ (sKind l = 0 ∧ nI n = fl) D fv (sSum (sVal V x y (sFirst l)) (sSign l) (sVal V x y (sSecond l))) = s := by
    intro D
    rcases hs with ⟨a, b, c⟩ | ⟨a, b⟩
    · rw [if_pos ⟨a, b⟩, c]
    · rw [if_neg a, b]
  refine ⟨fun q => ?_, fun q => ?_⟩
  · unfold sStep
    rw [if_neg h4, if_neg (fun q => q.elim h1 h2)]
    simp only [e]
    rw [if_pos q]
  · unfold sStep
    rw [if_neg h4, if_neg (fun q => q.elim h1 h2)]
    simp only [e]
    rw [if_neg q]
theorem tX10_jump {n : Nat} {k c : Int32} (hn : n < 2 ^ 30) (hc : sIn c 0 15) : JM mX10_jump [.int (nI n), .int k, .int c] (jG0 sc) h (jgets sc (nI (if k = 1 then n + 1 + c.toNatClampNeg else n - c.toNatClampNeg)) h) := by
  obtain ⟨m, hm, rfl⟩ : ∃ m : Nat, m < 16 ∧ c = nI m := ⟨_, by obtain ⟨_, _⟩ := hc; omega, toInt_nn hc.1⟩
  refine jM_of rfl (Nat.le_of_ble_eq_true rfl) (by decide +kernel) rfl (rX10_jump_0 ?_ ?_)
  · intro q
    refine jgets_i ?_
    rw [if_neg q, nI_clamp (by omega)]
    by_cases hmn : m ≤ n
    · rw [pk_sub hmn]
      by_cases h0 : n - m = 0
      · rw [h0]; rfl
      · exact if_pos (nI_lt (a := 0) (b := n - m) (by omega) (by omega))
    · rw [if_neg, show n - m = 0 by omega]
      · rfl
      · have := pk_sneg (a := n) (b := m) (by omega) (by omega)
        rw [toInt_lt_iff] at this ⊢
        have e0 : (0 : Int32).toInt = 0 := rfl
        omega
  · intro q
    refine jgets_i ?_
    rw [if_pos q, nI_clamp (by omega), ← nI_succ, nI_add]
theorem tX10_begin {x y : Int32} : JM mX10_begin [.ref 69, .int x, .int y] (jG0 sc) h (jvoid sc (fun h' => wSt h' x y (h 69 5) (h 69 6) (fun _ => 0) (fun _ => 0) 0 ∧ h' 69 7 = 0 ∧ h' 69 8 = 0 ∧ h' 69 11 = 0 ∧ jfr ([(70, 71)], [(69, 2, 4), (69, 7, 11)]) h h')) := by
  refine jM_of rfl (Nat.le_of_ble_eq_true rfl) (by decide +kernel) rfl (rX10_begin_0 ?_)
  refine jloop (fun i h1 => WP mX10_begin _ 2 [some (.ref 69), some (.int x), some (.int y), some (.int (nI i))] [] (jG0 sc) h1 (0, 0)) (fun i h1 => (∀ j, j < i → h1 70 j = 0 ∧ h1 71 j = 0) ∧ jfr ([(70, 71)], []) h h1) 4 ?_ ?_ 0 h (by omega) ⟨fun j hj => absurd hj (by omega), jfr.rf⟩
  · rintro h1 ⟨i1, i2⟩
    refine rX10_begin_2 (fun _ => ?_) (fun c => absurd (by decide) c) (fun c => absurd (by decide) c)
    refine jvoid_i ⟨⟨fun i hi => ?_, fun i hi => ?_, ?_, ?_, ?_, ?_, ?_⟩, ?_, ?_, ?_, ?_⟩
    · simpa [jput] using (i1 i hi).1
    · simpa [jput] using (i1 i hi).2
    · simp [jput]
    · simp [jput]
    · simp [jput]
    · simpa [jput] using i2 69 5 rfl
    · simpa [jput] using i2 69 6 rfl
    · simp [jput]
    · simp [jput]
    · simp [jput]
    · exact ((((((((i2.mono rfl).put rfl).put rfl).put rfl).put rfl).put rfl).put rfl).put rfl).put rfl
  · rintro i h1 hi ⟨i1, i2⟩ k
    have hi' : i < 2 ^ 31 := Nat.lt_trans hi (by decide)
    refine rX10_begin_2 (fun c => absurd ((jn_le (a := 4) (by decide) hi').mp c) (by omega)) (fun _ => vp_in_nI hi (by decide)) (fun _ => ?_)
    rw [← nI_succ]
    refine k _ ⟨?_, (i2.put rfl).put rfl⟩
    intro j hj
    rw [nI_clamp hi']
    by_cases hji : j = i
    · subst hji; simp [jput]
    · have := i1 j (by omega)
      simpa [jput, hji] using this
end WD
