/-! Words, numbers and marks of a text; the class's way to them. -/
section TOK
variable {sc : Nat × (Nat → Int32)} {h : jH} {T : List Int32} {b i : Nat} {P : Int32 → Prop}
def isLet (c : Int32) : Prop := ¬ c < 97 ∧ ¬ 122 < c
def isDig (c : Int32) : Prop := ¬ c < 48 ∧ ¬ 57 < c
def isBla (c : Int32) : Prop := c = 32
noncomputable def sSpanF (P : Int32 → Prop) (T : List Int32) : Nat → Nat → Nat
  | 0, i => i
  | k + 1, i => sIf (P (T.getD i 0)) (sSpanF P T k (i + 1)) i
noncomputable def sSpan (P : Int32 → Prop) (T : List Int32) (i : Nat) : Nat := sSpanF P T (T.length - i) i
theorem sSpan_e (h : T.length ≤ i) : sSpan P T i = i := by unfold sSpan; rw [show T.length - i = 0 by omega]; rfl
theorem sSpan_t (h : i < T.length) (c : P (T.getD i 0)) : sSpan P T i = sSpan P T (i + 1) := by
  unfold sSpan
  rw [show T.length - i = (T.length - (i + 1)) + 1 by omega, sSpanF, sIf_t c]
theorem sSpan_f (h : i < T.length) (c : ¬ P (T.getD i 0)) : sSpan P T i = i := by
  unfold sSpan
  rw [show T.length - i = (T.length - (i + 1)) + 1 by omega, sSpanF, sIf_f c]
theorem sSpan_le : ∀ k i, T.length - i = k → i ≤ T.length → i ≤ sSpan P T i ∧ sSpan P T i ≤ T.length ∧ (sSpan P T i < T.length → ¬ P (T.getD (sSpan P T i) 0)) := by
  intro k
  induction k with
  | zero =>
    intro i e h
    rw [sSpan_e (by omega)]
    exact ⟨Nat.le_refl _, h, fun q => absurd q (by omega)⟩
  | succ k ih =>
    intro i e h
    by_cases c : P (T.getD i 0)
    · rw [sSpan_t (by omega) c]
      obtain ⟨a, b, d⟩ := ih (i + 1) (by omega) (by omega)
      exact ⟨by omega, b, d⟩
    · rw [sSpan_f (by omega) c]
      exact ⟨Nat.le_refl _, h, fun _ => c⟩
theorem sSpan_in (h : i ≤ T.length) : i ≤ sSpan P T i ∧ sSpan P T i ≤ T.length ∧ (sSpan P T i < T.length → ¬ P (T.getD (sSpan P T i) 0)) := sSpan_le _ i rfl h
noncomputable def sSkip (T : List Int32) (i : Nat) : Nat := sSpan isBla T i
noncomputable def tKind (T : List Int32) (b : Nat) : Nat := sIf (T.length ≤ b) 0 (sIf (isLet (T.getD b 0)) 1 (sIf (isDig (T.getD b 0)) 2 3))
noncomputable def tEnd (T : List Int32) (b : Nat) : Nat := sIf (T.length ≤ b) b (sIf (isLet (T.getD b 0)) (sSpan isLet T b) (sIf (isDig (T.getD b 0)) (sSpan isDig T b) (b + 1)))
def sDig (T : List Int32) (i : Nat) : Nat := (T.getD i 0).toInt.toNat - 48
def sNum (T : List Int32) (b : Nat) : Nat → Nat
  | 0 => 0
  | k + 1 => 10 * sNum T b k + sDig T (b + k)
theorem dig_n {c : Int32} (h : isDig c) : c = nI (c.toInt.toNat) ∧ 48 ≤ c.toInt.toNat ∧ c.toInt.toNat ≤ 57 := by
  obtain ⟨h1, h2⟩ := h
  rw [toInt_lt_iff] at h1 h2
  have e1 : (48 : Int32).toInt = 48 := rfl
  have e2 : (57 : Int32).toInt = 57 := rfl
  exact ⟨toInt_nn (by omega), by omega, by omega⟩
theorem sNum_lt (hd : ∀ k, k < i → isDig (T.getD (b + k) 0)) : sNum T b i < 10 ^ i := by
  induction i with
  | zero => exact Nat.zero_lt_one
  | succ i ih =>
    have := ih (fun k hk => hd k (by omega))
    obtain ⟨-, h1, h2⟩ := dig_n (hd i (by omega))
    rw [sNum, Nat.pow_succ]
    unfold sDig
    omega
theorem num_step {v c : Int32} {n : Nat} (hv : v = nI n) (hc : isDig c) : (v * 10 + c) - 48 = nI (10 * n + (c.toInt.toNat - 48)) ∧ ((10 * v) + c) - 48 = nI (10 * n + (c.toInt.toNat - 48)) := by
  obtain ⟨e, h1, h2⟩ := dig_n hc
  have ec : c = nI (c.toInt.toNat - 48) + 48 := by
    have : nI (c.toInt.toNat - 48) + nI 48 = nI (c.toInt.toNat - 48 + 48) := nI_add _ _
    rw [show (48 : Int32) = nI 48 from rfl, this, show c.toInt.toNat - 48 + 48 = c.toInt.toNat by omega]; exact e
  have e10 : (10 : Int32) * v = nI (10 * n) := by rw [hv, show (10 : Int32) = nI 10 from rfl, pk_mul]
  generalize c.toInt.toNat - 48 = d at *
  constructor
  · rw [Int32.mul_comm, e10, ec, ← Int32.add_assoc, Int32.add_sub_cancel, nI_add]
  · rw [e10, ec, ← Int32.add_assoc, Int32.add_sub_cancel, nI_add]
/-- the class has the token at b -/
def isTok (h : jH) (T : List Int32) (b : Nat) : Prop := h 1 2 = nI (tKind T b) ∧ h 1 3 = nI b ∧ h 1 4 = nI (tEnd T b) ∧ (tKind T b = 1 ∨ tKind T b = 3 → h 1 5 = T.getD b 0) ∧ (tKind T b = 2 → tEnd T b - b ≤ 4 → h 1 5 = nI (sNum T b (tEnd T b - b)))
abbrev fNext : jF := ([], [(1, 2, 5)])
theorem isTape.nx {h1 : jH} (k : isTape h T) (f : jfr fNext h h1) : isTape h1 T := ⟨(f 1 1 rfl).trans k.1, fun i hi => (f 2 i rfl).trans (k.2 i hi)⟩
theorem tk0 (h : T.length ≤ b) : tKind T b = 0 ∧ tEnd T b = b := ⟨sIf_t h, sIf_t h⟩
theorem tk1 (h : b < T.length) (c : isLet (T.getD b 0)) : tKind T b = 1 ∧ tEnd T b = sSpan isLet T (b + 1) := ⟨(sIf_f (by omega)).trans (sIf_t c), ((sIf_f (by omega)).trans (sIf_t c)).trans (sSpan_t h c)⟩
theorem tk2 (h : b < T.length) (c1 : ¬ isLet (T.getD b 0)) (c : isDig (T.getD b 0)) : tKind T b = 2 ∧ tEnd T b = sSpan isDig T (b + 1) := ⟨((sIf_f (by omega)).trans (sIf_f c1)).trans (sIf_t c), (((sIf_f (by omega)).trans (sIf_f c1)).trans (sIf_t c)).trans (sSpan_t h c)⟩
theorem tk3 (h : b < T.length) (c1 : ¬ isLet (T.getD b 0)) (c : ¬ isDig (T.getD b 0)) : tKind T b = 3 ∧ tEnd T b = b + 1 := ⟨((sIf_f (by omega)).trans (sIf_f c1)).trans (sIf_f c), (((sIf_f (by omega)).trans (sIf_f c1)).trans (sIf_f c))⟩
theorem dig_let {c : Int32} (h : isDig c) : ¬ isLet c := by
  intro q
  have h2 := h.2
  have q1 := q.1
  rw [toInt_lt_iff] at h2 q1
  have e2 : (57 : Int32).toInt = 57 := rfl
  have e1 : (97 : Int32).toInt = 97 := rfl
  omega
theorem tX8_next (k : isTape h T) (h4 : T.length ≤ 400) (e : h 1 4 = nI i) (hi : i ≤ T.length) : JM mX8_next [.ref 1] (jG0 sc) h (jvoid sc (fun h' => isTok h' T (sSkip T i) ∧ jfr fNext h h')) := by
  have e1 : h 1 1 = nI T.length := k.1
  refine jM_of rfl (Nat.le_of_ble_eq_true rfl) (by decide +kernel) rfl (bX8_next_0 ?_)
  rw [e]
  -- a word's letters
  have word : ∀ m j (h1 : jH) (b : Nat), T.length - j = m → j ≤ T.length → isTape h1 T → h1 1 2 = nI 1 → h1 1 3 = nI b → b < T.length → isLet (T.getD b 0) → sSpan isLet T j = sSpan isLet T (b + 1) → h1 1 5 = T.getD b 0 → jfr fNext h h1 → b = sSkip T i →
      WP mX8_next (jvoid sc (fun h' => isTok h' T (sSkip T i) ∧ jfr fNext h h')) 116 [some (.ref 1), some (.int (nI j))] [] (jG0 sc) h1 (0, 0) := by
    intro m
    induction m with
    | zero =>
      intro j h1 b em hj k1 a2 a3 hb hl es a5 f eb
      obtain ⟨t1, t2⟩ := tk1 hb hl
      refine bX8_next_116 (fun c => absurd c (nI_pos (by omega))) (fun _ => bX8_next_120 (fun _ => bX8_next_282 (jvoid_i ⟨?_, f.put rfl⟩)) (fun c => absurd (by rw [k1.1]; exact nI_le (by omega) (by omega)) c))
      rw [← eb]
      refine ⟨by rw [t1]; exact a2, a3, ?_, fun _ => a5, fun q => (by rw [t1] at q; cases q)⟩
      rw [jput_at, t2, ← es, sSpan_e (by omega)]
    | succ m ih =>
      intro j h1 b em hj k1 a2 a3 hb hl es a5 f eb
      obtain ⟨t1, t2⟩ := tk1 hb hl
      have ej : h1 2 (nI j).toNatClampNeg = T.getD j 0 := by rw [nI_clamp (by omega)]; exact k1.2 j (by omega)
      have vj : vp_in (nI j) 400 := vp_in_nI (by omega) (by decide)
      have stop : ¬ isLet (T.getD j 0) → WP mX8_next (jvoid sc (fun h' => isTok h' T (sSkip T i) ∧ jfr fNext h h')) 282 [some (.ref 1), some (.int (nI j))] [] (jG0 sc) h1 (0, 0) := fun c => by
        refine bX8_next_282 (jvoid_i ⟨?_, f.put rfl⟩)
        rw [← eb]
        refine ⟨by rw [t1]; exact a2, a3, ?_, fun _ => a5, fun q => (by rw [t1] at q; cases q)⟩
        rw [jput_at, t2, ← es, sSpan_f (by omega) c]
      refine bX8_next_116 (fun c => absurd c (nI_pos (by omega))) (fun _ => bX8_next_120 (fun c => absurd c (by rw [k1.1, jn_le (by omega) (by omega)]; omega)) (fun _ => bX8_next_128 (fun c => absurd ((jn_le (a := 400) (by decide) (by omega)).mp c) (by omega)) (fun _ => bX8_next_135 vj (fun c => stop ?_) (fun c => bX8_next_146 vj (fun c2 => stop ?_) (fun c2 => bX8_next_157 ?_)))))
      · rw [ej] at c; exact fun q => q.1 c
      · rw [ej] at c2; exact fun q => q.2 c2
      · rw [ej] at c c2
        rw [← nI_succ]
        exact ih (j + 1) h1 b (by omega) (by omega) k1 a2 a3 hb hl (by rw [← es]; exact (sSpan_t (P := isLet) (by omega) ⟨c, c2⟩).symm) a5 f eb
  -- a number's digits
  have num : ∀ m j (h1 : jH) (b : Nat), T.length - j = m → j ≤ T.length → isTape h1 T → h1 1 2 = nI 2 → h1 1 3 = nI b → b < j → (∀ t, b ≤ t → t < j → isDig (T.getD t 0)) → sSpan isDig T j = sSpan isDig T (b + 1) → (j - b ≤ 4 → h1 1 5 = nI (sNum T b (j - b))) → jfr fNext h h1 → b = sSkip T i →
      WP mX8_next (jvoid sc (fun h' => isTok h' T (sSkip T i) ∧ jfr fNext h h')) 197 [some (.ref 1), some (.int (nI j))] [] (jG0 sc) h1 (0, 0) := by
    intro m
    induction m with
    | zero =>
      intro j h1 b em hj k1 a2 a3 hb hd es a5 f eb
      have db := hd b (Nat.le_refl _) hb
      obtain ⟨t1, t2⟩ := tk2 (by omega) (dig_let db) db
      have te : tEnd T b = j := by rw [t2, ← es, sSpan_e (by omega)]
      refine bX8_next_197 (fun c => absurd c (nI_pos (by omega))) (fun _ => bX8_next_201 (fun _ => bX8_next_282 (jvoid_i ⟨?_, f.put rfl⟩)) (fun c => absurd (by rw [k1.1]; exact nI_le (by omega) (by omega)) c))
      rw [← eb]
      exact ⟨by rw [t1]; exact a2, a3, by rw [jput_at, te], fun q => (by rw [t1] at q; rcases q with q | q <;> cases q), fun _ q => by rw [te] at q ⊢; exact a5 q⟩
    | succ m ih =>
      intro j h1 b em hj k1 a2 a3 hb hd es a5 f eb
      have db := hd b (Nat.le_refl _) hb
      obtain ⟨t1, t2⟩ := tk2 (by omega) (dig_let db) db
      have ej : h1 2 (nI j).toNatClampNeg = T.getD j 0 := by rw [nI_clamp (by omega)]; exact k1.2 j (by omega)
      have vj : vp_in (nI j) 400 := vp_in_nI (by omega) (by decide)
      have stop : ¬ isDig (T.getD j 0) → WP mX8_next (jvoid sc (fun h' => isTok h' T (sSkip T i) ∧ jfr fNext h h')) 282 [some (.ref 1), some (.int (nI j))] [] (jG0 sc) h1 (0, 0) := fun c => by
        have te : tEnd T b = j := by rw [t2, ← es, sSpan_f (by omega) c]
        refine bX8_next_282 (jvoid_i ⟨?_, f.put rfl⟩)
        rw [← eb]
        exact ⟨by rw [t1]; exact a2, a3, by rw [jput_at, te], fun q => (by rw [t1] at q; rcases q with q | q <;> cases q), fun _ q => by rw [te] at q ⊢; exact a5 q⟩
      have go : isDig (T.getD j 0) → ∀ v, (j + 1 - b ≤ 4 → v = nI (sNum T b (j + 1 - b))) → WP mX8_next (jvoid sc (fun h' => isTok h' T (sSkip T i) ∧ jfr fNext h h')) 273 [some (.ref 1), some (.int (nI j))] [.int v, .ref 1] (jG0 sc) h1 (0, 0) := fun dj v ev => by
        refine bX8_next_273 ?_
        rw [← nI_succ]
        refine ih (j + 1) _ b (by omega) (by omega) ⟨(jput_sl (by decide)).trans k1.1, fun t ht => by rw [jput_ne (by decide)]; exact k1.2 t ht⟩ ((jput_sl (by decide)).trans a2) ((jput_sl (by decide)).trans a3) (by omega) (fun t h1 h2 => ?_) (by rw [← es]; exact (sSpan_t (P := isDig) (by omega) dj).symm) (fun q => by rw [jput_at]; exact ev q) (f.put rfl) eb
        by_cases z : t = j
        · subst z; exact dj
        · exact hd t h1 (by omega)
      have numj : sNum T b (j - b) < 10 ^ (j - b) := sNum_lt (fun t ht => hd (b + t) (by omega) (by omega))
      refine bX8_next_197 (fun c => absurd c (nI_pos (by omega))) (fun _ => bX8_next_201 (fun c => absurd c (by rw [k1.1, jn_le (by omega) (by omega)]; omega)) (fun _ => bX8_next_209 (fun c => absurd ((jn_le (a := 400) (by decide) (by omega)).mp c) (by omega)) (fun _ => bX8_next_216 vj (fun c => stop ?_) (fun c => bX8_next_227 vj (fun c2 => stop ?_) (fun c2 => bX8_next_238 (fun c3 => bX8_next_256 vj ?_) (fun c3 => bX8_next_249 ?_))))))
      · rw [ej] at c; exact fun q => q.1 c
      · rw [ej] at c2; exact fun q => q.2 c2
      · rw [ej] at c c2 ⊢
        refine go ⟨c, c2⟩ _ (fun q => ?_)
        rw [(num_step (a5 (by omega)) ⟨c, c2⟩).1, show j + 1 - b = (j - b) + 1 by omega, sNum, show b + (j - b) = j by omega]; rfl
      · rw [ej] at c c2
        refine go ⟨c, c2⟩ _ (fun q => ?_)
        rw [a5 (by omega)] at c3
        have : (10 : Nat) ^ (j - b) ≤ 10 ^ 3 := Nat.pow_le_pow_right (by decide) (by omega)
        exact absurd ((jn_le (b := 9999) (by omega) (by decide)).mpr (by omega)) c3
  -- behind the blanks
  have first : ∀ b, b = sSkip T i → b ≤ T.length → WP mX8_next (jvoid sc (fun h' => isTok h' T (sSkip T i) ∧ jfr fNext h h')) 41 [some (.ref 1), some (.int (nI b))] [] (jG0 sc) h (0, 0) := by
    intro b eb hb
    refine bX8_next_41 (fun c => absurd c (nI_pos (by omega))) (fun _ => ?_)
    have f1 : jfr fNext h (jput (jput (jput h 1 3 (nI b)) 1 2 0) 1 5 0) := ((jfr.rf.put rfl).put rfl).put rfl
    have k1 := k.nx f1
    have a3 : jput (jput (jput h 1 3 (nI b)) 1 2 0) 1 5 0 1 3 = nI b := rfl
    have a2 : jput (jput (jput h 1 3 (nI b)) 1 2 0) 1 5 0 1 2 = 0 := rfl
    have a5 : jput (jput (jput h 1 3 (nI b)) 1 2 0) 1 5 0 1 5 = 0 := rfl
    generalize jput (jput (jput h 1 3 (nI b)) 1 2 0) 1 5 0 = h1 at *
    by_cases z : b < T.length
    · have ej : jput h1 1 2 3 2 (nI b).toNatClampNeg = T.getD b 0 := by rw [jput_ne (by decide), nI_clamp (by omega)]; exact k1.2 b z
      refine bX8_next_60 (fun c => absurd c (by rw [k1.1, jn_le (by omega) (by omega)]; omega)) (fun _ => bX8_next_68 (fun c => absurd ((jn_le (a := 400) (by decide) (by omega)).mp c) (by omega)) (fun _ => bX8_next_75 (vp_in_nI (by omega) (by decide)) ?_))
      rw [ej, ← nI_succ]
      have f2 : jfr fNext h (jput (jput h1 1 2 3) 1 5 (T.getD b 0)) := (f1.put rfl).put rfl
      have k2 := k.nx f2
      have g3 : jput (jput h1 1 2 3) 1 5 (T.getD b 0) 1 3 = nI b := ((jput_sl (by decide)).trans (jput_sl (by decide))).trans a3
      have g2 : jput (jput h1 1 2 3) 1 5 (T.getD b 0) 1 2 = nI 3 := (jput_sl (by decide)).trans jput_at
      have g5 : jput (jput h1 1 2 3) 1 5 (T.getD b 0) 1 5 = T.getD b 0 := jput_at
      generalize jput (jput h1 1 2 3) 1 5 (T.getD b 0) = h2 at *
      have noLet : ¬ isLet (T.getD b 0) → WP mX8_next (jvoid sc (fun h' => isTok h' T (sSkip T i) ∧ jfr fNext h h')) 163 [some (.ref 1), some (.int (nI (b + 1)))] [] (jG0 sc) h2 (0, 0) := fun c => by
        have mark : ¬ isDig (T.getD b 0) → WP mX8_next (jvoid sc (fun h' => isTok h' T (sSkip T i) ∧ jfr fNext h h')) 282 [some (.ref 1), some (.int (nI (b + 1)))] [] (jG0 sc) h2 (0, 0) := fun c2 => by
          obtain ⟨t1, t2⟩ := tk3 z c c2
          refine bX8_next_282 (jvoid_i ⟨?_, f2.put rfl⟩)
          rw [← eb]
          exact ⟨by rw [t1]; exact (jput_sl (by decide)).trans g2, (jput_sl (by decide)).trans g3, by rw [jput_at, t2], fun _ => (jput_sl (by decide)).trans g5, fun q => (by rw [t1] at q; cases q)⟩
        refine bX8_next_163 (fun c2 => mark ?_) (fun c2 => bX8_next_172 (fun c3 => mark ?_) (fun c3 => bX8_next_181 ?_))
        · rw [g5] at c2; exact fun q => q.1 c2
        · rw [g5] at c3; exact fun q => q.2 c3
        · rw [g5] at c2 c3
          have db : isDig (T.getD b 0) := ⟨c2, c3⟩
          have gv : jput h2 1 2 2 1 5 - 48 = nI (sNum T b (b + 1 - b)) := by
            have := (num_step (v := 0) (n := 0) rfl db).1
            rw [Int32.zero_mul, Int32.zero_add] at this
            rw [show jput h2 1 2 2 1 5 = T.getD b 0 from (jput_sl (by decide)).trans g5, this, show b + 1 - b = 0 + 1 by omega]; rfl
          rw [gv]
          exact num _ (b + 1) _ b rfl (by omega) (k.nx ((f2.put rfl).put rfl)) ((jput_sl (by decide)).trans jput_at) (((jput_sl (by decide)).trans (jput_sl (by decide))).trans g3) (by omega) (fun t h1 h2 => by rw [show t = b by omega]; exact db) rfl (fun _ => jput_at) ((f2.put rfl).put rfl) eb
      refine bX8_next_93 (fun c => noLet ?_) (fun c => bX8_next_102 (fun c2 => noLet ?_) (fun c2 => bX8_next_111 ?_))
      · rw [g5] at c; exact fun q => q.1 c
      · rw [g5] at c2; exact fun q => q.2 c2
      · rw [g5] at c c2
        exact word _ (b + 1) _ b rfl (by omega) (k.nx (f2.put rfl)) jput_at ((jput_sl (by decide)).trans g3) z ⟨c, c2⟩ rfl ((jput_sl (by decide)).trans g5) (f2.put rfl) eb
    · have zb : b = T.length := by omega
      obtain ⟨t1, t2⟩ := tk0 (T := T) (b := b) (by omega)
      refine bX8_next_60 (fun _ => bX8_next_93 (fun _ => bX8_next_163 (fun _ => bX8_next_282 (jvoid_i ⟨?_, f1.put rfl⟩)) (fun c => absurd (by rw [a5]; decide) c)) (fun c => absurd (by rw [a5]; decide) c)) (fun c => absurd (by rw [k1.1]; exact nI_le (by omega) (by omega)) c)
      rw [← eb]
      exact ⟨by rw [t1]; exact (jput_sl (by decide)).trans a2, (jput_sl (by decide)).trans a3, by rw [jput_at, t2], fun q => (by rw [t1] at q; rcases q with q | q <;> cases q), fun q => (by rw [t1] at q; cases q)⟩
  -- the blanks
  have go : ∀ m j, T.length - j = m → j ≤ T.length → sSkip T j = sSkip T i → WP mX8_next (jvoid sc (fun h' => isTok h' T (sSkip T i) ∧ jfr fNext h h')) 5 [some (.ref 1), some (.int (nI j))] [] (jG0 sc) h (0, 0) := by
    intro m
    induction m with
    | zero =>
      intro j em hj es
      refine bX8_next_5 (fun c => absurd c (nI_pos (by omega))) (fun _ => bX8_next_9 (fun _ => first j ?_ hj) (fun c => absurd (by rw [e1]; exact nI_le (by omega) (by omega)) c))
      rw [← es]; exact (sSpan_e (by omega)).symm
    | succ m ih =>
      intro j em hj es
      have ej : h 2 (nI j).toNatClampNeg = T.getD j 0 := by rw [nI_clamp (by omega)]; exact k.2 j (by omega)
      refine bX8_next_5 (fun c => absurd c (nI_pos (by omega))) (fun _ => bX8_next_9 (fun c => absurd c (by rw [e1, jn_le (by omega) (by omega)]; omega)) (fun _ => bX8_next_17 (fun c => absurd ((jn_le (a := 400) (by decide) (by omega)).mp c) (by omega)) (fun _ => bX8_next_24 (vp_in_nI (by omega) (by decide)) (fun c => first j ?_ hj) (fun c => bX8_next_35 ?_))))
      · rw [ej] at c; rw [← es]; exact (sSpan_f (P := isBla) (by omega) c).symm
      · rw [ej] at c
        rw [← nI_succ]
        exact ih (j + 1) (by omega) (by omega) (by rw [← es]; exact (sSpan_t (P := isBla) (by omega) c).symm)
  exact go _ i rfl hi rfl
end TOK
