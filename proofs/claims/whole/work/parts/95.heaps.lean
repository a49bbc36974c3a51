/-! For heaps: the fewest sets that cover one. -/
section HPS
variable {G G2 : Nat → Prop} {W g : Nat} {p : List Int32} {rs : List aRun} {f f2 : Nat → Prop} {n : Nat}
def orL : List Nat → Nat
  | [] => 0
  | g :: L => g ||| orL L
def isCov (G : Nat → Prop) (W k : Nat) : Prop := ∃ L : List Nat, L.length = k ∧ (∀ g ∈ L, G g) ∧ orL L = W
def isHeap (G : Nat → Prop) (W : Nat) (v : Int32) : Prop := (v = -1 ∧ ∀ k, ¬ isCov G W k) ∨ ∃ k, isCov G W k ∧ (∀ k', isCov G W k' → k ≤ k') ∧ v = nI k
theorem isHeap_1 {v w : Int32} (hv : isHeap G W v) (hw : isHeap G W w) : v = w := by
  rcases hv with ⟨e1, a1⟩ | ⟨k, c1, m1, e1⟩ <;> rcases hw with ⟨e2, a2⟩ | ⟨j, c2, m2, e2⟩
  · rw [e1, e2]
  · exact absurd c2 (a1 j)
  · exact absurd c1 (a2 k)
  · have := m1 j c2
    have := m2 k c1
    rw [e1, e2, show k = j by omega]
noncomputable def sHeapV (G : Nat → Prop) (W : Nat) : Int32 := Classical.epsilon (isHeap G W)
theorem sHeapV_e {v : Int32} (h : isHeap G W v) : sHeapV G W = v := isHeap_1 (Classical.epsilon_spec ⟨v, h⟩) h
theorem orL_bit {i : Nat} : ∀ {L : List Nat}, (orL L).testBit i = true ↔ ∃ g ∈ L, g.testBit i = true := by
  intro L
  induction L with
  | nil => rw [orL, Nat.zero_testBit]; exact ⟨fun e => (by cases e), fun ⟨g, hg, _⟩ => absurd hg List.not_mem_nil⟩
  | cons a L ih =>
    rw [orL, Nat.testBit_or, Bool.or_eq_true, ih]
    constructor
    · rintro (h | ⟨g, hg, h⟩)
      · exact ⟨a, List.mem_cons_self .., h⟩
      · exact ⟨g, List.mem_cons_of_mem _ hg, h⟩
    · rintro ⟨g, hg, h⟩
      rcases List.mem_cons.mp hg with e | e
      · subst e; exact Or.inl h
      · exact Or.inr ⟨g, e, h⟩
theorem orL_lt {L : List Nat} (h : ∀ g ∈ L, g < 4096) : orL L < 4096 := by
  induction L with
  | nil => exact Nat.zero_lt_succ _
  | cons a L ih =>
    rw [orL]
    exact Nat.or_lt_two_pow (n := 12) (h a (List.mem_cons_self ..)) (ih (fun g hg => h g (List.mem_cons_of_mem _ hg)))
theorem or_ge {a b : Nat} : a ≤ a ||| b := Nat.left_le_or
/-! the reference's way: sets from the last on, a gain at a time -/
def hSound (G : Nat → Prop) (D : Nat → Option Nat) (j : Nat) : Prop := ∀ s k, D s = some k → k ≤ j ∧ ∃ L : List Nat, L.length = k ∧ (∀ g ∈ L, G g) ∧ orL L = s
def hFull (G : Nat → Prop) (D : Nat → Option Nat) : Prop := ∀ L : List Nat, (∀ g ∈ L, G g) → ∃ k, D (orL L) = some k ∧ k ≤ L.length
def hPass (g : Nat) (old cur : Nat → Option Nat) (i : Nat) : Prop := (∀ t, t < i → cur t = old t) ∧ (∀ t k, cur t = some k → old t = some k ∨ ∃ s k', old s = some k' ∧ s ||| g = t ∧ k = k' + 1) ∧ (∀ t k, old t = some k → ∃ k1, cur t = some k1 ∧ k1 ≤ k) ∧ ∀ s, i ≤ s → s < 4096 → ∀ k, old s = some k → s ||| g ≠ s → ∃ k1, cur (s ||| g) = some k1 ∧ k1 ≤ k + 1
def hUp (D : Nat → Option Nat) (t k : Nat) : Nat → Option Nat := fun s => if s = t then some k else D s
theorem hPass_0 {D : Nat → Option Nat} : hPass g D D 4096 := ⟨fun _ _ => rfl, fun _ _ h => Or.inl h, fun _ k h => ⟨k, h, Nat.le_refl _⟩, fun s a b => absurd b (by omega)⟩
/-- nothing is to do at a set -/
theorem hPass_skip {old cur : Nat → Option Nat} {i : Nat} (h : hPass g old cur (i + 1)) (q : ∀ k, cur i = some k → i ||| g ≠ i → ∃ k1, cur (i ||| g) = some k1 ∧ k1 ≤ k + 1) : hPass g old cur i := by
  obtain ⟨a, b, c, d⟩ := h
  refine ⟨fun t ht => a t (by omega), b, c, fun s hs hs2 k e ne => ?_⟩
  by_cases z : s = i
  · subst z; exact q k ((a s (by omega)).trans e) ne
  · exact d s (by omega) hs2 k e ne
theorem hPass_put {old cur : Nat → Option Nat} {i k : Nat} (h : hPass g old cur (i + 1)) (e : cur i = some k) (ne : i ||| g ≠ i) (q : ∀ k1, cur (i ||| g) = some k1 → ¬ k1 ≤ k + 1) : hPass g old (hUp cur (i ||| g) (k + 1)) i := by
  obtain ⟨a, b, c, d⟩ := h
  have gt : i < i ||| g := by have := or_ge (a := i) (b := g); omega
  have eo : old i = some k := (a i (by omega)).symm.trans e
  refine ⟨fun t ht => ?_, fun t k1 h1 => ?_, fun t k1 h1 => ?_, fun s hs hs2 k1 e1 ne1 => ?_⟩
  · unfold hUp; rw [if_neg (by omega)]; exact a t (by omega)
  · unfold hUp at h1
    by_cases z : t = i ||| g
    · rw [if_pos z] at h1
      injection h1 with h1
      exact Or.inr ⟨i, k, eo, z.symm, h1.symm⟩
    · rw [if_neg z] at h1; exact b t k1 h1
  · obtain ⟨k2, h2, l2⟩ := c t k1 h1
    unfold hUp
    by_cases z : t = i ||| g
    · rw [if_pos z]
      rw [z] at h2
      exact ⟨_, rfl, by have := q k2 h2; omega⟩
    · rw [if_neg z]; exact ⟨k2, h2, l2⟩
  · unfold hUp
    by_cases z : s ||| g = i ||| g
    · rw [if_pos z]
      by_cases y : s = i
      · subst y; rw [eo] at e1; injection e1 with e1; exact ⟨_, rfl, by omega⟩
      · obtain ⟨k2, h2, l2⟩ := d s (by omega) hs2 k1 e1 ne1
        rw [z] at h2
        exact ⟨_, rfl, by have := q k2 h2; omega⟩
    · rw [if_neg z]
      exact d s (by
        by_cases y : s = i
        · subst y; exact absurd rfl z
        · omega) hs2 k1 e1 ne1
theorem hNext {old cur : Nat → Option Nat} {j : Nat} (hG : ∀ x, G2 x ↔ G x ∨ x = g) (hG4 : ∀ x, G x → x < 4096) (s : hSound G old j) (c : hFull G old) (h : hPass g old cur 0) : hSound G2 cur (j + 1) ∧ hFull G2 cur := by
  obtain ⟨-, b, m, d⟩ := h
  constructor
  · intro t k e
    rcases b t k e with e1 | ⟨s', k', e1, e2, e3⟩
    · obtain ⟨l, L, h1, h2, h3⟩ := s t k e1
      exact ⟨by omega, L, h1, fun x hx => (hG x).mpr (Or.inl (h2 x hx)), h3⟩
    · obtain ⟨l, L, h1, h2, h3⟩ := s s' k' e1
      refine ⟨by omega, g :: L, by rw [List.length_cons, h1, e3], fun x hx => ?_, ?_⟩
      · rcases List.mem_cons.mp hx with e | e
        · exact (hG x).mpr (Or.inr e)
        · exact (hG x).mpr (Or.inl (h2 x e))
      · rw [orL, h3, Nat.or_comm]; exact e2
  · intro L hL
    have split : ∀ L : List Nat, (∀ x ∈ L, G2 x) → ∃ L' : List Nat, (∀ x ∈ L', G x) ∧ ((orL L = orL L' ∧ L'.length ≤ L.length) ∨ (orL L = orL L' ||| g ∧ L'.length + 1 ≤ L.length)) := by
      intro L
      induction L with
      | nil => intro _; exact ⟨[], fun x hx => absurd hx List.not_mem_nil, Or.inl ⟨rfl, Nat.le_refl _⟩⟩
      | cons a L ih =>
        intro hL
        obtain ⟨L', g1, g2⟩ := ih (fun x hx => hL x (List.mem_cons_of_mem _ hx))
        rcases (hG a).mp (hL a (List.mem_cons_self ..)) with q | q
        · refine ⟨a :: L', fun x hx => (List.mem_cons.mp hx).elim (fun e => by rw [e]; exact q) (g1 x), ?_⟩
          rcases g2 with ⟨e, l⟩ | ⟨e, l⟩
          · exact Or.inl ⟨by rw [orL, orL, e], by rw [List.length_cons, List.length_cons]; omega⟩
          · exact Or.inr ⟨by rw [orL, orL, e, Nat.or_assoc], by rw [List.length_cons, List.length_cons]; omega⟩
        · subst q
          refine ⟨L', g1, ?_⟩
          rcases g2 with ⟨e, l⟩ | ⟨e, l⟩
          · exact Or.inr ⟨by rw [orL, e, Nat.or_comm], by rw [List.length_cons]; omega⟩
          · refine Or.inr ⟨by rw [orL, e, Nat.or_comm, Nat.or_assoc, Nat.or_self], by rw [List.length_cons]; omega⟩
    obtain ⟨L', g1, g2⟩ := split L hL
    obtain ⟨k, e1, l1⟩ := c L' g1
    rcases g2 with ⟨e, l⟩ | ⟨e, l⟩
    · obtain ⟨k2, e2, l2⟩ := m _ _ e1
      rw [e]; exact ⟨k2, e2, by omega⟩
    · by_cases z : orL L' ||| g = orL L'
      · obtain ⟨k2, e2, l2⟩ := m _ _ e1
        rw [e, z]; exact ⟨k2, e2, by omega⟩
      · obtain ⟨k2, e2, l2⟩ := d (orL L') (Nat.zero_le _) (orL_lt (fun x hx => hG4 x (g1 x hx))) k e1 z
        rw [e]; exact ⟨k2, e2, by omega⟩
theorem hEnd {D : Nat → Option Nat} {j : Nat} (s : hSound G D j) (c : hFull G D) : isHeap G W (match D W with | none => -1 | some k => nI k) := by
  cases e : D W with
  | none =>
    refine Or.inl ⟨rfl, fun k q => ?_⟩
    obtain ⟨L, h1, h2, h3⟩ := q
    obtain ⟨k2, e2, -⟩ := c L h2
    rw [h3, e] at e2; cases e2
  | some k =>
    obtain ⟨-, L, h1, h2, h3⟩ := s W k e
    refine Or.inr ⟨k, ⟨L, h1, h2, h3⟩, fun k' q => ?_, rfl⟩
    obtain ⟨L', g1, g2, g3⟩ := q
    obtain ⟨k2, e2, l2⟩ := c L' g2
    rw [g3, e] at e2; injection e2 with e2; omega
/-! the class's way: sets from the first on, by a run that is wanting -/
noncomputable def missing (W s : Nat) : Nat := sCnt (fun i => W.testBit i = true ∧ ¬ s.testBit i = true) 12
theorem sCnt_mono {P Q : Nat → Prop} (h : ∀ i, i < n → P i → Q i) : sCnt P n ≤ sCnt Q n := by
  induction n with
  | zero => exact Nat.le_refl _
  | succ n ih =>
    have := ih (fun i hi => h i (by omega))
    by_cases c : P n
    · rw [sCnt_t c, sCnt_t (h n (by omega) c)]; omega
    · rw [sCnt_f c]
      exact Nat.le_trans this sCnt_up
theorem sCnt_less {P Q : Nat → Prop} {k : Nat} (hk : k < n) (h : ∀ i, i < n → P i → Q i) (hP : ¬ P k) (hQ : Q k) : sCnt P n < sCnt Q n := by
  induction n with
  | zero => exact absurd hk (Nat.not_lt_zero _)
  | succ n ih =>
    by_cases z : k = n
    · subst z
      rw [sCnt_f hP, sCnt_t hQ]
      have := sCnt_mono (n := k) (P := P) (Q := Q) (fun i hi => h i (by omega))
      omega
    · have := ih (by omega) (fun i hi => h i (by omega))
      by_cases c : P n
      · rw [sCnt_t c, sCnt_t (h n (by omega) c)]; omega
      · rw [sCnt_f c]; have := sCnt_up (P := Q) (n := n); omega
theorem missing_less {s k : Nat} (hk : k < 12) (h1 : W.testBit k = true) (h2 : ¬ s.testBit k = true) (h3 : g.testBit k = true) : missing W (s ||| g) < missing W s := by
  refine sCnt_less hk (fun i _ q => ⟨q.1, fun c => q.2 (by rw [Nat.testBit_or, c]; rfl)⟩) (fun q => q.2 (by rw [Nat.testBit_or, h3, Bool.or_true])) ⟨h1, h2⟩
theorem orL_erase {L : List Nat} (hg : g ∈ L) : orL L = g ||| orL (L.erase g) := by
  induction L with
  | nil => exact absurd hg List.not_mem_nil
  | cons a L ih =>
    by_cases z : a = g
    · subst z; rw [List.erase_cons_head]; rfl
    · rw [List.erase_cons_tail (by simpa using z)]
      rw [orL, orL, ih ((List.mem_cons.mp hg).resolve_left (fun e => z e.symm)), ← Nat.or_assoc, ← Nat.or_assoc, Nat.or_comm a g]
/-- every set below W, once reached, has gone on by each gain with a run that it wants -/
def hStep (G : Nat → Prop) (W : Nat) (N : Nat → Nat) (i : Nat) : Prop := ∀ s, s < i → s < W → N s < 100 → ∃ k, k < 12 ∧ W.testBit k = true ∧ ¬ s.testBit k = true ∧ ∀ g, G g → g.testBit k = true → N (s ||| g) ≤ N s + 1
theorem or_W {s : Nat} (h : s ||| W = W) : s ≤ W := by have := or_ge (a := s) (b := W); omega
theorem cov_go {N : Nat → Nat} (st : hStep G W N W) : ∀ (m s a : Nat) (L : List Nat), s ||| W = W → N s ≤ a → a + m < 100 → missing W s ≤ m → (∀ g ∈ L, G g) → s ||| orL L = W → N W ≤ a + L.length ∧ N W ≤ a + m := by
  intro m
  induction m with
  | zero =>
    intro s a L h1 h2 h3 h4 h5 h6
    by_cases z : s = W
    · subst z; omega
    · have lt : s < W := by have := or_W h1; omega
      obtain ⟨k, k12, b1, b2, -⟩ := st s lt lt (by omega)
      have := missing_less (g := 2 ^ k) k12 b1 b2 (by rw [Nat.testBit_two_pow_self])
      omega
  | succ m ih =>
    intro s a L h1 h2 h3 h4 h5 h6
    by_cases z : s = W
    · subst z; omega
    · have lt : s < W := by have := or_W h1; omega
      obtain ⟨k, k12, b1, b2, b3⟩ := st s lt lt (by omega)
      have hit : (orL L).testBit k = true := by
        have : (s ||| orL L).testBit k = true := by rw [h6]; exact b1
        rw [Nat.testBit_or, Bool.or_eq_true] at this
        exact this.resolve_left b2
      obtain ⟨g, hg, bg⟩ := orL_bit.mp hit
      have e1 : (s ||| g) ||| orL (L.erase g) = W := by rw [Nat.or_assoc, ← orL_erase hg]; exact h6
      have e2 : (s ||| g) ||| W = W := by rw [← e1, ← Nat.or_assoc, Nat.or_self]
      have l1 : 0 < L.length := List.length_pos_of_mem hg
      have := ih (s ||| g) (a + 1) (L.erase g) e2 (Nat.le_trans (b3 g (h5 g hg) bg) (by omega)) (by omega) (by have := missing_less (g := g) k12 b1 b2 bg; omega) (fun x hx => h5 x (List.mem_of_mem_erase hx)) e1
      rw [List.length_erase_of_mem hg] at this
      omega
theorem missing_12 {s : Nat} : missing W s ≤ 12 := sCnt_le 12
/-- bits of a property as a number -/
noncomputable def sNB (f : Nat → Prop) : Nat → Nat
  | 0 => 0
  | n + 1 => sNB f n + sIf (f n) (2 ^ n) 0
theorem sNB_t (h : f n) : sNB f (n + 1) = sNB f n + 2 ^ n := by rw [sNB, sIf_t h]
theorem sNB_f (h : ¬ f n) : sNB f (n + 1) = sNB f n := by rw [sNB, sIf_f h, Nat.add_zero]
theorem sNB_e : ∀ n, n ≤ 12 → sNB f n < 2 ^ n ∧ sBits f n = nI (sNB f n) := by
  intro n
  induction n with
  | zero => intro _; exact ⟨Nat.zero_lt_one, rfl⟩
  | succ n ih =>
    intro hn
    obtain ⟨h1, h2⟩ := ih (by omega)
    have h3 : 2 ^ (n + 1) = 2 ^ n + 2 ^ n := by rw [Nat.pow_succ]; omega
    by_cases c : f n
    · rw [sNB_t c, sBits_t c, h2, (pop_step n (by omega) _ h1).1]
      exact ⟨by omega, rfl⟩
    · rw [sNB_f c, sBits_f c]; exact ⟨by omega, h2⟩
theorem sNB_4096 (hn : n ≤ 12) : sNB f n < 4096 := Nat.lt_of_lt_of_le (sNB_e n hn).1 (Nat.pow_le_pow_right (by decide) hn)
theorem sNB_bit (hn : n ≤ 12) {i : Nat} (hi : i < 12) : (sNB f n).testBit i = true ↔ i < n ∧ f i := by
  rw [← bt_nI (by omega), ← (sNB_e n hn).2]
  exact bt_sBits (by omega) (by omega)
theorem nI_or {a b : Nat} : nI a ||| nI b = nI (a ||| b) := by
  refine b_ext fun i hi => ?_
  rw [b_or, bt_nI hi, bt_nI hi, bt_nI hi, Nat.testBit_or]
theorem sBits_and {n : Nat} (hn : n ≤ 32) : sBits f n &&& sBits f2 n = sBits (fun i => f i ∧ f2 i) n := by
  refine b_ext fun i hi => ?_
  rw [b_and]
  have a := bt_sBits (f := f) hn hi
  have b := bt_sBits (f := f2) hn hi
  have c := bt_sBits (f := fun i => f i ∧ f2 i) hn hi
  cases h1 : bt (sBits f n) i <;> cases h2 : bt (sBits f2 n) i <;> cases h3 : bt (sBits (fun i => f i ∧ f2 i) n) i <;> simp_all
noncomputable def sWrongN (p : List Int32) (rs : List aRun) : Nat := sNB (fun i => ¬ sRightAt p rs i) rs.length
noncomputable def sGainN (p : List Int32) (rs : List aRun) (m : Nat) : Nat := sNB (fun i => ¬ sRightAt p rs i ∧ sRightAt (sBy p (m, none)) rs i) rs.length
def sKeepsR (p : List Int32) (rs : List aRun) (m : Nat) : Prop := ∀ i, i < rs.length → sRightAt p rs i → sRightAt (sBy p (m, none)) rs i
/-- the gains of mends ahead of j -/
def sGn (p : List Int32) (rs : List aRun) (j : Nat) (g : Nat) : Prop := ∃ m, m < j ∧ sKeepsR p rs m ∧ g = sGainN p rs m
theorem sGn_s {j x : Nat} : (sKeepsR p rs j → (sGn p rs (j + 1) x ↔ sGn p rs j x ∨ x = sGainN p rs j)) ∧ (¬ sKeepsR p rs j → (sGn p rs (j + 1) x ↔ sGn p rs j x)) := by
  constructor
  · intro c
    constructor
    · rintro ⟨m, h1, h2, h3⟩
      by_cases z : m = j
      · subst z; exact Or.inr h3
      · exact Or.inl ⟨m, by omega, h2, h3⟩
    · rintro (⟨m, h1, h2, h3⟩ | h)
      · exact ⟨m, by omega, h2, h3⟩
      · exact ⟨j, by omega, c, h⟩
  · intro c
    constructor
    · rintro ⟨m, h1, h2, h3⟩
      by_cases z : m = j
      · subst z; exact absurd h2 c
      · exact ⟨m, by omega, h2, h3⟩
    · rintro ⟨m, h1, h2, h3⟩
      exact ⟨m, by omega, h2, h3⟩
theorem sGn_4096 (h12 : rs.length ≤ 12) {j x : Nat} (h : sGn p rs j x) : x < 4096 := by obtain ⟨m, -, -, e⟩ := h; rw [e]; exact sNB_4096 h12
noncomputable def oHeaps (A : aA) : aO := sIf (aBody (xS A) = []) (1, 0, A) (0, sHeapV (sGn (aBody (xS A)) (aRuns (xS A)) (sMends (aBody (xS A))).length) (sWrongN (aBody (xS A)) (aRuns (xS A))), A)
end HPS
