/-! Operation heaps: the class. -/
section HPC
variable {sc : Nat × (Nat → Int32)} {h : jH} {A : aA} {n : Nat} {p : List Int32} {rs : List aRun} {W S : Nat} {D : List Nat} {N : Nat → Nat}
theorem tLow0 {x : Int32} : JM mX11_lowestBit [.int x] (jG0 sc) h (jpure (jG0 sc) h (some (.int (x &&& (0 - x))))) := by
  refine jM_of rfl (Nat.le_of_ble_eq_true rfl) (by decide +kernel) rfl ?_
  refine j_iload_n (i := 0) rfl (by decide +kernel) ?_
  refine j_iload_n (i := 0) rfl (by decide +kernel) ?_
  refine j_ineg (by decide +kernel) ?_
  refine j_iand (by decide +kernel) ?_
  exact j_iret rfl rfl (Nat.zero_le _) (Nat.zero_le _) (by decide +kernel) ⟨rfl, rfl, rfl⟩
theorem tLow {x : Int32} : JM mX11_lowestBit [.int x] (jG0 sc) h (jgets sc (x &&& (0 - x)) h) := jM_mono tLow0 (fun o Γ' h' z => by obtain ⟨a, b, c⟩ := z; exact ⟨_, a, b, rfl, c.symm⟩)
theorem low_ok2 : ∀ a, a < 64 → ∀ b, b < 64 → 64 * a + b ≠ 0 → ∃ k, k < 12 ∧ nI (64 * a + b) &&& (0 - nI (64 * a + b)) = nI (2 ^ k) ∧ (64 * a + b).testBit k = true := by decide +kernel
theorem low_ok (m : Nat) (hm : m < 4096) (h0 : m ≠ 0) : ∃ k, k < 12 ∧ nI m &&& (0 - nI m) = nI (2 ^ k) ∧ m.testBit k = true := by
  have := low_ok2 (m / 64) (by omega) (m % 64) (by omega)
  rw [show 64 * (m / 64) + m % 64 = m by omega] at this
  exact this h0
theorem byte_ok : ∀ k, k < 128 → ((((nI k : Int32)).toInt8.toInt32 : Int32)).toInt8.toInt32 = nI k := by decide +kernel
theorem and_bit {g k : Nat} (hk : k < 12) : (nI g &&& nI (2 ^ k)) = 0 ↔ ¬ g.testBit k = true := by
  have e2 : ∀ i, i < 32 → bt (nI (2 ^ k)) i = decide (k = i) := fun i hi => by rw [bt_nI hi, Nat.testBit_two_pow]
  constructor
  · intro e c
    have : bt (nI g &&& nI (2 ^ k)) k = true := by rw [b_and, e2 k (by omega), bt_nI (by omega), c]; simp
    rw [e, b_0] at this; cases this
  · intro c
    refine b_ext fun i hi => ?_
    rw [b_and, e2 i hi, b_0, bt_nI hi]
    by_cases z : k = i
    · subst z
      cases q : g.testBit k with
      | true => exact absurd q c
      | false => rfl
    · rw [decide_eq_false z, Bool.and_false]
theorem tb12 {a i : Nat} (ha : a < 4096) (hi : 12 ≤ i) : a.testBit i = false := Nat.testBit_lt_two_pow (Nat.lt_of_lt_of_le ha (Nat.pow_le_pow_right (n := 2) (by decide) hi))
theorem sub_bit (h : S ||| W = W) {i : Nat} (c : S.testBit i = true) : W.testBit i = true := by rw [← h, Nat.testBit_or, c]; rfl
theorem miss_some (hS : S < 4096) (hW : W < 4096) (h : S ||| W = W) (ne : S ≠ W) : ∃ i, i < 12 ∧ W.testBit i = true ∧ ¬ S.testBit i = true := Classical.byContradiction fun q => ne (Nat.eq_of_testBit_eq fun i => by
  by_cases hi : i < 12
  · cases a : W.testBit i with
    | true => exact Classical.byContradiction fun c => q ⟨i, hi, a, c⟩
    | false =>
      cases b : S.testBit i with
      | true => rw [sub_bit h b] at a; exact a
      | false => rfl
  · rw [tb12 hS (by omega), tb12 hW (by omega)])
theorem miss_e (hS : S < 4096) (hW : W < 4096) : nI W &&& (nI S ^^^ (-1)) = nI (sNB (fun i => W.testBit i = true ∧ ¬ S.testBit i = true) 12) := by
  rw [← (sNB_e 12 (Nat.le_refl _)).2]
  refine b_ext fun i hi => ?_
  rw [b_and, b_xor, b_m1 i hi, bt_nI hi, bt_nI hi]
  have c := bt_sBits (f := fun i => W.testBit i = true ∧ ¬ S.testBit i = true) (n := 12) (by decide) hi
  by_cases h12 : i < 12
  · cases a : W.testBit i <;> cases b : S.testBit i <;> cases d : bt (sBits (fun i => W.testBit i = true ∧ ¬ S.testBit i = true) 12) i <;> simp_all
  · rw [tb12 hW (by omega), tb12 hS (by omega)]
    cases d : bt (sBits (fun i => W.testBit i = true ∧ ¬ S.testBit i = true) 12) i with
    | true => exact absurd (c.mp d).1 h12
    | false => rfl
/-- the gains lie in a row -/
def isGains (h : jH) (D : List Nat) : Prop := ∀ i, i < D.length → h 97 i = nI (D.getD i 0)
def isNeeds (h : jH) (W : Nat) (N : Nat → Nat) : Prop := ∀ s, s ≤ W → h 98 s = nI (N s)
theorem tX11_addGains {k : Nat} (hg : isGains h D) (hD : D.length ≤ 290) (hn : isNeeds h W N) (hW : W < 4096) (hS : S ||| W = W) (hd : ∀ g ∈ D, g ||| W = W) (hN : ∀ s, N s ≤ 100) (h100 : N S < 100) (hk : k < 12) (kS : ¬ S.testBit k = true) :
    JM mX11_addGains [.ref 0, .int (nI S), .int (nI (2 ^ k)), .int (nI (N S + 1)), .int (nI D.length)] (jG0 sc) h (jvoid sc (fun h' => ∃ N' : Nat → Nat, isNeeds h' W N' ∧ (∀ t, N' t ≤ N t) ∧ (∀ t, t ≤ S → N' t = N t) ∧ (∀ g ∈ D, g.testBit k = true → N' (S ||| g) ≤ N S + 1) ∧ (∀ t, N' t = N t ∨ (N' t = N S + 1 ∧ ∃ g ∈ D, S ||| g = t)) ∧ jfr ([(98, 98)], []) h h')) := by
  refine jM_of rfl (Nat.le_of_ble_eq_true rfl) (by decide +kernel) rfl (rX11_addGains_0 ?_)
  refine jloop2 (fun j (h1 : jH) (N1 : Nat → Nat) => WP mX11_addGains _ 3 [some (.ref 0), some (.int (nI S)), some (.int (nI (2 ^ k))), some (.int (nI (N S + 1))), some (.int (nI D.length)), some (.int (nI j)), none] [] (jG0 sc) h1 (0, 0))
    (fun j h1 N1 => isNeeds h1 W N1 ∧ (∀ t, N1 t ≤ N t) ∧ (∀ t, t ≤ S → N1 t = N t) ∧ (∀ i, i < j → (D.getD i 0).testBit k = true → N1 (S ||| D.getD i 0) ≤ N S + 1) ∧ (∀ t, N1 t = N t ∨ (N1 t = N S + 1 ∧ ∃ g ∈ D, S ||| g = t)) ∧ jfr ([(98, 98)], []) h h1) D.length ?_ ?_ 0 h N (by omega) ⟨hn, fun _ => Nat.le_refl _, fun _ _ => rfl, fun i hi => absurd hi (Nat.not_lt_zero _), fun _ => Or.inl rfl, jfr.rf⟩
  · rintro h1 N1 ⟨a, b, c, d, e, f⟩
    have le : nI D.length ≤ nI D.length := nI_le (Nat.le_refl _) (by omega)
    refine rX11_addGains_3 (fun _ => jvoid_i ⟨N1, a, b, c, fun g hg2 => ?_, e, f⟩) (fun c => absurd le c) (fun c => absurd le c) (fun c => absurd le c) (fun c => absurd le c) (fun c => absurd le c) (fun c => absurd le c) (fun c => absurd le c) (fun c => absurd le c) (fun c => absurd le c)
    obtain ⟨i, hi, ei⟩ := List.getElem_of_mem hg2
    have := d i hi
    rw [List.getD_eq_getElem?_getD, List.getElem?_eq_getElem hi, ei] at this
    exact this
  · rintro j h1 N1 hj ⟨a, b, c, d, e, f⟩ kk
    have nle : ¬ nI D.length ≤ nI j := by rw [jn_le (by omega) (by omega)]; omega
    have n3 : ¬ (300 : Int32) ≤ nI j := fun c => by have := (jn_le (a := 300) (by decide) (by omega)).mp c; omega
    have eg : h1 97 (nI j).toNatClampNeg = nI (D.getD j 0) := by rw [nI_clamp (by omega), f 97 j rfl]; exact hg j hj
    have gD : D.getD j 0 ∈ D := getD_mem hj
    have gW := hd _ gD
    generalize hgj : D.getD j 0 = g at *
    have mW : (S ||| g) ||| W = W := by rw [Nat.or_assoc, gW, hS]
    have m4 : S ||| g ≤ W := or_W mW
    have v4 : vp_in (nI S ||| h1 97 (nI j).toNatClampNeg) 4096 := by rw [eg, nI_or]; exact vp_in_nI (by omega) (by decide)
    have skip : (g.testBit k = true → N1 (S ||| g) ≤ N S + 1) → WP mX11_addGains (jvoid sc (fun h' => ∃ N' : Nat → Nat, isNeeds h' W N' ∧ (∀ t, N' t ≤ N t) ∧ (∀ t, t ≤ S → N' t = N t) ∧ (∀ g ∈ D, g.testBit k = true → N' (S ||| g) ≤ N S + 1) ∧ (∀ t, N' t = N t ∨ (N' t = N S + 1 ∧ ∃ g ∈ D, S ||| g = t)) ∧ jfr ([(98, 98)], []) h h')) 3 [some (.ref 0), some (.int (nI S)), some (.int (nI (2 ^ k))), some (.int (nI (N S + 1))), some (.int (nI D.length)), some (.int (nI j + 1)), none] [] (jG0 sc) h1 (0, 0) := fun q => by
      rw [← nI_succ]
      refine kk h1 N1 ⟨a, b, c, fun i hi => ?_, e, f⟩
      by_cases z : i = j
      · subst z; rw [hgj]; exact q
      · exact d i (by omega)
    have ev : h1 98 ((nI S ||| h1 97 (nI j).toNatClampNeg).toNatClampNeg) = nI (N1 (S ||| g)) := by rw [eg, nI_or, nI_clamp (by omega)]; exact a _ m4
    have l1 := Nat.le_trans (b (S ||| g)) (hN _)
    refine rX11_addGains_3 (fun c => absurd c nle) (fun _ c => absurd c n3) (fun _ _ => vp_in_nI (by omega) (by decide)) (fun _ _ c1 => ?_) (fun _ _ _ c1 => ?_) (fun _ _ _ _ c1 => ?_) (fun _ _ _ _ _ => v4) (fun _ _ _ _ _ c1 => ?_) (fun _ _ _ _ _ _ => v4) (fun _ _ c0 _ _ c1 => ?_)
    · rw [eg, and_bit hk] at c1
      exact skip (fun q => absurd q c1)
    · rw [eg, nI_or] at c1; exact absurd c1 (nI_pos (by omega))
    · rw [eg, nI_or] at c1; exact absurd ((jn_le (a := 4096) (by decide) (by omega)).mp c1) (by omega)
    · rw [ev, jn_le (by omega) (by omega)] at c1
      exact skip (fun _ => c1)
    · rw [ev, jn_le (by omega) (by omega)] at c1
      rw [eg, and_bit hk, Classical.not_not] at c0
      rw [eg, nI_or, nI_clamp (show S ||| g < 2 ^ 31 by omega), byte_ok _ (by omega), ← nI_succ]
      have gt : S < S ||| g := by
        have := or_ge (a := S) (b := g)
        have ne : S ||| g ≠ S := fun q => kS (by rw [← q, Nat.testBit_or, c0, Bool.or_true])
        omega
      refine kk _ (fun t => if t = S ||| g then N S + 1 else N1 t) ⟨fun s hs => ?_, fun t => ?_, fun t ht => ?_, fun i hi q => ?_, fun t => ?_, f.put (by rw [jin_iff]; simp)⟩
      · by_cases z : s = S ||| g
        · rw [z, jput_at]
          show _ = nI (if S ||| g = S ||| g then N S + 1 else N1 (S ||| g))
          rw [if_pos rfl]
        · rw [jput_sl z]
          show _ = nI (if s = S ||| g then N S + 1 else N1 s)
          rw [if_neg z]; exact a s hs
      · by_cases z : t = S ||| g
        · simp only [if_pos z]; rw [z]; have := b (S ||| g); omega
        · simp only [if_neg z]; exact b t
      · simp only [if_neg (show ¬ t = S ||| g by omega)]; exact c t ht
      · by_cases z : i = j
        · subst z; rw [hgj]; simp
        · by_cases y : S ||| D.getD i 0 = S ||| g
          · simp only [if_pos y]; omega
          · simp only [if_neg y]; exact d i (by omega) q
      · by_cases z : t = S ||| g
        · simp only [if_pos z]; exact Or.inr ⟨trivial, g, gD, z.symm⟩
        · simp only [if_neg z]; exact e t
/-- all that is held of the needs -/
def hInv (G : Nat → Prop) (W : Nat) (N : Nat → Nat) : Prop := (∀ s, N s ≤ 100) ∧ N 0 = 0 ∧ ∀ s, N s < 100 → s ||| W = W ∧ ∃ L : List Nat, L.length = N s ∧ (∀ g ∈ L, G g) ∧ orL L = s
theorem tX11_fewestMends {G : Nat → Prop} (hg : isGains h D) (hD : D.length ≤ 290) (hW : W < 4096) (hd : ∀ g ∈ D, g ||| W = W ∧ G g) (hc : ∀ g, G g → g = 0 ∨ g ∈ D) (hall : orL D = W) :
    JM mX11_fewestMends [.ref 0, .int (nI W), .int (nI D.length)] (jG0 sc) h (jint sc (fun x h' => x = sHeapV G W ∧ jfr ([(98, 98)], []) h h')) := by
  have hd1 : ∀ g ∈ D, g ||| W = W := fun g q => (hd g q).1
  refine jM_of rfl (Nat.le_of_ble_eq_true rfl) (by decide +kernel) rfl (rX11_fewestMends_0 ?_)
  -- the sets, one after another
  have main : ∀ (h0 : jH), isNeeds h0 W (fun s => if s = 0 then 0 else 100) → jfr ([(98, 98)], []) h h0 → WP mX11_fewestMends (jint sc (fun x h' => x = sHeapV G W ∧ jfr ([(98, 98)], []) h h')) 39 [some (.ref 0), some (.int (nI W)), some (.int (nI D.length)), some (.int 0)] [] (jG0 sc) h0 (0, 0) := by
    intro h0 n0 f0
    refine jloop2 (fun i (h1 : jH) (N : Nat → Nat) => WP mX11_fewestMends _ 39 [some (.ref 0), some (.int (nI W)), some (.int (nI D.length)), some (.int (nI i))] [] (jG0 sc) h1 (0, 0))
      (fun i h1 N => isNeeds h1 W N ∧ hInv G W N ∧ hStep (fun g => g ∈ D) W N i ∧ jfr ([(98, 98)], []) h h1) W ?_ ?_ 0 h0 (fun s => if s = 0 then 0 else 100) (by omega) ⟨n0, ⟨fun s => ?_, rfl, fun s hs => ?_⟩, fun s hs => absurd hs (Nat.not_lt_zero _), f0⟩
    · rintro h1 N ⟨n1, ⟨b1, b2, b3⟩, st, f1⟩
      have le : nI W ≤ nI W := nI_le (Nat.le_refl _) (by omega)
      have nn : ¬ nI W < 0 := nI_pos (by omega)
      have n4 : ¬ (4096 : Int32) ≤ nI W := fun c => by have := (jn_le (a := 4096) (by decide) (by omega)).mp c; omega
      refine rX11_fewestMends_39 (fun _ c => absurd c nn) (fun _ _ c => absurd c n4) (fun _ _ _ => vp_in_nI hW (by decide)) (fun _ _ _ => jint_i ⟨?_, f1⟩) (fun c => absurd le c) (fun c => absurd le c) (fun c => absurd le c) (fun c => absurd le c) (fun c => absurd le c) (fun c => absurd le c) (P1 := fun _ _ => True) (P2 := fun _ => True) (fun c => absurd le c) (fun c => absurd le c) (fun c => absurd le c) (fun c => absurd le c)
      rw [nI_clamp (by omega), n1 W (Nat.le_refl _)]
      have stG : hStep G W N W := fun s h1 h2 h3 => by
        obtain ⟨k, k1, k2, k3, k4⟩ := st s h1 h2 h3
        refine ⟨k, k1, k2, k3, fun g hg2 bg => ?_⟩
        rcases hc g hg2 with e | e
        · subst e; rw [Nat.zero_testBit] at bg; cases bg
        · exact k4 g e bg
      have go := fun L hL e => cov_go stG 12 0 0 L (Nat.zero_or W) (by omega) (by omega) missing_12 hL ((Nat.zero_or _).trans e)
      have lt := (go D (fun g q => (hd g q).2) hall).2
      obtain ⟨-, L, l1, l2, l3⟩ := b3 W (by omega)
      refine (sHeapV_e (Or.inr ⟨N W, ⟨L, l1, l2, l3⟩, fun k' q => ?_, rfl⟩)).symm
      obtain ⟨L', q1, q2, q3⟩ := q
      have := (go L' q2 q3).1
      omega
    · rintro i h1 N hi ⟨n1, ⟨b1, b2, b3⟩, st, f1⟩ kk
      have nle : ¬ nI W ≤ nI i := by rw [jn_le (by omega) (by omega)]; omega
      have n4 : ¬ (4096 : Int32) ≤ nI i := fun c => by have := (jn_le (a := 4096) (by decide) (by omega)).mp c; omega
      have vi : vp_in (nI i) 4096 := vp_in_nI (by omega) (by decide)
      have ev : h1 98 (nI i).toNatClampNeg = nI (N i) := by rw [nI_clamp (by omega)]; exact n1 i (by omega)
      have bi := b1 i
      by_cases c100 : N i < 100
      · obtain ⟨iW, Li, i1, i2, i3⟩ := b3 i c100
        obtain ⟨k, k12, ek, bk⟩ := low_ok (sNB (fun j => W.testBit j = true ∧ ¬ i.testBit j = true) 12) (sNB_4096 (Nat.le_refl _)) (fun q => by
          obtain ⟨j, j12, j1, j2⟩ := miss_some (by omega) hW iW (by omega)
          have := (sNB_bit (f := fun j => W.testBit j = true ∧ ¬ i.testBit j = true) (Nat.le_refl 12) j12).mpr ⟨j12, j1, j2⟩
          rw [q, Nat.zero_testBit] at this; cases this)
        have bk := ((sNB_bit (f := fun j => W.testBit j = true ∧ ¬ i.testBit j = true) (Nat.le_refl 12) k12).mp bk).2
        have c2 : ¬ (100 : Int32) ≤ h1 98 (nI i).toNatClampNeg := by rw [ev, show (100 : Int32) = nI 100 from rfl, jn_le (by decide) (by omega)]; omega
        refine rX11_fewestMends_39 (fun c => absurd c nle) (fun c => absurd c nle) (fun c => absurd c nle) (fun c => absurd c nle) (fun _ c => absurd c n4) (fun _ c => absurd c n4) (fun _ c => absurd c n4) (fun _ c => absurd c n4) (fun _ _ => vi) (fun _ _ c => absurd c c2) (fun _ _ _ => by rw [miss_e (by omega) hW]; exact tLow) (fun _ _ _ _ _ _ => vi)
          (P2 := fun h' => ∃ N' : Nat → Nat, isNeeds h' W N' ∧ (∀ t, N' t ≤ N t) ∧ (∀ t, t ≤ i → N' t = N t) ∧ (∀ g ∈ D, g.testBit k = true → N' (i ||| g) ≤ N i + 1) ∧ (∀ t, N' t = N t ∨ (N' t = N i + 1 ∧ ∃ g ∈ D, i ||| g = t)) ∧ jfr ([(98, 98)], []) h1 h') (fun _ _ _ x1 h2 q => ?_) (fun _ _ _ x1 h2 q h3 z => ?_)
        · obtain ⟨q1, q2⟩ := q
          subst q2
          rw [q1, ek, ev, ← nI_succ]
          exact tX11_addGains (fun j hj => by rw [f1 97 j rfl]; exact hg j hj) hD n1 hW iW hd1 b1 c100 k12 bk.2
        · obtain ⟨N', z1, z2, z3, z4, z5, z6⟩ := z
          rw [← nI_succ]
          refine kk h3 N' ⟨z1, ⟨fun s => Nat.le_trans (z2 s) (b1 s), by have := z2 0; omega, fun s hs => ?_⟩, fun s hs sW s100 => ?_, f1.tr2 z6⟩
          · rcases z5 s with e | ⟨e, g, hg2, eg⟩
            · rw [e] at hs ⊢; exact b3 s hs
            · refine ⟨by rw [← eg, Nat.or_assoc, hd1 g hg2, iW], g :: Li, by rw [List.length_cons, i1, e], fun x hx => ?_, by rw [orL, i3, Nat.or_comm]; exact eg⟩
              rcases List.mem_cons.mp hx with y | y
              · rw [y]; exact (hd g hg2).2
              · exact i2 x y
          · by_cases y : s = i
            · subst y
              refine ⟨k, k12, bk.1, bk.2, fun g hg2 bg => ?_⟩
              rw [z3 s (Nat.le_refl _)]; exact z4 g hg2 bg
            · have es := z3 s (by omega)
              rw [es] at s100
              obtain ⟨k2, y1, y2, y3, y4⟩ := st s (by omega) sW s100
              refine ⟨k2, y1, y2, y3, fun g hg2 bg => ?_⟩
              rw [es]; exact Nat.le_trans (z2 _) (y4 g hg2 bg)
      · have c2 : (100 : Int32) ≤ h1 98 (nI i).toNatClampNeg := by rw [ev, show (100 : Int32) = nI 100 from rfl, jn_le (by decide) (by omega)]; omega
        refine rX11_fewestMends_39 (fun c => absurd c nle) (fun c => absurd c nle) (fun c => absurd c nle) (fun c => absurd c nle) (fun _ c => absurd c n4) (fun _ c => absurd c n4) (fun _ c => absurd c n4) (fun _ c => absurd c n4) (fun _ _ => vi) (fun _ _ _ => ?_) (P1 := fun _ _ => True) (P2 := fun _ => True) (fun _ _ c => absurd c2 c) (fun _ _ c => absurd c2 c) (fun _ _ c => absurd c2 c) (fun _ _ c => absurd c2 c)
        rw [← nI_succ]
        refine kk h1 N ⟨n1, ⟨b1, b2, b3⟩, fun s hs sW s100 => ?_, f1⟩
        by_cases y : s = i
        · subst y; exact absurd s100 c100
        · exact st s (by omega) sW s100
    · by_cases z : s = 0
      · simp only [if_pos z]; omega
      · simp only [if_neg z]; omega
    · by_cases z : s = 0
      · subst z
        exact ⟨Nat.zero_or W, [], rfl, fun x hx => absurd hx List.not_mem_nil, rfl⟩
      · simp only [if_neg z] at hs; omega
  refine jloop (fun i (h1 : jH) => WP mX11_fewestMends _ 2 [some (.ref 0), some (.int (nI W)), some (.int (nI D.length)), some (.int (nI i))] [] (jG0 sc) h1 (0, 0))
    (fun i h1 => (∀ s, s < i → h1 98 s = nI 100) ∧ jfr ([(98, 98)], []) h h1) (W + 1) ?_ ?_ 0 h (by omega) ⟨fun s hs => absurd hs (Nat.not_lt_zero _), jfr.rf⟩
  · rintro h1 ⟨i1, f1⟩
    have lt : nI W < nI (W + 1) := (jn_lt (by omega) (by omega)).mpr (by omega)
    refine rX11_fewestMends_2 (fun _ => main _ (fun s hs => ?_) (f1.put (by rw [jin_iff]; simp))) (fun c => absurd lt c) (fun c => absurd lt c) (fun c => absurd lt c)
    by_cases z : s = 0
    · rw [z, jput_at]; rfl
    · rw [jput_sl z]
      show _ = nI (if s = 0 then 0 else 100)
      rw [if_neg z]; exact i1 s (by omega)
  · rintro i h1 hi ⟨i1, f1⟩ kk
    have nlt : ¬ nI W < nI i := by rw [jn_lt (by omega) (by omega)]; omega
    have n4 : ¬ (4096 : Int32) ≤ nI i := fun c => by have := (jn_le (a := 4096) (by decide) (by omega)).mp c; omega
    refine rX11_fewestMends_2 (fun c => absurd c nlt) (fun _ c => absurd c n4) (fun _ _ => vp_in_nI (by omega) (by decide)) (fun _ _ => ?_)
    rw [nI_clamp (by omega), ← nI_succ]
    refine kk _ ⟨fun s hs => ?_, f1.put (by rw [jin_iff]; simp)⟩
    by_cases z : s = i
    · subst z; rw [jput_at]; rfl
    · rw [jput_sl z]; exact i1 s (by omega)
/-- the gains listed -/
def isListed (p : List Int32) (rs : List aRun) (j : Nat) (D : List Nat) : Prop := D.length ≤ j ∧ (∀ g ∈ D, sGn p rs j g) ∧ ∀ g, sGn p rs j g → g = 0 ∨ g ∈ D
abbrev fGain : jF := ([(3, 8), (70, 74), (82, 158)], [(1, 2, 5), (69, 2, 4), (69, 6, 11), (75, 7, 8)])
theorem keeps_iff (h12 : rs.length ≤ 12) {m : Nat} : sRightBits p rs &&& (sRightBits (sBy p (m, none)) rs ^^^ (-1)) = 0 ↔ sKeepsR p rs m := by
  rw [sRightBits, sRightBits, sBits_diff (by omega), sBits_0 (by omega)]
  exact ⟨fun q i hi r => Classical.byContradiction fun c => q i hi ⟨r, c⟩, fun q i hi c => c.2 (q i hi c.1)⟩
theorem gain_e (h12 : rs.length ≤ 12) {m : Nat} : nI (sWrongN p rs) &&& sRightBits (sBy p (m, none)) rs = nI (sGainN p rs m) := by
  rw [sWrongN, ← (sNB_e rs.length h12).2, sRightBits, sBits_and (by omega), (sNB_e rs.length h12).2]; rfl
theorem tX11_listGains (ok : aOk n A) (k : RC h A) : JM mX11_listGains [.ref 0, .int (sRightBits (aBody (xS A)) (aRuns (xS A))), .int (nI (sWrongN (aBody (xS A)) (aRuns (xS A))))] (jG0 sc) h
    (jint sc (fun x h' => (∃ D : List Nat, x = nI D.length ∧ isGains h' D ∧ isListed (aBody (xS A)) (aRuns (xS A)) (sMends (aBody (xS A))).length D) ∧ jfr fGain h h')) := by
  have a_h : jI4 10 := by unfold jI4; decide
  have b_h : jI4 89 := by unfold jI4; decide
  have t_h : jI3 75 := by unfold jI3; decide
  have h12 := ok.1.2.2.1.1
  have hs := ok.1.1
  have h280 := sMends_280 hs
  have hr : isRuns h 14 (aRuns (xS A)) := k.1.2.2.1
  have hp : isP h 10 (aBody (xS A)) := k.1.1
  generalize hM : (sMends (aBody (xS A))).length = M at *
  have e75 : ∀ {h1 : jH}, jfr fGain h h1 → h1 75 6 = nI M := fun f => by rw [← hM]; exact (f 75 6 rfl).trans k.2.2.2.2.2.1.1
  refine jM_of rfl (Nat.le_of_ble_eq_true rfl) (by decide +kernel) rfl (rX11_listGains_0 ?_)
  refine jloop2 (fun i (h1 : jH) (D : List Nat) => WP mX11_listGains _ 5 [some (.ref 0), some (.int (sRightBits (aBody (xS A)) (aRuns (xS A)))), some (.int (nI (sWrongN (aBody (xS A)) (aRuns (xS A))))), some (.int (nI D.length)), some (.int (nI i)), none, none, none] [] (jG0 sc) h1 (0, 0))
    (fun i h1 D => isGains h1 D ∧ isListed (aBody (xS A)) (aRuns (xS A)) i D ∧ jfr fGain h h1) M ?_ ?_ 0 h [] (by omega) ⟨fun i hi => absurd hi (Nat.not_lt_zero _), ⟨Nat.le_refl _, fun g hg => absurd hg List.not_mem_nil, fun g hg => by obtain ⟨m, hm, -⟩ := hg; exact absurd hm (Nat.not_lt_zero _)⟩, jfr.rf⟩
  · rintro h1 D ⟨g1, l1, f1⟩
    have le : h1 75 6 ≤ nI M := by rw [e75 f1]; exact nI_le (Nat.le_refl _) (by omega)
    exact rX11_listGains_5 (P1 := fun _ _ => True) (P2 := fun _ _ => True) (fun _ => jint_i ⟨⟨D, rfl, g1, l1⟩, f1⟩) (fun c => absurd le c) (fun c => absurd le c) (fun c => absurd le c) (fun c => absurd le c) (fun c => absurd le c)
  · rintro i h1 D hi ⟨g1, l1, f1⟩ kk
    have nle : ¬ h1 75 6 ≤ nI i := by rw [e75 f1, jn_le (by omega) (by omega)]; omega
    have k1 := k.fr ok (f1.mono rfl)
    have D280 := l1.1
    have x5 : sRightBits (sBy (aBody (xS A)) (i, none)) (aRuns (xS A)) = sRightBits (sBy (aBody (xS A)) (i, none)) (aRuns (xS A)) := rfl
    have eG := gain_e (p := aBody (xS A)) h12 (m := i)
    have g4 : sGainN (aBody (xS A)) (aRuns (xS A)) i < 4096 := sNB_4096 h12
    -- from the flag on
    have flag : ∀ (h2 : jH) (v : Int32), jfr fGain h h2 → h2 97 = h1 97 → v = sB (sKeepsR (aBody (xS A)) (aRuns (xS A)) i ∧ sGainN (aBody (xS A)) (aRuns (xS A)) i ≠ 0) →
        WP mX11_listGains (jint sc (fun x h' => (∃ D : List Nat, x = nI D.length ∧ isGains h' D ∧ isListed (aBody (xS A)) (aRuns (xS A)) M D) ∧ jfr fGain h h')) 74 [some (.ref 0), some (.int (sRightBits (aBody (xS A)) (aRuns (xS A)))), some (.int (nI (sWrongN (aBody (xS A)) (aRuns (xS A))))), some (.int (nI D.length)), some (.int (nI i)), some (.int (sRightBits (sBy (aBody (xS A)) (i, none)) (aRuns (xS A)))), some (.int v), some (.int 0)] [] (jG0 sc) h2 (0, 0) := by
      intro h2 v f2 e97 ev
      generalize hg : sGainN (aBody (xS A)) (aRuns (xS A)) i = g at *
      have same : ∀ (h3 : jH), jfr fGain h h3 → h3 97 = h1 97 → ¬ (sKeepsR (aBody (xS A)) (aRuns (xS A)) i ∧ g ≠ 0 ∧ g ∉ D) → WP mX11_listGains (jint sc (fun x h' => (∃ D : List Nat, x = nI D.length ∧ isGains h' D ∧ isListed (aBody (xS A)) (aRuns (xS A)) M D) ∧ jfr fGain h h')) 5 [some (.ref 0), some (.int (sRightBits (aBody (xS A)) (aRuns (xS A)))), some (.int (nI (sWrongN (aBody (xS A)) (aRuns (xS A))))), some (.int (nI D.length)), some (.int (nI i + 1)), none, none, none] [] (jG0 sc) h3 (0, 0) := fun h3 f3 e3 q => by
        rw [← nI_succ]
        refine kk h3 D ⟨fun j hj => by rw [e3]; exact g1 j hj, ⟨by omega, fun x hx => ?_, fun x hx => ?_⟩, f3⟩
        · obtain ⟨m, a, b, c⟩ := l1.2.1 x hx; exact ⟨m, by omega, b, c⟩
        · by_cases c : sKeepsR (aBody (xS A)) (aRuns (xS A)) i
          · rcases (sGn_s.1 c).mp hx with y | y
            · exact l1.2.2 x y
            · rw [hg] at y
              subst y
              by_cases x0 : x = 0
              · exact Or.inl x0
              · exact Or.inr (Classical.byContradiction fun d => q ⟨c, x0, d⟩)
          · exact l1.2.2 x ((sGn_s.2 c).mp hx)
      refine jloop (fun j (v : Int32) => WP mX11_listGains _ 74 [some (.ref 0), some (.int (sRightBits (aBody (xS A)) (aRuns (xS A)))), some (.int (nI (sWrongN (aBody (xS A)) (aRuns (xS A))))), some (.int (nI D.length)), some (.int (nI i)), some (.int (sRightBits (sBy (aBody (xS A)) (i, none)) (aRuns (xS A)))), some (.int v), some (.int (nI j))] [] (jG0 sc) h2 (0, 0))
        (fun j v => v = sB (sKeepsR (aBody (xS A)) (aRuns (xS A)) i ∧ g ≠ 0 ∧ ∀ t, t < j → D.getD t 0 ≠ g)) D.length ?_ ?_ 0 v (by omega) ?_
      · rintro v2 e2
        have le : nI D.length ≤ nI D.length := nI_le (Nat.le_refl _) (by omega)
        have n3 : ¬ (300 : Int32) ≤ nI D.length := fun c => by have := (jn_le (a := 300) (by decide) (by omega)).mp c; omega
        have nin : (∀ t, t < D.length → D.getD t 0 ≠ g) ↔ g ∉ D := by
          constructor
          · intro q hm
            obtain ⟨t, ht, et⟩ := List.getElem_of_mem hm
            have := q t ht
            rw [List.getD_eq_getElem?_getD, List.getElem?_eq_getElem ht, et] at this
            exact this rfl
          · intro q t ht e
            rw [← e] at q; exact q (getD_mem ht)
        rw [nin] at e2
        refine rX11_listGains_74 (fun _ c => ?_) (fun _ _ c => absurd c n3) (fun _ _ _ => vp_in_nI (by omega) (by decide)) (fun _ c _ => ?_) (fun c => absurd le c) (fun c => absurd le c) (fun c => absurd le c) (fun c => absurd le c) (fun c => absurd le c) (fun c => absurd le c) (fun c => absurd le c) (fun c => absurd le c) (fun c => absurd le c) (fun c => absurd le c) (fun c => absurd le c)
        · rw [e2, sB_eq] at c
          exact same h2 f2 e97 c
        · rw [e2, sB_ne] at c
          obtain ⟨c1, c2, c3⟩ := c
          rw [eG, nI_clamp (show D.length < 2 ^ 31 by omega), ← nI_succ, ← nI_succ i]
          have := kk (jput h2 97 D.length (nI g)) (D ++ [g])
          rw [List.length_append, List.length_singleton] at this
          refine this ⟨fun j hj => ?_, ⟨?_, fun x hx => ?_, fun x hx => ?_⟩, f2.put (by rw [jin_iff]; simp)⟩
          · rw [List.length_append, List.length_singleton] at hj
            rw [getD_ap1]
            by_cases y : j = D.length
            · rw [y, jput_at, if_neg (Nat.lt_irrefl _), if_pos rfl]
            · rw [jput_sl y, if_pos (show j < D.length by omega), e97]; exact g1 j (by omega)
          · rw [List.length_append, List.length_singleton]; omega
          · rcases List.mem_append.mp hx with y | y
            · obtain ⟨m, a, b, c⟩ := l1.2.1 x y; exact ⟨m, by omega, b, c⟩
            · rw [List.mem_singleton.mp y]; exact ⟨i, by omega, c1, hg.symm⟩
          · rcases (sGn_s.1 c1).mp hx with y | y
            · exact (l1.2.2 x y).imp id (fun q => List.mem_append_left _ q)
            · rw [hg] at y; rw [y]; exact Or.inr (List.mem_append_right _ (List.mem_singleton.mpr rfl))
      · rintro j v2 hj e2 kk2
        have nle2 : ¬ nI D.length ≤ nI j := by rw [jn_le (by omega) (by omega)]; omega
        have n3 : ¬ (300 : Int32) ≤ nI j := fun c => by have := (jn_le (a := 300) (by decide) (by omega)).mp c; omega
        have eg : h2 97 (nI j).toNatClampNeg = nI (D.getD j 0) := by rw [nI_clamp (by omega), e97]; exact g1 j hj
        have d4 : D.getD j 0 < 4096 := sGn_4096 h12 (l1.2.1 _ (getD_mem hj))
        refine rX11_listGains_74 (fun c => absurd c nle2) (fun c => absurd c nle2) (fun c => absurd c nle2) (fun c => absurd c nle2) (fun _ c => absurd c n3) (fun _ c => absurd c n3) (fun _ c => absurd c n3) (fun _ c => absurd c n3) (fun _ _ c _ => ?_) (fun _ _ c d => absurd c d) (fun _ _ c d => absurd c d) (fun _ _ c d => absurd c d) (fun _ _ _ => vp_in_nI (by omega) (by decide)) (fun _ _ c d => ?_) (fun _ _ c d => ?_)
        · rw [e2, sB_eq] at c
          refine same h2 f2 e97 (fun q => c ⟨q.1, q.2.1, fun t ht e => q.2.2 (by rw [← e]; exact getD_mem (by omega))⟩)
        all_goals
          rw [e2, sB_ne] at c
          rw [eg, eG, jn_eq (by omega) (by omega)] at d
          rw [← nI_succ]
        · exact kk2 0 (sB_f (fun q => q.2.2 j (by omega) d)).symm
        · refine kk2 1 (sB_t ⟨c.1, c.2.1, fun t ht => ?_⟩).symm
          by_cases y : t = j
          · subst y; exact d
          · exact c.2.2 t (by omega)
      · rw [ev]
        by_cases c : sKeepsR (aBody (xS A)) (aRuns (xS A)) i ∧ g ≠ 0
        · rw [sB_t c, sB_t ⟨c.1, c.2, fun t ht => absurd ht (Nat.not_lt_zero _)⟩]
        · rw [sB_f c, sB_f (fun q => c ⟨q.1, q.2.1⟩)]
    refine rX11_listGains_5 (fun c => absurd c nle) (P1 := fun _ h' => isP h' 89 (sBy (aBody (xS A)) (i, none)) ∧ jfr fGain h h' ∧ h' 97 = h1 97) (fun _ => ?_) (P2 := fun x h' => x = sRightBits (sBy (aBody (xS A)) (i, none)) (aRuns (xS A)) ∧ jfr fGain h h' ∧ h' 97 = h1 97) (fun _ x1 h2 y => ?_) (fun _ x1 h2 _ x3 h3 w c => ?_) (fun _ x1 h2 _ x3 h3 w c c2 => ?_) (fun _ x1 h2 _ x3 h3 w c c2 => ?_)
    · refine jM_int (tX3_shape t_h a_h b_h hs k1.2.2.2.2.2 k1.1.1 (Or.inl (by decide)) (Or.inl (by decide)) (Or.inr (by decide)) (by omega)) (fun x h' y => ?_)
      obtain ⟨-, y2, y3⟩ := y
      rw [sAll_1 (by omega)] at y2
      exact ⟨y2, f1.tr2 (y3.mono rfl), y3.cell (fun _ => rfl)⟩
    · exact jM_int (tX11_rightBits b_h (Or.inr (by decide)) y.1 (sProg_1 hs (by omega)) (hr.fr y.2.1 rfl (fun _ => rfl) (fun _ => rfl) (fun _ => rfl)) h12 ((y.2.1 69 5 rfl).trans k.2.2.2.2.1)) (fun x h' w => ⟨w.1, y.2.1.tr2 (w.2.mono rfl), (w.2.cell (fun _ => rfl)).trans y.2.2⟩)
    all_goals
      rw [w.1] at c ⊢
      rw [keeps_iff h12] at c
    · exact flag h3 0 w.2.1 w.2.2 (sB_f (fun q => c q.1)).symm
    all_goals rw [w.1, eG, show (0 : Int32) = nI 0 from rfl, jn_eq (by omega) (by omega)] at c2
    · exact flag h3 0 w.2.1 w.2.2 (sB_f (fun q => q.2 c2)).symm
    · exact flag h3 1 w.2.1 w.2.2 (sB_t ⟨c, c2⟩).symm
theorem mask_ok : ∀ n, n ≤ 12 → ((1 : Int32) <<< (nI n &&& 31)) - 1 = nI (2 ^ n - 1) := by decide +kernel
theorem wrong_e (h12 : rs.length ≤ 12) : (((1 : Int32) <<< (nI rs.length &&& 31)) - 1) &&& (sRightBits p rs ^^^ (-1)) = nI (sWrongN p rs) := by
  rw [mask_ok _ h12, sWrongN, ← (sNB_e rs.length h12).2]
  refine b_ext fun i hi => ?_
  rw [b_and, b_xor, b_m1 i hi, bt_nI hi, Nat.testBit_two_pow_sub_one]
  have a := bt_sBits (f := sRightAt p rs) (n := rs.length) (by omega) hi
  have b := bt_sBits (f := fun i => ¬ sRightAt p rs i) (n := rs.length) (by omega) hi
  unfold sRightBits
  cases h1 : bt (sBits (sRightAt p rs) rs.length) i <;> cases h2 : bt (sBits (fun i => ¬ sRightAt p rs i) rs.length) i <;> by_cases h3 : i < rs.length <;> simp_all
theorem orL_snoc {L : List Nat} {x : Nat} : orL (L ++ [x]) = orL L ||| x := by
  induction L with
  | nil => show x ||| 0 = 0 ||| x; rw [Nat.or_zero, Nat.zero_or]
  | cons a L ih => rw [List.cons_append, orL, orL, ih, Nat.or_assoc]
theorem ccHeaps (ok : aOk n A) (k : RC h A) : JM mX11_heaps [.ref 0] (jG0 sc) h (cQ sc ["java/lang/IllegalStateException"] (oHeaps A) h) := by
  have a_h : jI4 10 := by unfold jI4; decide
  have h12 := ok.1.2.2.1.1
  have hs := ok.1.1
  have h280 := sMends_280 hs
  have hr : isRuns h 14 (aRuns (xS A)) := k.1.2.2.1
  have hp : isP h 10 (aBody (xS A)) := k.1.1
  refine jM_of rfl (Nat.le_of_ble_eq_true rfl) (by decide +kernel) rfl (rX11_heaps_0 (tX11_hasBody hp) (P2 := fun x h' => x = sRightBits (aBody (xS A)) (aRuns (xS A)) ∧ jfr fGain h h') ?_
    (P3 := fun x h' => (∃ D : List Nat, x = nI D.length ∧ isGains h' D ∧ isListed (aBody (xS A)) (aRuns (xS A)) (sMends (aBody (xS A))).length D) ∧ jfr fGain h h') ?_ ?_ ?_)
  · rintro _ _ ⟨rfl, rfl⟩ -
    exact jM_int (tX11_rightBits a_h (Or.inl (by decide)) hp hs hr h12 k.2.2.2.2.1) (fun x h' z => ⟨z.1, z.2.mono rfl⟩)
  · rintro _ _ ⟨rfl, rfl⟩ - x2 h2 ⟨e2, f2⟩
    have e3 : h2 14 3 = nI (aRuns (xS A)).length := (f2 14 3 rfl).trans hr.1
    rw [e3, e2, wrong_e h12]
    exact jM_int (tX11_listGains ok (k.fr ok (f2.mono rfl))) (fun x h' z => ⟨z.1, f2.tr2 z.2⟩)
  · rintro _ _ ⟨rfl, rfl⟩ c x2 h2 ⟨e2, f2⟩ x3 h3 ⟨⟨D, e4, g4, l1, l2, l3⟩, f3⟩
    have nb : ¬ aBody (xS A) = [] := by rw [sB_ne] at c; exact c
    have e3 : h2 14 3 = nI (aRuns (xS A)).length := (f2 14 3 rfl).trans hr.1
    have W4 : sWrongN (aBody (xS A)) (aRuns (xS A)) < 4096 := sNB_4096 h12
    have eo : oHeaps A = (0, sHeapV (sGn (aBody (xS A)) (aRuns (xS A)) (sMends (aBody (xS A))).length) (sWrongN (aBody (xS A)) (aRuns (xS A))), A) := by rw [oHeaps, sIf_f nb]
    have sub : ∀ g, sGn (aBody (xS A)) (aRuns (xS A)) (sMends (aBody (xS A))).length g → g ||| sWrongN (aBody (xS A)) (aRuns (xS A)) = sWrongN (aBody (xS A)) (aRuns (xS A)) := fun g hg => by
      have g4 := sGn_4096 h12 hg
      obtain ⟨m, -, -, e⟩ := hg
      refine Nat.eq_of_testBit_eq fun i => ?_
      rw [Nat.testBit_or]
      by_cases hi : i < 12
      · cases a : g.testBit i with
        | false => rfl
        | true =>
          rw [e] at a
          have := (sNB_bit (f := fun i => ¬ sRightAt (aBody (xS A)) (aRuns (xS A)) i ∧ sRightAt (sBy (aBody (xS A)) (m, none)) (aRuns (xS A)) i) h12 hi).mp a
          have := (sNB_bit (f := fun i => ¬ sRightAt (aBody (xS A)) (aRuns (xS A)) i) h12 hi).mpr ⟨this.1, this.2.1⟩
          rw [show (sWrongN (aBody (xS A)) (aRuns (xS A))).testBit i = true from this]; rfl
      · rw [tb12 g4 (by omega), Bool.false_or]
    rw [e3, e2, wrong_e h12, e4, eo]
    generalize hW : sWrongN (aBody (xS A)) (aRuns (xS A)) = W at *
    generalize hG : sGn (aBody (xS A)) (aRuns (xS A)) (sMends (aBody (xS A))).length = G at *
    have g4' : ∀ g, G g → g < 4096 := fun g q => by have := or_W (sub g q); omega
    refine jloop (fun i (v : Int32) => WP mX11_heaps _ 61 [some (.ref 0), some (.int (sRightBits (aBody (xS A)) (aRuns (xS A)))), some (.int (nI W)), some (.int (nI D.length)), some (.int v), some (.int (nI i))] [] (jG0 sc) h3 (0, 0))
      (fun i v => v = nI (orL (D.take i))) D.length ?_ ?_ 0 0 (by omega) rfl
    · rintro v ev
      rw [List.take_length] at ev
      have le : nI D.length ≤ nI D.length := nI_le (Nat.le_refl _) (by omega)
      have o4 : orL D < 4096 := orL_lt (fun g q => g4' g (l2 g q))
      have key : ¬ v = nI W ↔ ¬ orL D = W := by rw [ev, jn_eq (by omega) (by omega)]
      have key2 : v = nI W ↔ orL D = W := by rw [ev, jn_eq (by omega) (by omega)]
      refine rX11_heaps_61 (fun _ c2 => ?_) (P1 := fun x h' => x = sHeapV G W ∧ jfr fGain h h') (fun _ c2 => ?_) (fun _ _ x5 h5 z => ?_) (P2 := fun _ _ => True) (fun c => absurd le c) (fun c => absurd le c) (fun c => absurd le c) (fun c => absurd le c) (fun c => absurd le c)
      · rw [key] at c2
        have : sHeapV G W = -1 := sHeapV_e (Or.inl ⟨rfl, fun k q => c2 ?_⟩)
        · rw [this]; exact cQ_q ok k (f3.mono rfl)
        · obtain ⟨L, q1, q2, q3⟩ := q
          refine Nat.eq_of_testBit_eq fun i => ?_
          cases a : W.testBit i with
          | true =>
            rw [← q3, orL_bit] at a
            obtain ⟨g, hg, bg⟩ := a
            rcases l3 g (q2 g hg) with e | e
            · subst e; rw [Nat.zero_testBit] at bg; cases bg
            · exact orL_bit.mpr ⟨g, e, bg⟩
          | false =>
            cases b : (orL D).testBit i with
            | false => rfl
            | true =>
              obtain ⟨g, hg, bg⟩ := orL_bit.mp b
              rw [sub_bit (sub g (l2 g hg)) bg] at a; cases a
      · exact jM_int (tX11_fewestMends g4 (by omega) W4 (fun g q => ⟨sub g (l2 g q), l2 g q⟩) l3 (key2.mp c2)) (fun x h' z => ⟨z.1, f3.tr2 (z.2.mono rfl)⟩)
      · rw [z.1]; exact cQ_q ok k (z.2.mono rfl)
    · rintro i v hi ev kk
      have nle : ¬ nI D.length ≤ nI i := by rw [jn_le (by omega) (by omega)]; omega
      have n3 : ¬ (300 : Int32) ≤ nI i := fun c => by have := (jn_le (a := 300) (by decide) (by omega)).mp c; omega
      refine rX11_heaps_61 (P1 := fun _ _ => True) (P2 := fun _ _ => True) (fun c => absurd c nle) (fun c => absurd c nle) (fun c => absurd c nle) (fun _ c => absurd c n3) (fun _ c => absurd c n3) (fun _ c => absurd c n3) (fun _ _ => vp_in_nI (by omega) (by decide)) (fun _ _ => ?_)
      rw [nI_clamp (show i < 2 ^ 31 by omega), g4 i hi, ev, nI_or, ← nI_succ]
      exact kk _ (by rw [take_at hi, orL_snoc])
  · rintro _ _ ⟨rfl, rfl⟩ c
    rw [oHeaps, sIf_t (Classical.not_not.mp (sB_eq.mp c))]; exact cQ_x rfl k (fun _ _ => rfl)
end HPC
