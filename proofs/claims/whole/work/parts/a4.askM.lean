/-! The reference asks what stands at its point. -/
section TQM
variable {sc : Nat × (Nat → Int32)} {h h' h0 : jH} {T : List Int32} {b d n p q : Nat} {W : jH → Prop}
theorem byte_s : ∀ m, m < 256 → (nI m).toInt8.toInt32 = if m < 128 then nI m else nI m - 256 := by decide +kernel
theorem byte_lo {c : Int32} (hc : sIn c 0 255) (h : c.toInt < 128) : c.toInt8.toInt32 = c := by
  have e := toInt_nn hc.1
  have := byte_s c.toInt.toNat (by have := hc.2; omega)
  rw [← e, if_pos (by omega)] at this
  exact this
theorem byte_hi {c : Int32} (hc : sIn c 0 255) (h : 128 ≤ c.toInt) : c.toInt8.toInt32.toInt < 0 := by
  have e := toInt_nn hc.1
  have := byte_s c.toInt.toNat (by have := hc.2; omega)
  rw [← e, if_neg (by omega)] at this
  have e2 : (256 : Int32).toInt = 256 := rfl
  have h2 := hc.2
  rw [this, toInt_sub' (by rw [e2]; omega) (by rw [e2]; omega), e2]
  omega
theorem byte_bt {c lo hi : Int32} (hc : sIn c 0 255) (h1 : 0 ≤ lo.toInt) (h2 : hi.toInt < 128) : (¬ c.toInt8.toInt32 < lo ∧ ¬ hi < c.toInt8.toInt32) ↔ (¬ c < lo ∧ ¬ hi < c) := by
  by_cases z : c.toInt < 128
  · rw [byte_lo hc z]
  · have := byte_hi hc (by omega)
    constructor
    · rintro ⟨a, -⟩; exact absurd (toInt_lt_iff.mpr (by omega)) a
    · rintro ⟨-, a⟩; exact absurd (toInt_lt_iff.mpr (by omega)) a
abbrev fPt : jF := ([], [(159, 6, 6), (159, 8, 8)])
/-- the reference reads T, its point is p -/
def ms (W : jH → Prop) (T : List Int32) (p : Nat) (h : jH) : Prop := (∀ i, i < T.length → h 162 i = (T.getD i 0).toInt8.toInt32) ∧ T.length ≤ 400 ∧ (∀ c ∈ T, sIn c 0 255) ∧ h 159 7 = nI T.length ∧ h 159 6 = nI p ∧ p ≤ T.length ∧ (∀ x y, jfr fPt x y → W x → W y) ∧ W h
/-- likewise, its begin is b -/
def ms2 (W : jH → Prop) (T : List Int32) (b p : Nat) (h : jH) : Prop := ms W T p h ∧ h 159 8 = nI b
theorem ms.pt {v : Int32} (k : ms W T p h) (hq : q ≤ T.length) (hv : v = nI q) : ms W T q (jput h 159 6 v) := by
  have f : jfr fPt h (jput h 159 6 v) := jfr.rf.put rfl
  exact ⟨fun i hi => (f 162 i rfl).trans (k.1 i hi), k.2.1, k.2.2.1, (f 159 7 rfl).trans k.2.2.2.1, jput_at.trans hv, hq, k.2.2.2.2.2.2.1, k.2.2.2.2.2.2.1 _ _ f k.2.2.2.2.2.2.2⟩
theorem ms2.pt {v : Int32} (k : ms2 W T b p h) (hq : q ≤ T.length) (hv : v = nI q) : ms2 W T b q (jput h 159 6 v) := ⟨k.1.pt hq hv, (jput_sl (by decide)).trans k.2⟩
theorem ms.bg {v : Int32} (k : ms W T p h) (hv : v = nI b) : ms2 W T b p (jput h 159 8 v) := by
  have f : jfr fPt h (jput h 159 8 v) := jfr.rf.put rfl
  exact ⟨⟨fun i hi => (f 162 i rfl).trans (k.1 i hi), k.2.1, k.2.2.1, (f 159 7 rfl).trans k.2.2.2.1, (jput_sl (by decide)).trans k.2.2.2.2.1, k.2.2.2.2.2.1, k.2.2.2.2.2.2.1, k.2.2.2.2.2.2.1 _ _ f k.2.2.2.2.2.2.2⟩, jput_at.trans hv⟩
theorem ms.by8 (k : ms W T p h) {i : Nat} (hi : i < T.length) : sIn (T.getD i 0) 0 255 := k.2.2.1 _ (getD_mem hi)
theorem sSpan_all {P : Int32 → Prop} : ∀ m i, T.length - i = m → ∀ j, i ≤ j → j < sSpan P T i → j < T.length ∧ P (T.getD j 0) := by
  intro m
  induction m with
  | zero =>
    intro i e j h1 h2
    rw [sSpan_e (by omega)] at h2
    omega
  | succ m ih =>
    intro i e j h1 h2
    by_cases c : P (T.getD i 0)
    · by_cases z : j = i
      · subst z; exact ⟨by omega, c⟩
      · rw [sSpan_t (by omega) c] at h2
        exact ih (i + 1) (by omega) j (by omega) h2
    · rw [sSpan_f (by omega) c] at h2
      omega
theorem sSkip_idem (hp : p ≤ T.length) : sSkip T (sSkip T p) = sSkip T p := by
  obtain ⟨-, h2, h3⟩ := sSpan_in (P := isBla) hp
  by_cases c : sSkip T p < T.length
  · exact sSpan_f c (h3 c)
  · exact sSpan_e (by have : sSkip T p ≤ T.length := h2; omega)
theorem tX12_isAt {lo hi : Int32} (k : ms W T p h) (h1 : 0 ≤ lo.toInt) (h2 : hi.toInt < 128) : JM mX12_isAt [.ref 159, .int lo, .int hi] (jG0 sc) h (jgets sc (sB (p < T.length ∧ ¬ T.getD p 0 < lo ∧ ¬ hi < T.getD p 0)) h) := by
  have h4 := k.2.1
  have hp := k.2.2.2.2.2.1
  have e : h 159 7 ≤ h 159 6 ↔ T.length ≤ p := by rw [k.2.2.2.1, k.2.2.2.2.1]; exact jn_le (by omega) (by omega)
  have ev : p < T.length → h 162 (h 159 6).toNatClampNeg = (T.getD p 0).toInt8.toInt32 := fun q => by rw [k.2.2.2.2.1, nI_clamp (by omega)]; exact k.1 p q
  have vi : ¬ h 159 7 ≤ h 159 6 → vp_in (h 159 6) 400 := fun c => by rw [k.2.2.2.2.1]; exact vp_in_nI (Nat.lt_of_lt_of_le (Nat.lt_of_not_le (fun z => c (e.mpr z))) h4) (by decide)
  refine jM_of rfl (Nat.le_of_ble_eq_true rfl) (by decide +kernel) rfl (rX12_isAt_0 (fun c => jgets_i (sB_f (fun z => absurd (e.mp c) (by omega))).symm) vi (fun c c1 => ?_) (fun c _ => vi c) (fun c c1 c2 => ?_) (fun c c1 c2 => ?_))
  all_goals have hl : p < T.length := Nat.lt_of_not_le (fun z => c (e.mpr z))
  all_goals rw [ev hl] at c1
  · exact jgets_i (sB_f (fun z => ((byte_bt (k.by8 hl) h1 h2).mpr z.2).1 c1)).symm
  · rw [ev hl] at c2
    exact jgets_i (sB_f (fun z => ((byte_bt (k.by8 hl) h1 h2).mpr z.2).2 c2)).symm
  · rw [ev hl] at c2
    exact jgets_i (sB_t ⟨hl, (byte_bt (k.by8 hl) h1 h2).mp ⟨c1, c2⟩⟩).symm
theorem bt_eq {c x : Int32} : (¬ c < x ∧ ¬ x < c) ↔ c = x := by
  rw [toInt_lt_iff, toInt_lt_iff, toInt_eq_iff]; omega
theorem tX12_blanks (k : ms W T p h) : JM mX12_blanks [.ref 159] (jG0 sc) h (jvoid sc (ms2 W T (sSkip T p) (sSkip T p))) := by
  refine jM_of rfl (Nat.le_of_ble_eq_true rfl) (by decide +kernel) rfl ?_
  have go : ∀ m j h1, T.length - j = m → ms W T j h1 → sSkip T j = sSkip T p → WP mX12_blanks (jvoid sc (ms2 W T (sSkip T p) (sSkip T p))) 0 [some (.ref 159)] [] (jG0 sc) h1 (0, 0) := by
    intro m
    induction m with
    | zero =>
      intro j h1 em z es
      have hj := z.2.2.2.2.2.1
      refine rX12_blanks_0 (P1 := fun x h' => x = sB (j < T.length ∧ ¬ T.getD j 0 < 32 ∧ ¬ 32 < T.getD j 0) ∧ ms W T j h') (jM_get (tX12_isAt z (by decide) (by decide)) z) ?_ ?_
      · rintro x1 h2 ⟨-, z2⟩ -
        have e : sSkip T p = j := es.symm.trans (sSpan_e (by omega))
        rw [e]
        exact jvoid_i (z2.bg z2.2.2.2.2.1)
      · rintro x1 h2 ⟨rfl, -⟩ c
        exact absurd (sB_ne.mp c).1 (by omega)
    | succ m ih =>
      intro j h1 em z es
      have hj := z.2.2.2.2.2.1
      refine rX12_blanks_0 (P1 := fun x h' => x = sB (j < T.length ∧ ¬ T.getD j 0 < 32 ∧ ¬ 32 < T.getD j 0) ∧ ms W T j h') (jM_get (tX12_isAt z (by decide) (by decide)) z) ?_ ?_
      · rintro x1 h2 ⟨rfl, z2⟩ c
        have c1 := sB_eq.mp c
        have e : sSkip T p = j := es.symm.trans (sSpan_f (P := isBla) (by omega) (fun q => c1 ⟨by omega, bt_eq.mpr q⟩))
        rw [e]
        exact jvoid_i (z2.bg z2.2.2.2.2.1)
      · rintro x1 h2 ⟨rfl, z2⟩ c
        have c1 := sB_ne.mp c
        refine ih (j + 1) _ (by omega) (z2.pt (by omega) (by rw [z2.2.2.2.2.1, ← nI_succ])) ?_
        rw [← es]; exact (sSpan_t (P := isBla) (by omega) (bt_eq.mp c1.2)).symm
  exact go _ p h rfl k rfl
theorem tX12_letters (k : ms W T p h) : JM mX12_letters [.ref 159] (jG0 sc) h (jvoid sc (ms2 W T (sSkip T p) (sSpan isLet T (sSkip T p)))) := by
  refine jM_of rfl (Nat.le_of_ble_eq_true rfl) (by decide +kernel) rfl (rX12_letters_0 (tX12_blanks k) ?_)
  generalize sSkip T p = b
  have go : ∀ m j h1, T.length - j = m → ms2 W T b j h1 → sSpan isLet T j = sSpan isLet T b → WP mX12_letters (jvoid sc (ms2 W T b (sSpan isLet T b))) 4 [some (.ref 159)] [] (jG0 sc) h1 (0, 0) := by
    intro m
    induction m with
    | zero =>
      intro j h1 em z es
      have hj := z.1.2.2.2.2.2.1
      refine rX12_letters_4 (P1 := fun x h' => x = sB (j < T.length ∧ ¬ T.getD j 0 < 97 ∧ ¬ 122 < T.getD j 0) ∧ ms2 W T b j h') (jM_get (tX12_isAt z.1 (by decide) (by decide)) z) ?_ ?_
      · rintro x1 h2 ⟨-, z2⟩ -
        rw [← es, sSpan_e (by omega)]
        exact jvoid_i z2
      · rintro x1 h2 ⟨rfl, -⟩ c
        exact absurd (sB_ne.mp c).1 (by omega)
    | succ m ih =>
      intro j h1 em z es
      have hj := z.1.2.2.2.2.2.1
      refine rX12_letters_4 (P1 := fun x h' => x = sB (j < T.length ∧ ¬ T.getD j 0 < 97 ∧ ¬ 122 < T.getD j 0) ∧ ms2 W T b j h') (jM_get (tX12_isAt z.1 (by decide) (by decide)) z) ?_ ?_
      · rintro x1 h2 ⟨rfl, z2⟩ c
        have c1 := sB_eq.mp c
        rw [← es, sSpan_f (P := isLet) (by omega) (fun q => c1 ⟨by omega, q⟩)]
        exact jvoid_i z2
      · rintro x1 h2 ⟨rfl, z2⟩ c
        have c1 := sB_ne.mp c
        refine ih (j + 1) _ (by omega) (z2.pt (by omega) (by rw [z2.1.2.2.2.2.1, ← nI_succ])) ?_
        rw [← es]; exact (sSpan_t (P := isLet) (by omega) c1.2).symm
  exact fun h1 z => go _ b h1 rfl z rfl
/-- what a word is, by where its letters end -/
theorem jTxtL_pos : ∀ i, i < 22 → 1 ≤ jTxtL.getD i 0 := by decide +kernel
theorem span_word (hb : b ≤ T.length) : (tKind T b = 1 ↔ b < sSpan isLet T b) ∧ (b < sSpan isLet T b → tEnd T b = sSpan isLet T b) ∧ (¬ b < sSpan isLet T b → sSpan isLet T b = b) := by
  have hs := sSpan_in (P := isLet) hb
  by_cases h1 : T.length ≤ b
  · have e := sSpan_e (P := isLet) h1
    rw [e, (tk0 h1).1]
    exact ⟨⟨fun q => (by cases q), fun q => absurd q (Nat.lt_irrefl _)⟩, fun q => absurd q (Nat.lt_irrefl _), fun _ => rfl⟩
  · by_cases h2 : isLet (T.getD b 0)
    · obtain ⟨a, c⟩ := tk1 (by omega) h2
      have e := sSpan_t (P := isLet) (by omega) h2
      have := (sSpan_in (P := isLet) (T := T) (i := b + 1) (by omega)).1
      rw [a, c, e]
      exact ⟨⟨fun _ => by omega, fun _ => rfl⟩, fun _ => rfl, fun q => absurd (by omega) q⟩
    · have e := sSpan_f (P := isLet) (by omega) h2
      rw [e]
      refine ⟨⟨fun q => ?_, fun q => absurd q (Nat.lt_irrefl _)⟩, fun q => absurd q (Nat.lt_irrefl _), fun _ => rfl⟩
      by_cases h3 : isDig (T.getD b 0)
      · rw [(tk2 (by omega) h2 h3).1] at q; cases q
      · rw [(tk3 (by omega) h2 h3).1] at q; cases q
theorem let_lo {c : Int32} (h : isLet c) : c.toInt < 128 := by
  have h2 := h.2
  rw [toInt_lt_iff] at h2
  have e : (122 : Int32).toInt = 122 := rfl
  omega
theorem dig_lo {c : Int32} (h : isDig c) : c.toInt < 128 := by
  have h2 := h.2
  rw [toInt_lt_iff] at h2
  have e : (57 : Int32).toInt = 57 := rfl
  omega
theorem tX12_isWord (k : ms2 W T b (sSpan isLet T b) h) (hb : b ≤ T.length) (hn : n < 22) : JM mX12_isWord [.ref 159, .ref (1001 + n)] (jG0 sc) h (jgets sc (sB (tWd T b n)) h) := by
  have h4 := k.1.2.1
  have hs := sSpan_in (P := isLet) hb
  have all := sSpan_all (T := T) (P := isLet) _ b rfl
  obtain ⟨w1, w2, w3⟩ := span_word hb
  have lp := jTxtL_pos n hn
  have l6 := jTxtL_le n hn
  generalize eq : sSpan isLet T b = q at *
  have el : h 159 6 - h 159 8 = nI (q - b) := by rw [k.1.2.2.2.2.1, k.2, nI_subN hs.1]
  have stop : ∀ {c : Prop} i, ¬ c → sB c = 0 → WP mX12_isWord (jgets sc (sB c) h) 24 [some (.ref 159), some (.ref (1001 + n)), some (.int 0), some (.int i)] [] (jG0 sc) h (0, 0) := fun i hc e => by
    refine rX12_isWord_24 (P1 := fun _ _ => False) (P2 := fun _ _ => False) hn (fun _ => Or.inl rfl) (fun _ => jgets_i e.symm) ?_ ?_ ?_ ?_ ?_ ?_ ?_
    all_goals intro c; exact absurd rfl c
  refine jM_of rfl (Nat.le_of_ble_eq_true rfl) (by decide +kernel) rfl (rX12_isWord_0 (P1 := fun x h' => x = nI (jTxtL.getD n 0) ∧ h = h') hn (tJlength hn) ?_ ?_)
  · rintro _ _ ⟨rfl, rfl⟩ c
    rw [el, jn_eq (by omega) (by omega)] at c
    have no : ¬ tWd T b n := fun z => c (by have := w2 (w1.mp z.1); rw [← this]; exact z.2.1)
    exact stop 0 no (sB_f no)
  · rintro _ _ ⟨rfl, rfl⟩ c
    rw [el, jn_eq (by omega) (by omega)] at c
    have hbq : b < q := by omega
    have go : ∀ m j, j + m = jTxtL.getD n 0 → (∀ i, i < j → T.getD (b + i) 0 = jch n i) → WP mX12_isWord (jgets sc (sB (tWd T b n)) h) 24 [some (.ref 159), some (.ref (1001 + n)), some (.int 1), some (.int (nI j))] [] (jG0 sc) h (0, 0) := by
      intro m
      induction m with
      | zero =>
        intro j em hi
        have yes : tWd T b n := ⟨w1.mpr hbq, by rw [w2 hbq]; exact c, fun i h => hi i (by omega)⟩
        refine rX12_isWord_24 (P1 := fun x h' => x = nI (jTxtL.getD n 0) ∧ h = h') (P2 := fun _ _ => False) hn (fun _ => Or.inr rfl) (fun c => absurd c (by decide)) (fun _ => tJlength hn) (fun _ _ _ _ _ => Or.inr rfl) ?_ ?_ ?_ ?_ ?_
        · rintro - _ _ ⟨rfl, rfl⟩ -; exact jgets_i (sB_t yes).symm
        all_goals (rintro - _ _ ⟨rfl, rfl⟩ c; exact absurd (nI_le (by omega) (by omega)) c)
      | succ m ih =>
        intro j em hi
        have ea : h 159 8 + nI j = nI (b + j) := by rw [k.2, nI_add]
        obtain ⟨hbj, hlet⟩ := all (b + j) (by omega) (by omega)
        have ej : h 162 (nI (b + j)).toNatClampNeg = T.getD (b + j) 0 := by rw [nI_clamp (by omega), k.1.1 _ hbj]; exact byte_lo (k.1.by8 hbj) (let_lo hlet)
        refine rX12_isWord_24 (P1 := fun x h' => x = nI (jTxtL.getD n 0) ∧ h = h') (P2 := fun x h' => x = jch n j ∧ h = h') hn (fun _ => Or.inr rfl) (fun c => absurd c (by decide)) (fun _ => tJlength hn) (fun _ _ _ _ _ => Or.inr rfl) ?_ ?_ ?_ ?_ ?_
        · rintro - _ _ ⟨rfl, rfl⟩ c
          exact absurd ((jn_le (by omega) (by omega)).mp c) (by omega)
        · rintro - _ _ ⟨rfl, rfl⟩ -
          rw [ea]; exact vp_in_nI (by omega) (by decide)
        · rintro - _ _ ⟨rfl, rfl⟩ -
          exact tJcharAt hn (by omega)
        · rintro - _ _ ⟨rfl, rfl⟩ - _ _ ⟨rfl, rfl⟩ c
          rw [ea, ej] at c
          have no : ¬ tWd T b n := fun z => c (z.2.2 j (by omega))
          exact stop _ no (sB_f no)
        · rintro - _ _ ⟨rfl, rfl⟩ - _ _ ⟨rfl, rfl⟩ c
          rw [ea, ej] at c
          rw [← nI_succ]
          refine ih (j + 1) (by omega) (fun i hi2 => ?_)
          by_cases z : i = j
          · subst z; exact c
          · exact hi i (by omega)
    exact go _ 0 (Nat.zero_add _) (fun i hi => absurd hi (Nat.not_lt_zero _))
theorem skip_le (hp : p ≤ T.length) : sSkip T p ≤ T.length := (sSpan_in (P := isBla) hp).2.1
theorem tX12_passes (k : ms W T p h) (hn : n < 22) : JM mX12_passes [.ref 159, .ref (1001 + n)] (jG0 sc) h (jint sc (fun x h' => (tWd T (sSkip T p) n ∧ x = 1 ∧ ms2 W T (sSkip T p) (tEnd T (sSkip T p)) h') ∨ (¬ tWd T (sSkip T p) n ∧ x = 0 ∧ ms2 W T (sSkip T p) (sSkip T p) h'))) := by
  have hb := skip_le k.2.2.2.2.2.1
  generalize eb : sSkip T p = b at *
  obtain ⟨w1, w2, w3⟩ := span_word hb
  refine jM_of rfl (Nat.le_of_ble_eq_true rfl) (by decide +kernel) rfl (rX12_passes_0 (P1 := ms2 W T b (sSpan isLet T b)) (P2 := fun x h' => x = sB (tWd T b n) ∧ ms2 W T b (sSpan isLet T b) h') hn (by rw [← eb]; exact tX12_letters k) (fun h1 z => jM_get (tX12_isWord z hb hn) z) ?_ ?_)
  · rintro h1 - x2 h2 ⟨rfl, z⟩ c
    exact jint_i (Or.inr ⟨sB_eq.mp c, rfl, z.pt hb z.2⟩)
  · rintro h1 - x2 h2 ⟨rfl, z⟩ c
    have c1 := sB_ne.mp c
    exact jint_i (Or.inl ⟨c1, rfl, by rw [w2 (w1.mp c1.1)]; exact z⟩)
theorem tX12_needs (k : ms W T p h) (hn : n < 22) : JM mX12_needs [.ref 159, .ref (1001 + n)] (jG0 sc) h (jint sc (fun x h' => x = sB (tWd T (sSkip T p) n) ∧ ms2 W T (sSkip T p) (sSpan isLet T (sSkip T p)) h')) := by
  have hb := skip_le k.2.2.2.2.2.1
  generalize eb : sSkip T p = b at *
  refine jM_of rfl (Nat.le_of_ble_eq_true rfl) (by decide +kernel) rfl (rX12_needs_0 (P1 := ms2 W T b (sSpan isLet T b)) (P2 := fun x h' => x = sB (tWd T b n) ∧ ms2 W T b (sSpan isLet T b) h') hn (by rw [← eb]; exact tX12_letters k) (fun h1 z => jM_get (tX12_isWord z hb hn) z) ?_ ?_)
  · rintro h1 - x2 h2 ⟨rfl, z⟩; exact sB_01
  · rintro h1 - x2 h2 z; exact jint_i z
/-- a byte that is no letter, no digit -/
def isMk (c : Int32) : Prop := ¬ isLet c ∧ ¬ isDig c ∧ 0 ≤ c.toInt ∧ c.toInt < 128
theorem mark_iff {c : Int32} (hc : isMk c) : tMark T b c ↔ b < T.length ∧ T.getD b 0 = c := by
  unfold tMark
  by_cases h1 : T.length ≤ b
  · rw [(tk0 h1).1]
    exact ⟨fun q => absurd q.1 (by decide), fun q => absurd q.1 (by omega)⟩
  · by_cases h2 : isLet (T.getD b 0)
    · exact ⟨fun q => absurd (q.2 ▸ h2) hc.1, fun q => absurd (q.2 ▸ h2) hc.1⟩
    · by_cases h3 : isDig (T.getD b 0)
      · exact ⟨fun q => absurd (q.2 ▸ h3) hc.2.1, fun q => absurd (q.2 ▸ h3) hc.2.1⟩
      · rw [(tk3 (by omega) h2 h3).1]
        exact ⟨fun q => ⟨by omega, q.2⟩, fun q => ⟨rfl, q.2⟩⟩
theorem mark_end {c : Int32} (hc : isMk c) (h : tMark T b c) : tEnd T b = b + 1 := by
  obtain ⟨h1, h2⟩ := (mark_iff hc).mp h
  exact (tk3 h1 (by rw [h2]; exact hc.1) (by rw [h2]; exact hc.2.1)).2
theorem tX12_sign {c : Int32} (k : ms W T p h) (hc : isMk c) : JM mX12_sign [.ref 159, .int c] (jG0 sc) h (jint sc (fun x h' => (tMark T (sSkip T p) c ∧ x = 1 ∧ ms2 W T (sSkip T p) (tEnd T (sSkip T p)) h') ∨ (¬ tMark T (sSkip T p) c ∧ x = 0 ∧ ms2 W T (sSkip T p) (sSkip T p) h'))) := by
  have hb := skip_le k.2.2.2.2.2.1
  generalize eb : sSkip T p = b at *
  have mi := mark_iff (T := T) (b := b) hc
  refine jM_of rfl (Nat.le_of_ble_eq_true rfl) (by decide +kernel) rfl (rX12_sign_0 (P1 := ms2 W T b b) (P2 := fun x h' => x = sB (b < T.length ∧ ¬ T.getD b 0 < c ∧ ¬ c < T.getD b 0) ∧ ms2 W T b b h') (by rw [← eb]; exact tX12_blanks k) (fun h1 z => jM_get (tX12_isAt z.1 hc.2.2.1 hc.2.2.2) z) ?_ ?_)
  · rintro h1 - x2 h2 ⟨rfl, z⟩ q
    have q1 := sB_ne.mp q
    have m := mi.mpr ⟨q1.1, bt_eq.mp q1.2⟩
    have e := mark_end hc m
    exact jint_i (Or.inl ⟨m, rfl, by rw [e]; exact z.pt q1.1 (by rw [z.1.2.2.2.2.1, ← nI_succ])⟩)
  · rintro h1 - x2 h2 ⟨rfl, z⟩ q
    have q1 := sB_eq.mp q
    exact jint_i (Or.inr ⟨fun m => q1 ⟨(mi.mp m).1, bt_eq.mpr (mi.mp m).2⟩, rfl, z⟩)
theorem span_num (hb : b ≤ T.length) : (tKind T b = 2 ↔ b < sSpan isDig T b) ∧ (b < sSpan isDig T b → tEnd T b = sSpan isDig T b) ∧ (¬ b < sSpan isDig T b → sSpan isDig T b = b) := by
  have hs := sSpan_in (P := isDig) hb
  by_cases h1 : T.length ≤ b
  · have e := sSpan_e (P := isDig) h1
    rw [e, (tk0 h1).1]
    exact ⟨⟨fun q => (by cases q), fun q => absurd q (Nat.lt_irrefl _)⟩, fun q => absurd q (Nat.lt_irrefl _), fun _ => rfl⟩
  · by_cases h2 : isDig (T.getD b 0)
    · obtain ⟨a, c⟩ := tk2 (by omega) (dig_let h2) h2
      have e := sSpan_t (P := isDig) (by omega) h2
      have := (sSpan_in (P := isDig) (T := T) (i := b + 1) (by omega)).1
      rw [a, c, e]
      exact ⟨⟨fun _ => by omega, fun _ => rfl⟩, fun _ => rfl, fun q => absurd (by omega) q⟩
    · have e := sSpan_f (P := isDig) (by omega) h2
      rw [e]
      refine ⟨⟨fun q => ?_, fun q => absurd q (Nat.lt_irrefl _)⟩, fun q => absurd q (Nat.lt_irrefl _), fun _ => rfl⟩
      by_cases h3 : isLet (T.getD b 0)
      · rw [(tk1 (by omega) h3).1] at q; cases q
      · rw [(tk3 (by omega) h3 h2).1] at q; cases q
theorem tX12_number {lo : Int32} (k : ms W T p h) (hd : d ≤ 4) : JM mX12_number [.ref 159, .int (nI d), .int lo] (jG0 sc) h (jint sc (fun x h' => x = sIf (tNumb T (sSkip T p) d ∧ lo ≤ sNumAt T (sSkip T p)) (sNumAt T (sSkip T p)) (-1) ∧ ms2 W T (sSkip T p) (sSpan isDig T (sSkip T p)) h')) := by
  have h4 := k.2.1
  have hb := skip_le k.2.2.2.2.2.1
  generalize eb : sSkip T p = b at *
  obtain ⟨w1, w2, w3⟩ := span_num hb
  have hs := sSpan_in (P := isDig) hb
  have all := sSpan_all (T := T) (P := isDig) _ b rfl
  refine jM_of rfl (Nat.le_of_ble_eq_true rfl) (by decide +kernel) rfl (rX12_number_0 (P1 := ms2 W T b b) (by rw [← eb]; exact tX12_blanks k) ?_)
  have go : ∀ m j v h1, T.length - j = m → b ≤ j → ms2 W T b j h1 → sSpan isDig T j = sSpan isDig T b → (j - b ≤ d → v = nI (sNum T b (j - b))) → WP mX12_number (jint sc (fun x h' => x = sIf (tNumb T b d ∧ lo ≤ sNumAt T b) (sNumAt T b) (-1) ∧ ms2 W T b (sSpan isDig T b) h')) 6 [some (.ref 159), some (.int (nI d)), some (.int lo), some (.int v)] [] (jG0 sc) h1 (0, 0) := by
    intro m
    induction m with
    | zero =>
      intro j v h1 em hbj z es ev
      have hj := z.1.2.2.2.2.2.1
      have ej : sSpan isDig T b = j := es.symm.trans (sSpan_e (by omega))
      refine rX12_number_6 (P1 := fun x h' => x = sB (j < T.length ∧ ¬ T.getD j 0 < 48 ∧ ¬ 57 < T.getD j 0) ∧ ms2 W T b j h') (jM_get (tX12_isAt z.1 (by decide) (by decide)) z) ?_ ?_ ?_ ?_ ?_ ?_ ?_
      · rintro x1 h2 ⟨-, z2⟩ - c
        rw [z2.1.2.2.2.2.1, z2.2, jn_eq (by omega) (by omega)] at c
        rw [ej]
        exact jint_i ⟨(sIf_f (fun q => absurd (w1.mp q.1.1) (by omega))).symm, z2⟩
      · rintro x1 h2 ⟨-, z2⟩ - - c
        rw [z2.1.2.2.2.2.1, z2.2, nI_subN hbj, jn_lt (by omega) (by omega)] at c
        rw [ej]
        exact jint_i ⟨(sIf_f (fun q => absurd q.1.2 (by rw [w2 (w1.mp q.1.1), ej]; omega))).symm, z2⟩
      · rintro x1 h2 ⟨-, z2⟩ - c1 c c2
        rw [z2.1.2.2.2.2.1, z2.2, nI_subN hbj, jn_lt (by omega) (by omega)] at c
        rw [z2.1.2.2.2.2.1, z2.2, jn_eq (by omega) (by omega)] at c1
        have lt : b < sSpan isDig T b := by omega
        have et : tEnd T b = j := (w2 lt).trans ej
        have en : v = sNumAt T b := by rw [ev (by omega)]; unfold sNumAt; rw [et]
        rw [ej]
        exact jint_i ⟨by rw [sIf_t ⟨⟨w1.mpr lt, by rw [et]; omega⟩, by rw [← en]; exact c2⟩]; exact en, z2⟩
      · rintro x1 h2 ⟨-, z2⟩ - c1 c c2
        rw [z2.1.2.2.2.2.1, z2.2, nI_subN hbj, jn_lt (by omega) (by omega)] at c
        rw [z2.1.2.2.2.2.1, z2.2, jn_eq (by omega) (by omega)] at c1
        have lt : b < sSpan isDig T b := by omega
        have et : tEnd T b = j := (w2 lt).trans ej
        have en : v = sNumAt T b := by rw [ev (by omega)]; unfold sNumAt; rw [et]
        rw [ej]
        exact jint_i ⟨(sIf_f (fun q => c2 (by rw [en]; exact q.2))).symm, z2⟩
      all_goals (rintro x1 h2 ⟨rfl, -⟩ c; exact absurd (sB_ne.mp c).1 (by omega))
    | succ m ih =>
      intro j v h1 em hbj z es ev
      have hj := z.1.2.2.2.2.2.1
      refine rX12_number_6 (P1 := fun x h' => x = sB (j < T.length ∧ ¬ T.getD j 0 < 48 ∧ ¬ 57 < T.getD j 0) ∧ ms2 W T b j h') (jM_get (tX12_isAt z.1 (by decide) (by decide)) z) ?_ ?_ ?_ ?_ ?_ ?_ ?_
      · rintro x1 h2 ⟨rfl, z2⟩ q c
        have q1 := sB_eq.mp q
        have ej : sSpan isDig T b = j := es.symm.trans (sSpan_f (by omega) (fun y => q1 ⟨by omega, y⟩))
        rw [z2.1.2.2.2.2.1, z2.2, jn_eq (by omega) (by omega)] at c
        rw [ej]
        exact jint_i ⟨(sIf_f (fun q => absurd (w1.mp q.1.1) (by omega))).symm, z2⟩
      · rintro x1 h2 ⟨rfl, z2⟩ q - c
        have q1 := sB_eq.mp q
        have ej : sSpan isDig T b = j := es.symm.trans (sSpan_f (by omega) (fun y => q1 ⟨by omega, y⟩))
        rw [z2.1.2.2.2.2.1, z2.2, nI_subN hbj, jn_lt (by omega) (by omega)] at c
        rw [ej]
        exact jint_i ⟨(sIf_f (fun q => absurd q.1.2 (by rw [w2 (w1.mp q.1.1), ej]; omega))).symm, z2⟩
      · rintro x1 h2 ⟨rfl, z2⟩ q c1 c c2
        have q1 := sB_eq.mp q
        have ej : sSpan isDig T b = j := es.symm.trans (sSpan_f (by omega) (fun y => q1 ⟨by omega, y⟩))
        rw [z2.1.2.2.2.2.1, z2.2, nI_subN hbj, jn_lt (by omega) (by omega)] at c
        rw [z2.1.2.2.2.2.1, z2.2, jn_eq (by omega) (by omega)] at c1
        have lt : b < sSpan isDig T b := by omega
        have et : tEnd T b = j := (w2 lt).trans ej
        have en : v = sNumAt T b := by rw [ev (by omega)]; unfold sNumAt; rw [et]
        rw [ej]
        exact jint_i ⟨by rw [sIf_t ⟨⟨w1.mpr lt, by rw [et]; omega⟩, by rw [← en]; exact c2⟩]; exact en, z2⟩
      · rintro x1 h2 ⟨rfl, z2⟩ q c1 c c2
        have q1 := sB_eq.mp q
        have ej : sSpan isDig T b = j := es.symm.trans (sSpan_f (by omega) (fun y => q1 ⟨by omega, y⟩))
        rw [z2.1.2.2.2.2.1, z2.2, nI_subN hbj, jn_lt (by omega) (by omega)] at c
        rw [z2.1.2.2.2.2.1, z2.2, jn_eq (by omega) (by omega)] at c1
        have lt : b < sSpan isDig T b := by omega
        have et : tEnd T b = j := (w2 lt).trans ej
        have en : v = sNumAt T b := by rw [ev (by omega)]; unfold sNumAt; rw [et]
        rw [ej]
        exact jint_i ⟨(sIf_f (fun q => c2 (by rw [en]; exact q.2))).symm, z2⟩
      · rintro x1 h2 ⟨rfl, z2⟩ q c
        have q1 := sB_ne.mp q
        rw [z2.1.2.2.2.2.1, z2.2, nI_subN hbj, jn_le (by omega) (by omega)] at c
        exact ih (j + 1) v _ (by omega) (by omega) (z2.pt (by omega) (by rw [z2.1.2.2.2.2.1, ← nI_succ])) (by rw [← es]; exact (sSpan_t (P := isDig) (by omega) q1.2).symm) (fun q => absurd q (by omega))
      · rintro x1 h2 ⟨rfl, z2⟩ q c
        rw [z2.1.2.2.2.2.1]; exact vp_in_nI (by have := (sB_ne.mp q).1; omega) (by decide)
      · rintro x1 h2 ⟨rfl, z2⟩ q c
        have q1 := sB_ne.mp q
        have eb1 : h2 162 (h2 159 6).toNatClampNeg = T.getD j 0 := by rw [z2.1.2.2.2.2.1, nI_clamp (by omega), z2.1.1 j q1.1]; exact byte_lo (z2.1.by8 q1.1) (dig_lo q1.2)
        rw [z2.1.2.2.2.2.1, z2.2, nI_subN hbj, jn_le (by omega) (by omega)] at c
        refine ih (j + 1) _ _ (by omega) (by omega) (z2.pt (by omega) (by rw [z2.1.2.2.2.2.1, ← nI_succ])) (by rw [← es]; exact (sSpan_t (P := isDig) (by omega) q1.2).symm) (fun _ => ?_)
        rw [eb1, (num_step (ev (by omega)) q1.2).2, show j + 1 - b = (j - b) + 1 by omega, sNum, show b + (j - b) = j by omega]; rfl
  exact fun h1 z => go _ b 0 h1 rfl (Nat.le_refl _) z rfl (fun _ => by rw [Nat.sub_self]; rfl)
end TQM
