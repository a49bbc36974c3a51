/-! The class: of which mends one is made, and a program as by it. -/
section PW
variable {sc : Nat × (Nat → Int32)} {h : jH} {t a b n : Nat} {p : List Int32}
theorem sPlFrom_more : ∀ (k n : Nat), sPlFrom p (k + 1) n = sPlFrom p k n ++ sPl p (n + k) := by
  intro k
  induction k with
  | zero => intro n; simp [sPlFrom]
  | succ k ih => intro n; rw [sPlFrom, ih (n + 1), sPlFrom, List.append_assoc, show n + 1 + k = n + (k + 1) by omega]
theorem sPrFrom_more : ∀ (k n : Nat), sPrFrom p (k + 1) n = sPrFrom p k n ++ sPr p (n + k) := by
  intro k
  induction k with
  | zero => intro n; simp [sPrFrom]
  | succ k ih => intro n; rw [sPrFrom, ih (n + 1), sPrFrom, List.append_assoc, show n + 1 + k = n + (k + 1) by omega]
theorem sPl_len : (sPl p n).length = sPlainN p n := by simp [sPl]
theorem sPlainN_28 (hs : sProg p) : sPlainN p n ≤ 28 := by
  unfold sPlainN
  split
  · next q => have := sMendsAt_28 hs q; rw [sMendsAt_len] at this; omega
  · omega
theorem sPlFrom_28 (hs : sProg p) : ∀ k n, (sPlFrom p k n).length ≤ 28 * k := by
  intro k
  induction k with
  | zero => intro n; exact Nat.le_refl _
  | succ k ih =>
    intro n
    rw [sPlFrom, List.length_append, sPl_len]
    have := ih (n + 1)
    have := @sPlainN_28 n p hs
    omega
theorem sPr_28 (hs : sProg p) : (sPr p n).length ≤ 28 * 252 := by
  rw [sPr_len]
  have h1 := @sPlainN_28 n p hs
  have h2 := sPlFrom_28 hs (9 - n) (n + 1)
  exact Nat.mul_le_mul h1 (by omega)
theorem sPrFrom_28 (hs : sProg p) : ∀ k n, (sPrFrom p k n).length ≤ 7056 * k := by
  intro k
  induction k with
  | zero => intro n; exact Nat.le_refl _
  | succ k ih =>
    intro n
    rw [sPrFrom, List.length_append]
    have := ih (n + 1)
    have := @sPr_28 n p hs
    omega
theorem isMends.fr {F : jF} {h h' : jH} (k : isMends h t p) (f : jfr F h h') (h0 : jin F t 6 = false) (hc : ∀ c, t + 1 ≤ c → c ≤ t + 6 → ∀ j, jin F c j = false) : isMends h' t p := by
  obtain ⟨k1, k2, k3⟩ := k
  refine ⟨k1.fr f h0 (hc _ (by omega) (by omega)) (hc _ (by omega) (by omega)) (hc _ (by omega) (by omega)), fun n hn => ?_, fun n hn => ?_⟩
  · rw [f _ _ (hc (t + 6) (by omega) (by omega) n)]; exact k2 n hn
  · rw [f _ _ (hc (t + 4) (by omega) (by omega) n), f _ _ (hc (t + 5) (by omega) (by omega) n)]; exact k3 n hn
theorem isMends.put {i : Nat} {x : Int32} (k : isMends h t p) (hi : i ≠ 6) : isMends (jput h t i x) t p :=
  k.fr (F := ([], [(t, i, i)])) (jfr.rf.put (by rw [jin_iff]; simp)) (by rw [jin_f]; simp; omega) (fun c h1 h2 j => by rw [jin_f]; simp; omega)
theorem tX3_plainBehind (t_h : jI3 t) (hs : sProg p) (hm : isMends h t p) (hn : n < 10) : JM mX3_plainBehind [.ref t, .int (nI n)] (jG0 sc) h (jgets sc (nI (sPlFrom p (9 - n) (n + 1)).length) h) := by
  refine jM_of rfl (Nat.le_of_ble_eq_true rfl) (by decide +kernel) rfl (rX3_plainBehind_0 t_h ?_)
  rw [← nI_succ]
  refine jloop (fun i (b : Int32) => WP mX3_plainBehind _ 6 [some (.ref t), some (.int (nI n)), some (.int b), some (.int (nI i))] [] (jG0 sc) h (0, 0))
    (fun i b => n + 1 ≤ i ∧ b = nI (sPlFrom p (i - (n + 1)) (n + 1)).length) 10 ?_ ?_ (n + 1) 0 (by omega) ⟨Nat.le_refl _, by rw [Nat.sub_self]; rfl⟩
  · rintro b ⟨-, i2⟩
    exact rX3_plainBehind_6 t_h (fun _ => jgets_i (by rw [i2, show 10 - (n + 1) = 9 - n by omega])) (fun c => absurd (by decide) c) (fun c => absurd (by decide) c)
  · rintro i b hi ⟨i1, i2⟩ k
    have hi31 : i < 2 ^ 31 := by omega
    refine rX3_plainBehind_6 t_h (fun c => absurd ((jn_le (a := 10) (by decide) hi31).mp c) (by omega)) (fun _ => vp_in_nI hi (by decide)) (fun _ => ?_)
    rw [← nI_succ]
    refine k _ ⟨by omega, ?_⟩
    rw [i2, nI_clamp hi31, hm.2.1 i hi, nI_add, show i + 1 - (n + 1) = (i - (n + 1)) + 1 by omega, sPlFrom_more, List.length_append, sPl_len, show n + 1 + (i - (n + 1)) = i by omega]
theorem tX3_pairs (t_h : jI3 t) (hs : sProg p) (hm : isMends h t p) : JM mX3_pairs [.ref t] (jG0 sc) h (jgets sc (nI (sPairs (sMends p)).length) h) := by
  refine jM_of rfl (Nat.le_of_ble_eq_true rfl) (by decide +kernel) rfl (rX3_pairs_0 t_h ?_)
  refine jloop (fun i (b : Int32) => WP mX3_pairs _ 4 [some (.ref t), some (.int b), some (.int (nI i))] [] (jG0 sc) h (0, 0))
    (fun i b => b = nI (sPrFrom p i 0).length) 10 ?_ ?_ 0 0 (by omega) rfl
  · rintro b i2
    exact rX3_pairs_4 t_h (fun _ => jgets_i (by rw [i2, sPairs_lines hs])) (fun c => absurd (by decide) c) (P1 := fun _ _ => True) (fun c => absurd (by decide) c) (fun c => absurd (by decide) c)
  · rintro i b hi i2 k
    have hi31 : i < 2 ^ 31 := by omega
    refine rX3_pairs_4 t_h (fun c => absurd ((jn_le (a := 10) (by decide) hi31).mp c) (by omega)) (fun _ => vp_in_nI hi (by decide)) (fun _ => tX3_plainBehind t_h hs hm hi) (fun _ => ?_)
    rintro _ _ ⟨rfl, rfl⟩
    rw [← nI_succ]
    refine k _ ?_
    rw [i2, nI_clamp hi31, hm.2.1 i hi, pk_mul, nI_add, sPrFrom_more, List.length_append, sPr_len, Nat.zero_add]
theorem tX3_plainFrom (t_h : jI3 t) (hs : sProg p) (hm : isMends h t p) {s x : Nat} (hn : n ≤ 10) (hx : (sPlFrom p (10 - n) n)[s]? = some x) : JM mX3_plainFrom [.ref t, .int (nI n), .int (nI s)] (jG0 sc) h (jgets sc (nI x) h) := by
  refine jM_of rfl (Nat.le_of_ble_eq_true rfl) (by decide +kernel) rfl (rX3_plainFrom_0 t_h ?_)
  have key : ∀ (k i d : Nat), i + k = 10 → (sPlFrom p k i)[d]? = some x → WP mX3_plainFrom (jgets sc (nI x) h) 5 [some (.ref t), some (.int (nI n)), some (.int (nI s)), some (.int (nI d)), some (.int (nI i)), none] [] (jG0 sc) h (0, 0) := by
    intro k
    induction k with
    | zero => intro i d _ hd; rw [sPlFrom] at hd; simp at hd
    | succ k ih =>
      intro i d hk hd
      have hi31 : i < 2 ^ 31 := by omega
      have hi10 : i < 10 := by omega
      have vi : vp_in (nI i) 10 := vp_in_nI hi10 (by decide)
      have hdl : d < 28 * (k + 1) := Nat.lt_of_lt_of_le (List.getElem?_eq_some_iff.mp hd).1 (sPlFrom_28 hs (k + 1) i)
      have hpl := @sPlainN_28 i p hs
      have e6 : h (t + 6) ((nI i).toNatClampNeg) = nI (sPlainN p i) := by rw [nI_clamp hi31]; exact hm.2.1 i hi10
      have no : ¬ (10 : Int32) ≤ nI i := fun c => by have := (jn_le (a := 10) (by decide) hi31).mp c; omega
      have cle : h (t + 6) ((nI i).toNatClampNeg) ≤ nI d ↔ sPlainN p i ≤ d := by rw [e6, jn_le (by omega) (by omega)]
      rw [sPlFrom] at hd
      refine rX3_plainFrom_5 t_h (fun c => absurd c (nI_pos hi31)) (fun _ c => absurd c no) (fun _ _ => vi) (fun _ _ _ => vi) (fun _ _ c => ?_) (fun _ _ _ => vi) (fun _ _ c c2 => ?_) (fun _ _ _ _ => vi) (fun _ _ c c2 c3 => ?_) (fun _ _ c c2 c3 => ?_)
      · rw [cle] at c
        rw [e6, pk_sub c, ← nI_succ]
        refine ih (i + 1) _ (by omega) ?_
        rw [List.getElem?_append_right (by rw [sPl_len]; exact c), sPl_len] at hd
        exact hd
      all_goals
        rw [cle] at c
        have hip : i < p.length := Classical.byContradiction fun q => c (by unfold sPlainN; rw [if_neg q]; omega)
        rw [List.getElem?_append_left (by rw [sPl_len]; omega)] at hd
        unfold sPl at hd
        rw [List.getElem?_map, List.getElem?_range (by omega)] at hd
        have hd : sIx p i d = x := by simpa using hd
        obtain ⟨e4, e5⟩ := hm.2.2 i hip
        have hb := sMendsTo_28 hs (n := i) (by omega)
        have e4' : h (t + 4) ((nI i).toNatClampNeg) = nI (sMendsTo p i).length := by rw [nI_clamp hi31]; exact e4
        have e5' : h (t + 5) ((nI i).toNatClampNeg) = sMoveAt p i ((sMendsTo p i).length + (sAhead (p.getD i 4)).length) := by rw [nI_clamp hi31]; exact e5
        have hal : (sAhead (p.getD i 4)).length ≤ 28 := by have := sMendsAt_28 hs hip; rw [sMendsAt_len] at this; omega
        unfold sIx at hd
        rw [e5'] at c2
        unfold sMoveAt at c2
      · have hmv : sMove p i = [] := Classical.byContradiction fun q => by rw [if_neg q] at c2; exact nI_nm1 (by omega) c2
        exact jgets_i (by rw [e4', nI_add, ← hd, if_neg (fun q => q.1 hmv)])
      · have hmv : sMove p i ≠ [] := fun q => c2 (if_pos q)
        rw [e4', e5', nI_add, sMoveAt, if_neg hmv, jn_lt (by omega) (by omega)] at c3
        exact jgets_i (by rw [e4', nI_add, ← hd, if_neg (fun q => by omega)])
      · have hmv : sMove p i ≠ [] := fun q => c2 (if_pos q)
        rw [e4', e5', nI_add, sMoveAt, if_neg hmv, jn_lt (by omega) (by omega)] at c3
        exact jgets_i (by rw [e4', nI_add, ← hd, if_pos ⟨hmv, by omega⟩, ← nI_succ]; congr 1)
  exact key (10 - n) n s (by omega) hx
/-- of what a mend is made: two numbers, -1 for none -/
def sTwo (q : Option (Nat × Option Nat)) : Int32 × Int32 := match q with
  | none => (-1, -1)
  | some (a, none) => (nI a, -1)
  | some (a, some b) => (nI a, nI b)
abbrev fPart (t : Nat) : jF := ([], [(t, 7, 8)])
def partPost (t : Nat) (q : Option (Nat × Option Nat)) (h : jH) (r : Int32) (h' : jH) : Prop := r = sB (q.isSome = true) ∧ h' t 7 = (sTwo q).1 ∧ h' t 8 = (sTwo q).2 ∧ jfr (fPart t) h h'
theorem sAll_one {k : Nat} (hk : k < (sMends p).length) : (sAll (sMends p))[k]? = some (k, none) := by
  unfold sAll
  rw [List.getElem?_append_left (by rw [List.length_map, List.length_range]; exact hk), List.getElem?_map, List.getElem?_range hk]; rfl
theorem sAll_two {k : Nat} (hk : (sMends p).length ≤ k) : (sAll (sMends p))[k]? = (sPairs (sMends p))[k - (sMends p).length]? := by
  unfold sAll
  rw [List.getElem?_append_right (by rw [List.length_map, List.length_range]; exact hk), List.length_map, List.length_range]
theorem tX3_partN (t_h : jI3 t) (hs : sProg p) (hm : isMends h t p) : JM mX3_part [.ref t, .int (-1)] (jG0 sc) h (jint sc (partPost t none h)) := by
  have h280 := sMends_280 hs
  have e6 : (jput (jput h t 7 (-1)) t 8 (-1)) t 6 = nI (sMends p).length := by simp [jput]; exact hm.1.1
  have neg : (-1 : Int32) - nI (sMends p).length < 0 := by
    rw [toInt_lt_iff, toInt_sub' (by rw [nI_toInt (by omega)]; have : (-1 : Int32).toInt = -1 := rfl; omega) (by rw [nI_toInt (by omega)]; have : (-1 : Int32).toInt = -1 := rfl; omega), nI_toInt (by omega)]
    have : (-1 : Int32).toInt = -1 := rfl
    have : (0 : Int32).toInt = 0 := rfl
    omega
  refine jM_of rfl (Nat.le_of_ble_eq_true rfl) (by decide +kernel) rfl (rX3_part_0 t_h (fun _ => ?_) (fun c => absurd (by decide) c) (fun c => absurd (by decide) c))
  rw [e6]
  refine rX3_part_38 t_h (fun c => absurd c (by decide)) (fun _ _ => jint_i ⟨(sB_f (by decide)).symm, by simp [jput]; rfl, by simp [jput]; rfl, (jfr.rf.put (by rw [jin_iff]; simp)).put (by rw [jin_iff]; simp)⟩) (P1 := fun _ _ => True) (P2 := fun _ _ => True) (P3 := fun _ _ => True) (fun _ c => absurd neg c) (fun _ c => absurd neg c) (fun _ c => absurd neg c) (fun _ c => absurd neg c) (fun _ c => absurd neg c) (fun _ c => absurd neg c) (fun _ c => absurd neg c) (fun _ c => absurd neg c) (fun _ c => absurd neg c) (fun _ c => absurd neg c) (fun _ c => absurd neg c)
theorem tX3_part {k : Nat} (t_h : jI3 t) (hs : sProg p) (hm : isMends h t p) (hk : k < 2 ^ 31) : JM mX3_part [.ref t, .int (nI k)] (jG0 sc) h (jint sc (partPost t ((sAll (sMends p))[k]?) h)) := by
  have h280 := sMends_280 hs
  have e6 : (jput (jput h t 7 (-1)) t 8 (-1)) t 6 = nI (sMends p).length := by simp [jput]; exact hm.1.1
  refine jM_of rfl (Nat.le_of_ble_eq_true rfl) (by decide +kernel) rfl (rX3_part_0 t_h (fun c => absurd c (nI_pos hk)) (fun _ c => ?_) (fun _ c => ?_))
  all_goals rw [e6, jn_le (by omega) hk] at c
  · rw [e6, pk_sub c, sAll_two c, sPairs_lines hs]
    have hd31 : k - (sMends p).length < 2 ^ 31 := by omega
    generalize k - (sMends p).length = d0 at *
    have f0 : jfr (fPart t) h (jput (jput h t 7 (-1)) t 8 (-1)) := (jfr.rf.put (by rw [jin_iff]; simp)).put (by rw [jin_iff]; simp)
    have m0 : isMends (jput (jput h t 7 (-1)) t 8 (-1)) t p := (hm.put (by decide)).put (by decide)
    have q7 : (jput (jput h t 7 (-1)) t 8 (-1)) t 7 = -1 := by simp [jput]
    have q8 : (jput (jput h t 7 (-1)) t 8 (-1)) t 8 = -1 := by simp [jput]
    generalize jput (jput h t 7 (-1)) t 8 (-1) = h0 at *
    obtain ⟨X, hX⟩ : ∃ X, X = (sPrFrom p 10 0)[d0]? := ⟨_, rfl⟩
    rw [← hX]
    have key : ∀ (m i d : Nat), i + m = 10 → d < 2 ^ 31 → X = (sPrFrom p m i)[d]? → WP mX3_part (jint sc (partPost t (X) h)) 38 [some (.ref t), some (.int (nI k)), some (.int (nI d)), some (.int (nI i)), none] [] (jG0 sc) h0 (0, 0) := by
      intro m
      induction m with
      | zero =>
        intro i d hi hd e
        have hi : i = 10 := by omega
        subst hi
        rw [e]
        exact rX3_part_38 t_h (fun _ => jint_i ⟨(sB_f (by simp [sPrFrom])).symm, by rw [q7]; rfl, by rw [q8]; rfl, f0⟩) (fun c => absurd (by decide) c) (P1 := fun _ _ => True) (P2 := fun _ _ => True) (P3 := fun _ _ => True) (fun c => absurd (by decide) c) (fun c => absurd (by decide) c) (fun c => absurd (by decide) c) (fun c => absurd (by decide) c) (fun c => absurd (by decide) c) (fun c => absurd (by decide) c) (fun c => absurd (by decide) c) (fun c => absurd (by decide) c) (fun c => absurd (by decide) c) (fun c => absurd (by decide) c) (fun c => absurd (by decide) c)
      | succ m ih =>
        intro i d hi hd e
        have hi10 : i < 10 := by omega
        have hi31 : i < 2 ^ 31 := by omega
        have vi : vp_in (nI i) 10 := vp_in_nI hi10 (by decide)
        have hB := sPlFrom_28 hs (9 - i) (i + 1)
        have hP := @sPlainN_28 i p hs
        have hPr := @sPr_28 i p hs
        have no : ¬ (10 : Int32) ≤ nI i := fun c => by have := (jn_le (a := 10) (by decide) hi31).mp c; omega
        have p6 : h0 (t + 6) ((nI i).toNatClampNeg) = nI (sPlainN p i) := by rw [nI_clamp hi31]; exact m0.2.1 i hi10
        have prod : h0 (t + 6) ((nI i).toNatClampNeg) * nI (sPlFrom p (9 - i) (i + 1)).length = nI (sPr p i).length := by rw [p6, pk_mul, sPr_len]
        have z0 : nI (sPlFrom p (9 - i) (i + 1)).length ≤ 0 ↔ (sPlFrom p (9 - i) (i + 1)).length = 0 := by
          rw [show (0 : Int32) = nI 0 from rfl, jn_le (by omega) (by omega)]; omega
        rw [sPrFrom] at e
        refine rX3_part_38 t_h (fun c => absurd c no) (fun _ c => absurd c (nI_pos hd)) (fun _ _ => tX3_plainBehind t_h hs m0 hi10) (fun _ _ _ _ _ _ => vi) (fun _ _ => ?_) (fun _ _ _ _ _ _ => vi) (fun _ _ _ _ _ _ _ => vi) (fun _ _ => ?_) (fun _ _ => ?_)
          (P2 := fun x h' => x = nI ((sPlFrom p (10 - i) i).getD (d / (sPlFrom p (9 - i) (i + 1)).length) 0) ∧ h0 = h') (fun _ _ => ?_) (fun _ _ => ?_)
          (P3 := fun x h' => x = nI ((sPlFrom p (9 - i) (i + 1)).getD (d % (sPlFrom p (9 - i) (i + 1)).length) 0) ∧ jput h0 t 7 (nI ((sPlFrom p (10 - i) i).getD (d / (sPlFrom p (9 - i) (i + 1)).length) 0)) = h') (fun _ _ => ?_) (fun _ _ => ?_)
        all_goals rintro _ _ ⟨rfl, rfl⟩ c
        all_goals rw [z0] at c
        · rw [prod]
          have z : (sPr p i).length = 0 := by rw [sPr_len, c, Nat.mul_zero]
          rw [z, show nI d - nI 0 = nI d from Int32.sub_zero _, ← nI_succ]
          refine ih (i + 1) d (by omega) hd ?_
          rw [e, List.eq_nil_of_length_eq_zero z, List.nil_append]
        all_goals
          intro c2
          rw [prod, jn_le (by omega) hd] at c2
        · rw [prod, pk_sub c2, ← nI_succ]
          refine ih (i + 1) _ (by omega) (by omega) ?_
          rw [e, List.getElem?_append_right c2]
        · rw [show (0 : Int32) = nI 0 from rfl, jn_eq (by omega) (by decide)]; exact c
        all_goals
          have hBp : 0 < (sPlFrom p (9 - i) (i + 1)).length := Nat.pos_of_ne_zero c
          have hdl : d < sPlainN p i * (sPlFrom p (9 - i) (i + 1)).length := by rw [← sPr_len]; omega
          have hq : d / (sPlFrom p (9 - i) (i + 1)).length < sPlainN p i := by rw [Nat.div_lt_iff_lt_mul hBp]; exact hdl
          have hr := Nat.mod_lt d hBp
          have gA : (sPlFrom p (10 - i) i)[d / (sPlFrom p (9 - i) (i + 1)).length]? = some ((sPlFrom p (10 - i) i).getD (d / (sPlFrom p (9 - i) (i + 1)).length) 0) := by
            rw [List.getD_eq_getElem?_getD, List.getElem?_eq_getElem (by rw [show 10 - i = (9 - i) + 1 by omega, sPlFrom, List.length_append, sPl_len]; omega)]; rfl
          have gB : (sPlFrom p (9 - i) (i + 1))[d % (sPlFrom p (9 - i) (i + 1)).length]? = some ((sPlFrom p (9 - i) (i + 1)).getD (d % (sPlFrom p (9 - i) (i + 1)).length) 0) := by
            rw [List.getD_eq_getElem?_getD, List.getElem?_eq_getElem hr]; rfl
        · rw [pk_div hd hBp (by omega)]
          exact tX3_plainFrom t_h hs m0 (by omega) gA
        · rintro _ _ ⟨rfl, rfl⟩
          rw [show (0 : Int32) = nI 0 from rfl, jn_eq (by omega) (by decide)]; exact c
        · intro x2 h2 z2
          rw [← z2.2, z2.1, pk_rem hd hBp (by omega), ← nI_succ]
          exact tX3_plainFrom t_h hs (m0.put (by decide)) (by omega) (by rw [show 10 - (i + 1) = 9 - i by omega]; exact gB)
        · rintro _ _ ⟨rfl, rfl⟩ _ _ ⟨rfl, rfl⟩
          have gA2 : (sPl p i)[d / (sPlFrom p (9 - i) (i + 1)).length]? = some ((sPlFrom p (10 - i) i).getD (d / (sPlFrom p (9 - i) (i + 1)).length) 0) := by
            rw [← gA, show 10 - i = (9 - i) + 1 by omega, sPlFrom, List.getElem?_append_left (by rw [sPl_len]; exact hq)]
          have eg : X = some ((sPlFrom p (10 - i) i).getD (d / (sPlFrom p (9 - i) (i + 1)).length) 0, some ((sPlFrom p (9 - i) (i + 1)).getD (d % (sPlFrom p (9 - i) (i + 1)).length) 0)) := by
            rw [e, List.getElem?_append_left (by omega)]
            unfold sPr
            rw [grid_at _ _ hBp (by rw [sPl_len]; exact hdl), gA2, gB]; rfl
          rw [eg]
          refine jint_i ⟨(sB_t rfl).symm, ?_, ?_, ((f0.put (by rw [jin_iff]; simp)).put (by rw [jin_iff]; simp))⟩
          · simp [jput, sTwo]
          · simp [jput, sTwo]
    exact key 10 0 d0 (by omega) hd31 hX
  · rw [sAll_one (by omega)]
    refine jint_i ⟨(sB_t rfl).symm, by simp [jput, sTwo], by simp [jput, sTwo], ((jfr.rf.put (by rw [jin_iff]; simp)).put (by rw [jin_iff]; simp)).put (by rw [jin_iff]; simp)⟩
end PW
