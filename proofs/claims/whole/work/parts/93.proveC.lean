/-! Operations prove, bar: the class. -/
section PRC
variable {sc : Nat × (Nat → Int32)} {h : jH} {A : aA} {n : Nat} {p ls : List Int32} {T : aT} {f : Nat → Nat → Prop} {P : Nat → Prop}
def sBroke (p ls : List Int32) (x y : Nat) : Prop := ¬ (¬ 999999 < sEnd p (nI x) (nI y) ∧ sLawHolds ls (sEnd p (nI x) (nI y)) (nI x) (nI y))
noncomputable def sDbl (f : Nat → Nat → Prop) (b x : Nat) : Int32 := sTot (fun x => sTot (fun y => sB (f x y)) (b + 1)) x
def k0 : Nat → Nat → Nat := fun _ _ => 0
theorem pRow_keep {x v : Nat} {st : oP} : ∀ {y' y : Nat}, y ≤ y' → pRow f k0 x st y = some (v, 0) → pRow f k0 x st y' = some (v, 0) := by
  intro y'
  induction y' with
  | zero => intro y h e; rw [show y = 0 by omega] at e; exact e
  | succ y' ih =>
    intro y h e
    by_cases z : y = y' + 1
    · rw [← z]; exact e
    · rw [pRow, ih (by omega) e]; exact pStep_f (Nat.lt_irrefl 0)
theorem pBox_keep {b v : Nat} : ∀ {x' x : Nat}, x ≤ x' → pBox f k0 b x = some (v, 0) → pBox f k0 b x' = some (v, 0) := by
  intro x'
  induction x' with
  | zero => intro x h e; rw [show x = 0 by omega] at e; exact e
  | succ x' ih =>
    intro x h e
    by_cases z : x = x' + 1
    · rw [← z]; exact e
    · rw [pBox]; exact pRow_keep (y := 0) (Nat.zero_le _) (ih (by omega) e)
theorem pStep_0 {x y : Nat} {st : oP} (h : st = none ∨ ∃ v, st = some (v, 0)) : (st = none ∧ f x y ∧ pStep f k0 x y st = some (16 * x + y, 0)) ∨ (¬ (st = none ∧ f x y) ∧ pStep f k0 x y st = st) := by
  rcases h with e | ⟨v, e⟩
  · subst e
    by_cases c : f x y
    · exact Or.inl ⟨rfl, c, pStep_n c⟩
    · exact Or.inr ⟨fun q => c q.2, pStep_c c⟩
  · subst e
    exact Or.inr ⟨fun q => (by cases q.1), pStep_f (k := k0) (q := (v, 0)) (Nat.lt_irrefl 0)⟩
theorem pRow_sm {b x : Nat} {st : oP} {c : Nat → Nat → Prop} {k : Nat → Nat → Nat} (hx : x ≤ 20) (h : ∀ q, st = some q → q.1 < 400) : ∀ y, y ≤ 20 → ∀ q, pRow c k x st y = some q → q.1 < 400 := by
  intro y
  induction y with
  | zero => intro _; exact h
  | succ y ih =>
    intro hy q e
    rw [pRow] at e
    unfold pStep at e
    by_cases z : c x y ∧ ∀ q, pRow c k x st y = some q → k x y < q.2
    · rw [sIf_t z] at e; cases e; show 16 * x + y < 400; omega
    · rw [sIf_f z] at e; exact ih (by omega) q e
theorem pBox_sm {b : Nat} {c : Nat → Nat → Prop} {k : Nat → Nat → Nat} (hb : b ≤ 15) : ∀ x, x ≤ 20 → ∀ q, pBox c k b x = some q → q.1 < 400 := by
  intro x
  induction x with
  | zero => intro _ q e; cases e
  | succ x ih => intro hx; exact pRow_sm (b := b) (by omega) (ih (by omega)) (b + 1) (by omega)
theorem pVal_none {st : oP} (h : ∀ q, st = some q → q.1 < 400) : pVal st = -1 ↔ st = none := by
  cases st with
  | none => exact ⟨fun _ => rfl, fun _ => rfl⟩
  | some q => exact ⟨fun e => absurd e (nI_ne1 (by have := h q rfl; omega)), fun e => by cases e⟩
theorem tX11_breaksOn {x y : Nat} (hp : isP h 89 p) (hs : sProg p) (hl : isLaw h 18 ls) (ok : sLawOk ls) (hn : ls ≠ []) (h5 : h 69 5 = -1) :
    JM mX11_breaksOn [.ref 0, .ref 89, .int (nI x), .int (nI y)] (jG0 sc) h (jint sc (fun r h' => r = sB (sBroke p ls x y) ∧ jfr fWalk h h')) := by
  have b_h : jI4 89 := by unfold jI4; decide
  refine jM_of rfl (Nat.le_of_ble_eq_true rfl) (by decide +kernel) rfl (rX11_breaksOn_0 b_h (P1 := fun r h' => r = sEnd p (nI x) (nI y) ∧ jfr fWalk h h') (jM_int (tX10_end b_h (Or.inr (by decide)) hp hs h5) (fun r h' z => ⟨z.1, z.2.2.2.2⟩)) (P2 := fun r h' => r = sB (¬ 999999 < sEnd p (nI x) (nI y)) ∧ jfr fWalk h h') (fun x1 h1 z => by rw [z.1]; exact jM_get tX11_isNumber z.2)
    (fun _ _ _ x2 h2 w c => ?_) (P3 := fun r h' => r = sB (sLawHolds ls (sEnd p (nI x) (nI y)) (nI x) (nI y)) ∧ jfr fWalk h h') (fun _ _ z x2 h2 w c => ?_) (fun _ _ _ x2 h2 w c x3 h3 u d => ?_) (fun _ _ _ x2 h2 w c x3 h3 u d => ?_))
  all_goals rw [w.1] at c
  · rw [sB_eq] at c
    exact jint_i ⟨(sB_t (c := sBroke p ls x y) (fun q => c q.1)).symm, w.2⟩
  · rw [z.1]
    exact jM_get (tX1_holds (hl.fr w.2 rfl (fun _ => rfl)) ok hn) w.2
  all_goals rw [sB_ne] at c; rw [u.1] at d
  · rw [sB_ne] at d
    exact jint_i ⟨(sB_f (c := sBroke p ls x y) (fun q => q ⟨c, d⟩)).symm, u.2⟩
  · rw [sB_eq] at d
    exact jint_i ⟨(sB_t (c := sBroke p ls x y) (fun q => d q.2)).symm, u.2⟩
theorem isP.w89 {h1 : jH} (hp : isP h 89 p) (f : jfr fWalk h h1) : isP h1 89 p := hp.walk f (Or.inr (by decide))
theorem isLaw.w {h1 : jH} (hl : isLaw h 18 ls) (f : jfr fWalk h h1) : isLaw h1 18 ls := hl.fr f rfl (fun _ => rfl)
theorem tX11_breaks {b : Nat} (hb : b ≤ 15) (eb : h 9 8 = nI b) (hp : isP h 89 p) (hs : sProg p) (hl : isLaw h 18 ls) (ok : sLawOk ls) (hn : ls ≠ []) (h5 : h 69 5 = -1) :
    JM mX11_breaks [.ref 0, .ref 89] (jG0 sc) h (jint sc (fun r h' => r = sDbl (sBroke p ls) b (b + 1) ∧ jfr fWalk h h')) := by
  have b_h : jI4 89 := by unfold jI4; decide
  refine jM_of rfl (Nat.le_of_ble_eq_true rfl) (by decide +kernel) rfl (rX11_breaks_0 b_h ?_)
  refine jloop2 (fun x (h1 : jH) (v : Int32) => WP mX11_breaks _ 4 [some (.ref 0), some (.ref 89), some (.int v), some (.int (nI x)), none] [] (jG0 sc) h1 (0, 0))
    (fun x h1 v => v = sDbl (sBroke p ls) b x ∧ jfr fWalk h h1) (b + 1) ?_ ?_ 0 h 0 (by omega) ⟨rfl, jfr.rf⟩
  · rintro h1 v ⟨i1, f⟩
    exact rX11_breaks_4 b_h (fun _ => jint_i ⟨i1, f⟩) (fun c => absurd (by rw [(f 9 8 rfl).trans eb, jn_lt (by omega) (by omega)]; omega) c)
  · rintro x h1 v hx ⟨i1, f⟩ kk
    refine rX11_breaks_4 b_h (fun c => absurd c (by rw [(f 9 8 rfl).trans eb, jn_lt (by omega) (by omega)]; omega)) (fun _ => ?_)
    refine jloop2 (fun y (h2 : jH) (v : Int32) => WP mX11_breaks _ 18 [some (.ref 0), some (.ref 89), some (.int v), some (.int (nI x)), some (.int (nI y))] [] (jG0 sc) h2 (0, 0))
      (fun y h2 v => v = sDbl (sBroke p ls) b x + sTot (fun y => sB (sBroke p ls x y)) y ∧ jfr fWalk h h2) (b + 1) ?_ ?_ 0 h1 v (by omega) ⟨by rw [i1]; exact (Int32.add_zero _).symm, f⟩
    · rintro h2 v2 ⟨j1, f2⟩
      have lt : h2 9 8 < nI (b + 1) := by rw [(f2 9 8 rfl).trans eb, jn_lt (by omega) (by omega)]; omega
      refine rX11_breaks_18 b_h (fun _ => ?_) (P1 := fun _ _ => True) (fun c => absurd lt c) (fun c => absurd lt c) (fun c => absurd lt c)
      rw [← nI_succ]
      exact kk h2 v2 ⟨j1, f2⟩
    · rintro y h2 v2 hy ⟨j1, f2⟩ kk2
      have nlt : ¬ h2 9 8 < nI y := by rw [(f2 9 8 rfl).trans eb, jn_lt (by omega) (by omega)]; omega
      refine rX11_breaks_18 b_h (fun c => absurd c nlt) (fun _ => tX11_breaksOn (x := x) (y := y) (hp.w89 f2) hs (hl.w f2) ok hn ((f2 69 5 rfl).trans h5)) (fun _ x1 h3 z c => ?_) (fun _ x1 h3 z c => ?_)
      all_goals
        rw [z.1] at c
        rw [← nI_succ]
        refine kk2 h3 _ ⟨?_, f2.tr2 z.2⟩
        rw [j1, sTot, Int32.add_assoc]
      · rw [sB_eq] at c; rw [sB_f c]
      · rw [sB_ne] at c; rw [sB_t c]
theorem tX11_firstBreak {b : Nat} (hb : b ≤ 15) (eb : h 9 8 = nI b) (hp : isP h 89 p) (hs : sProg p) (hl : isLaw h 18 ls) (ok : sLawOk ls) (hn : ls ≠ []) (h5 : h 69 5 = -1) :
    JM mX11_firstBreak [.ref 0, .ref 89] (jG0 sc) h (jint sc (fun r h' => r = pVal (pBox (sBroke p ls) k0 b (b + 1)) ∧ jfr fWalk h h')) := by
  have b_h : jI4 89 := by unfold jI4; decide
  refine jM_of rfl (Nat.le_of_ble_eq_true rfl) (by decide +kernel) rfl (rX11_firstBreak_0 b_h ?_)
  refine jloop (fun x (h1 : jH) => WP mX11_firstBreak _ 2 [some (.ref 0), some (.ref 89), some (.int (nI x)), none] [] (jG0 sc) h1 (0, 0))
    (fun x h1 => pBox (sBroke p ls) k0 b x = none ∧ jfr fWalk h h1) (b + 1) ?_ ?_ 0 h (by omega) ⟨rfl, jfr.rf⟩
  · rintro h1 ⟨i1, f⟩
    exact rX11_firstBreak_2 b_h (fun _ => jint_i ⟨by rw [i1]; rfl, f⟩) (fun c => absurd (by rw [(f 9 8 rfl).trans eb, jn_lt (by omega) (by omega)]; omega) c)
  · rintro x h1 hx ⟨i1, f⟩ kk
    refine rX11_firstBreak_2 b_h (fun c => absurd c (by rw [(f 9 8 rfl).trans eb, jn_lt (by omega) (by omega)]; omega)) (fun _ => ?_)
    refine jloop (fun y (h2 : jH) => WP mX11_firstBreak _ 15 [some (.ref 0), some (.ref 89), some (.int (nI x)), some (.int (nI y))] [] (jG0 sc) h2 (0, 0))
      (fun y h2 => pRow (sBroke p ls) k0 x (pBox (sBroke p ls) k0 b x) y = none ∧ jfr fWalk h h2) (b + 1) ?_ ?_ 0 h1 (by omega) ⟨i1, f⟩
    · rintro h2 ⟨j1, f2⟩
      have lt : h2 9 8 < nI (b + 1) := by rw [(f2 9 8 rfl).trans eb, jn_lt (by omega) (by omega)]; omega
      refine rX11_firstBreak_15 b_h (fun _ => ?_) (P1 := fun _ _ => True) (fun c => absurd lt c) (fun c => absurd lt c) (fun c => absurd lt c)
      rw [← nI_succ]
      exact kk h2 ⟨j1, f2⟩
    · rintro y h2 hy ⟨j1, f2⟩ kk2
      have nlt : ¬ h2 9 8 < nI y := by rw [(f2 9 8 rfl).trans eb, jn_lt (by omega) (by omega)]; omega
      refine rX11_firstBreak_15 b_h (fun c => absurd c nlt) (fun _ => tX11_breaksOn (x := x) (y := y) (hp.w89 f2) hs (hl.w f2) ok hn ((f2 69 5 rfl).trans h5)) (fun _ x1 h3 z c => ?_) (fun _ x1 h3 z c => ?_)
      all_goals rw [z.1] at c
      · rw [sB_eq] at c
        rw [← nI_succ]
        exact kk2 h3 ⟨by rw [pRow, j1]; exact pStep_c c, f2.tr2 z.2⟩
      · rw [sB_ne] at c
        rw [pk16 (by omega) (by omega)]
        refine jint_i ⟨?_, f2.tr2 z.2⟩
        have e1 : pRow (sBroke p ls) k0 x (pBox (sBroke p ls) k0 b x) (y + 1) = some (16 * x + y, 0) := by rw [pRow, j1]; exact pStep_n c
        have e2 : pBox (sBroke p ls) k0 b (x + 1) = some (16 * x + y, 0) := by rw [pBox]; exact pRow_keep (by omega) e1
        rw [pBox_keep (show x + 1 ≤ b + 1 by omega) e2]; rfl
noncomputable def sProveV (p ls : List Int32) (b : Nat) (o : Bool) : Int32 := match o with
  | true => pVal (pBox (sBroke p ls) k0 b (b + 1))
  | false => sDbl (sBroke p ls) b (b + 1)
noncomputable def oProve (A : aA) (i : Int32) (o : Bool) : aO := sIf (aIx i (aKept A).length) (sIf (aLaw (xS A) = []) (2, 0, A) (0, sProveV (sShape (aBody (xS A)) ((aKept A).getD i.toNatClampNeg 0)) (aLaw (xS A)) (aBox (xS A)) o, A)) (1, 0, A)
theorem isLaw.nil (hl : isLaw h 18 ls) (h4 : ls.length ≤ 400) : h 18 1 = 0 ↔ ls = [] := by
  rw [hl.1, show (0 : Int32) = nI 0 from rfl, jn_eq (by omega) (by omega)]
  exact List.length_eq_zero_iff
abbrev eProve : List String := ["java/lang/IndexOutOfBoundsException", "java/lang/IllegalStateException"]
theorem ccProve {i z : Int32} {o : Bool} (hz : z = if o then 1 else 0) (ok : aOk n A) (k : RC h A) : JM mX11_prove [.ref 0, .int i, .int z] (jG0 sc) h (cQ sc eProve (oProve A i o) h) := by
  have b_h : jI4 89 := by unfold jI4; decide
  have h15 : aBox (xS A) ≤ 15 := ok.1.2.2.2.2.2.2.2
  have okl := ok.1.2.2.2.1
  have hl : isLaw h 18 (aLaw (xS A)) := k.1.2.2.2.1
  have zo : (z = 0 ↔ o = false) := by subst hz; cases o <;> decide
  generalize hsh : sShape (aBody (xS A)) ((aKept A).getD i.toNatClampNeg 0) = sh
  have osh : sProg sh := by rw [← hsh]; exact sProg_sh ok.1.1
  have yes : ∀ {x1 : Int32}, x1 = sIf (aIx i (aKept A).length) (nI ((aKept A).getD i.toNatClampNeg 0)) (-1) → ¬ x1 = -1 → aIx i (aKept A).length := fun e c => by rw [e, kn_ne ok, Classical.not_not] at c; exact c
  have fin : ∀ {v : Int32} {h2 : jH} {o' : Bool}, o = o' → aIx i (aKept A).length → ¬ h 18 1 = 0 → v = sProveV sh (aLaw (xS A)) (aBox (xS A)) o' → jfr fCs h h2 → cQ sc eProve (oProve A i o) h (.inl (some (.int v))) (jG0 sc) h2 := fun eo q c e f => by
    subst eo
    rw [oProve, sIf_t q, sIf_f (fun q => c ((hl.nil okl.2.2.1).mpr q)), hsh, e]; exact cQ_q ok k f
  refine jM_of rfl (Nat.le_of_ble_eq_true rfl) (by decide +kernel) rfl (rX11_prove_0 (tX11_keptNumber ok k) (P2 := fun _ h' => isP h' 89 sh ∧ jfr fCs h h') ?_ (P3 := fun r h' => r = sDbl (sBroke sh (aLaw (xS A))) (aBox (xS A)) (aBox (xS A) + 1) ∧ jfr fCs h h') ?_ ?_ (P4 := fun r h' => r = pVal (pBox (sBroke sh (aLaw (xS A))) k0 (aBox (xS A)) (aBox (xS A) + 1)) ∧ jfr fCs h h') ?_ ?_ ?_ ?_)
  · rintro _ _ ⟨e, rfl⟩ c _
    have q := yes e c
    rw [e, sIf_t q, ← hsh]
    exact jM_int (tX3_kept b_h (Or.inr (by decide)) (Or.inr (by decide)) ok k.2.2.2.2.2 k.1.1 q) (fun x h' y => ⟨y.1, y.2.mono rfl⟩)
  · rintro _ _ ⟨e, rfl⟩ c c2 x2 h2 y c3
    have k2 := k.fr ok y.2
    exact jM_int (tX11_breaks h15 k2.1.2.2.2.2.2.2.2 y.1 osh k2.1.2.2.2.1 okl (fun q => c2 ((hl.nil okl.2.2.1).mpr q)) k2.2.2.2.2.1) (fun r h' w => ⟨w.1, y.2.tr2 (fWalk_Cs w.2)⟩)
  · rintro _ _ ⟨e, rfl⟩ c c2 x2 h2 - c3 x3 h3 w
    exact fin (zo.mp c3) (yes e c) c2 w.1 w.2
  · rintro _ _ ⟨e, rfl⟩ c c2 x2 h2 y c3
    have k2 := k.fr ok y.2
    exact jM_int (tX11_firstBreak h15 k2.1.2.2.2.2.2.2.2 y.1 osh k2.1.2.2.2.1 okl (fun q => c2 ((hl.nil okl.2.2.1).mpr q)) k2.2.2.2.2.1) (fun r h' w => ⟨w.1, y.2.tr2 (fWalk_Cs w.2)⟩)
  · rintro _ _ ⟨e, rfl⟩ c c2 x2 h2 - c3 x3 h3 w
    exact fin (o' := true) (by rw [zo] at c3; cases o <;> simp_all) (yes e c) c2 w.1 w.2
  · rintro _ _ ⟨e, rfl⟩ c c2
    rw [oProve, sIf_t (yes e c), sIf_t ((hl.nil okl.2.2.1).mp c2)]; exact cQ_x rfl k (fun _ _ => rfl)
  · rintro _ _ ⟨e, rfl⟩ c
    rw [e, kn_ne ok] at c
    rw [oProve, sIf_f c]; exact cQ_x rfl k (fun _ _ => rfl)
/-! bar -/
def uBa (T : aT) (x : Int32) : aT := (tKept T, tTried T, tAll T, tPleased T, x, tRows T)
noncomputable def tBar (T : aT) (P : Nat → Prop) : aT := uBa (uKept T (sFilt P (tKept T))) (tBarred T + nI ((tKept T).length - (sFilt P (tKept T)).length))
/-- the law holds on all of the box -/
def sHoldsAll (A : aA) (k : Nat) : Prop := pBox (sBroke (sShape (aBody (xS A)) k) (aLaw (xS A))) k0 (aBox (xS A)) (aBox (xS A) + 1) = none
noncomputable def oBar (A : aA) : aO := sIf (aLaw (xS A) = []) (1, 0, A) (0, nI ((aKept A).length - (sFilt (sHoldsAll A) (aKept A)).length), uS A (uTr (xS A) (tBar (aTr (xS A)) (sHoldsAll A))))
theorem okBar (ok : aOk n A) : aOk n (oBar A).2.2 := by
  unfold oBar
  by_cases q : aLaw (xS A) = []
  · rw [sIf_t q]; exact ok
  · rw [sIf_f q]
    have o := ok.1.2.2.2.2.1
    exact okTr ok ⟨Nat.le_trans sFilt_len o.1, fun k hk => o.2.1 k (sFilt_mem hk), o.2.2.1, o.2.2.2⟩
theorem ccBar (ok : aOk n A) (k : RC h A) : JM mX11_bar [.ref 0] (jG0 sc) h (cQ sc ["java/lang/IllegalStateException"] (oBar A) h) := by
  have b_h : jI4 89 := by unfold jI4; decide
  have h30 : (aKept A).length ≤ 30 := ok.1.2.2.2.2.1.1
  have h15 : aBox (xS A) ≤ 15 := ok.1.2.2.2.2.2.2.2
  have okl := ok.1.2.2.2.1
  have hl : isLaw h 18 (aLaw (xS A)) := k.1.2.2.2.1
  obtain ⟨e1, e2, e3, e4, e5, e6, e7, e8⟩ := k.1.2.2.2.2.1
  have e1 : h 20 1 = nI (aKept A).length := e1
  have e2 : ∀ i, i < (aKept A).length → h 21 i = nI ((aKept A).getD i 0) := e2
  refine jM_of rfl (Nat.le_of_ble_eq_true rfl) (by decide +kernel) rfl (rX11_bar_0 (fun cl => ?_) (fun cl => ?_))
  · have ln : aLaw (xS A) ≠ [] := fun q => cl ((hl.nil okl.2.2.1).mpr q)
    have eo : oBar A = (0, nI ((aKept A).length - (sFilt (sHoldsAll A) (aKept A)).length), uS A (uTr (xS A) (tBar (aTr (xS A)) (sHoldsAll A)))) := by rw [oBar, sIf_f ln]
    rw [eo]
    generalize hP : sHoldsAll A = P
    refine jloop2 (fun i (h2 : jH) (s : Nat) => WP mX11_bar _ 39 [some (.ref 0), some (.ref 20), some (.int (nI (i - s))), some (.int (nI s)), some (.int (nI i))] [] (jG0 sc) h2 (0, 0))
      (fun i h2 s => s = (sFilt P ((aKept A).take i)).length ∧ jfr ([(3, 8), (21, 21), (70, 74), (82, 158)], [(1, 2, 5), (69, 2, 4), (69, 6, 11), (75, 7, 8)]) h h2 ∧ (∀ j, j < s → h2 21 j = nI ((sFilt P ((aKept A).take i)).getD j 0)) ∧ ∀ j, i ≤ j → j < (aKept A).length → h2 21 j = nI ((aKept A).getD j 0)) (aKept A).length ?_ ?_ 0 h 0 (by omega) ⟨rfl, jfr.rf, fun j hj => absurd hj (by omega), fun j _ hj => e2 j hj⟩
    · rintro h2 s ⟨i1, f, i2, i3⟩
      rw [List.take_length] at i1 i2
      have e1' : h2 20 1 = nI (aKept A).length := (f 20 1 rfl).trans e1
      have le : h2 20 1 ≤ nI (aKept A).length := by rw [e1']; exact nI_le (Nat.le_refl _) (by omega)
      refine rX11_bar_39 (fun _ => ?_) (fun c => absurd le c) (fun c => absurd le c) (P1 := fun _ _ => True) (P2 := fun _ _ => True) (fun c => absurd le c) (fun c => absurd le c) (fun c => absurd le c) (fun c => absurd le c) (fun c => absurd le c) (fun c => absurd le c)
      have f3 : jfr ([(3, 8), (21, 21), (70, 74), (82, 158)], [(1, 2, 5), (20, 1, 1), (20, 5, 5), (69, 2, 4), (69, 6, 11), (75, 7, 8)]) h (jput (jput h2 20 1 (nI s)) 20 5 (jput h2 20 1 (nI s) 20 5 + nI ((aKept A).length - s))) := ((f.mono rfl).put rfl).put rfl
      have ev : nI ((aKept A).length - s) = nI ((aKept A).length - (sFilt P (aKept A)).length) := by rw [i1]
      rw [← ev]
      refine cQ_v (RC_tr2 k ok (f3.mono rfl) ⟨?_, fun i hi => ?_, (f3 20 2 rfl).trans e3, (f3 20 3 rfl).trans e4, (f3 20 4 rfl).trans e5, ?_, (f3 20 9 rfl).trans e7, fun i hi => ?_⟩) (fC.of f3 ⟨rfl, rfl⟩)
      · rw [jput_sl (by decide), jput_at, i1]; rfl
      · have hi' : i < (sFilt P (aKept A)).length := hi
        exact i2 i (by omega)
      · rw [jput_at, jput_sl (by decide), show h2 20 5 = _ from (f 20 5 rfl).trans e6, i1]; rfl
      · obtain ⟨a, b, c⟩ := e8 i hi
        exact ⟨(f3 22 i rfl).trans a, (f3 23 i rfl).trans b, (f3 24 i rfl).trans c⟩
    · rintro i h2 s hi ⟨i1, f, i2, i3⟩ kk
      have hsi : s ≤ i := by rw [i1]; refine Nat.le_trans sFilt_len ?_; rw [List.length_take]; omega
      have e1' : h2 20 1 = nI (aKept A).length := (f 20 1 rfl).trans e1
      have nle : ¬ h2 20 1 ≤ nI i := by rw [e1', jn_le (by omega) (by omega)]; omega
      have nle2 : ¬ (30 : Int32) ≤ nI i := fun c => by have := (jn_le (a := 30) (by decide) (by omega)).mp c; omega
      have q : aIx (nI i) (aKept A).length := ⟨i, hi, rfl⟩
      have eK : (nI i).toNatClampNeg = i := nI_clamp (by omega)
      have e21 : h2 21 i = nI ((aKept A).getD i 0) := i3 i (Nat.le_refl _) hi
      have fk : jfr fCk h h2 := f.mono rfl
      have hp2 : isP h2 10 (aBody (xS A)) := k.1.1.fr f rfl (fun _ => rfl)
      have eP : P ((aKept A).getD i 0) ↔ pVal (pBox (sBroke (sShape (aBody (xS A)) ((aKept A).getD i 0)) (aLaw (xS A))) k0 (aBox (xS A)) (aBox (xS A) + 1)) = -1 := by
        rw [← hP, pVal_none (pBox_sm h15 _ (by omega))]; exact Iff.rfl
      refine rX11_bar_39 (fun c => absurd c nle) (fun _ c => absurd c nle2) (fun _ _ => vp_in_nI (by omega) (by decide))
        (P1 := fun _ h' => isP h' 89 (sShape (aBody (xS A)) ((aKept A).getD i 0)) ∧ jfr ([(3, 8), (21, 21), (70, 74), (82, 158)], [(1, 2, 5), (69, 2, 4), (69, 6, 11), (75, 7, 8)]) h h' ∧ h' 21 = h2 21) (fun _ _ => ?_)
        (P2 := fun x h' => x = pVal (pBox (sBroke (sShape (aBody (xS A)) ((aKept A).getD i 0)) (aLaw (xS A))) k0 (aBox (xS A)) (aBox (xS A) + 1)) ∧ jfr ([(3, 8), (21, 21), (70, 74), (82, 158)], [(1, 2, 5), (69, 2, 4), (69, 6, 11), (75, 7, 8)]) h h' ∧ h' 21 = h2 21) (fun _ _ x1 h3 z => ?_) (fun _ _ x1 h3 _ x2 h4 z c => ?_) (fun _ _ _ _ _ _ _ _ _ => vp_in_nI (by omega) (by decide)) (fun _ _ _ _ _ _ _ _ _ => vp_in_nI (by omega) (by decide)) (fun _ _ x1 h3 _ x2 h4 z c => ?_)
      · rw [eK, e21]
        have := tX3_kept (sc := sc) b_h (Or.inr (by decide)) (Or.inr (by decide)) ok (mends_fCk k.2.2.2.2.2 fk) hp2 q
        rw [eK] at this
        exact jM_int this (fun x h' y => ⟨y.1, f.tr2 (y.2.mono rfl), y.2.cell (fun _ => rfl)⟩)
      · exact jM_int (tX11_firstBreak h15 ((z.2.1 9 8 rfl).trans k.1.2.2.2.2.2.2.2) z.1 (sProg_sh ok.1.1) (hl.fr z.2.1 rfl (fun _ => rfl)) okl ln ((z.2.1 69 5 rfl).trans k.2.2.2.2.1)) (fun x h' y => ⟨y.1, z.2.1.tr2 (y.2.mono rfl), (y.2.cell (fun _ => rfl)).trans z.2.2⟩)
      · rw [z.1] at c
        have nP : ¬ P ((aKept A).getD i 0) := fun w => c (eP.mp w)
        have eF : sFilt P ((aKept A).take (i + 1)) = sFilt P ((aKept A).take i) := by rw [take_at hi, sFilt_app, sFilt_f nP]; exact List.append_nil _
        rw [← nI_succ, ← nI_succ, show i - s + 1 = i + 1 - s by omega]
        refine kk h4 s ⟨by rw [eF]; exact i1, z.2.1, fun j hj => ?_, fun j a b => ?_⟩
        · rw [eF, z.2.2]; exact i2 j hj
        · rw [z.2.2]; exact i3 j (by omega) b
      · rw [z.1] at c
        have yP : P ((aKept A).getD i 0) := eP.mpr c
        have eF : sFilt P ((aKept A).take (i + 1)) = sFilt P ((aKept A).take i) ++ [(aKept A).getD i 0] := by rw [take_at hi, sFilt_app, sFilt_t yP]; rfl
        rw [← nI_succ, ← nI_succ, eK, nI_clamp (by omega), z.2.2, e21, show i - s = i + 1 - (s + 1) by omega]
        refine kk _ (s + 1) ⟨by rw [eF, List.length_append, List.length_singleton]; omega, z.2.1.put (by rw [jin_iff]; simp), fun j hj => ?_, fun j a b => ?_⟩
        · rw [eF, getD_ap1]
          by_cases w : j = s
          · rw [w, jput_at, if_neg (by omega), if_pos i1]
          · rw [jput_sl w, if_pos (show j < (sFilt P ((aKept A).take i)).length by omega), z.2.2]; exact i2 j (by omega)
        · rw [jput_sl (by omega), z.2.2]; exact i3 j (by omega) b
  · rw [oBar, sIf_t ((hl.nil okl.2.2.1).mp cl)]; exact cQ_x rfl k (fun _ _ => rfl)
end PRC
