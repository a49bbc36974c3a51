/-! Operation mend. -/
section OP5
variable {sc : Nat × (Nat → Int32)} {h : jH} {A : aA} {n : Nat} {p q : List Int32} {rs : List aRun}
theorem tBits {x : Int32} : JM mJbitCount [.int x] (jG0 sc) h (jgets sc (jbits x) h) := jM_mono jbitCount_ok (fun o Γ' h' z => by obtain ⟨a, b, c⟩ := z; exact ⟨_, a, b, rfl, c.symm⟩)
theorem sAll_1 {ms : List sMd} {m : Nat} (hm : m < ms.length) : (sAll ms)[m]? = some (m, none) := by
  unfold sAll
  rw [List.getElem?_append_left (by simpa using hm)]
  simp [hm]
theorem sAll_len {ms : List sMd} : ms.length ≤ (sAll ms).length := by unfold sAll; simp
/-- the runs that a mend turns -/
noncomputable def sTurned (p : List Int32) (rs : List aRun) (m : Nat) (w : Bool) : Int32 := sBits (fun i => ¬ (sRightAt p rs i ↔ w = true) ∧ (sRightAt (sBy p (m, none)) rs i ↔ w = true)) rs.length
theorem sBits_diff {f g : Nat → Prop} {n : Nat} (hn : n ≤ 32) : sBits f n &&& (sBits g n ^^^ (-1)) = sBits (fun i => f i ∧ ¬ g i) n := by
  refine b_ext fun i hi => ?_
  rw [Bool.eq_iff_iff, b_and, b_xor, b_m1 i hi, Bool.and_eq_true, bt_sBits hn hi, bt_sBits hn hi]
  have : (bt (sBits g n) i ^^ true) = true ↔ ¬ (i < n ∧ g i) := by
    rw [← bt_sBits hn hi]
    cases bt (sBits g n) i <;> simp
  rw [this]
  constructor
  · rintro ⟨⟨a, b⟩, c⟩; exact ⟨a, b, fun z => c ⟨a, z⟩⟩
  · rintro ⟨a, b, c⟩; exact ⟨⟨a, b⟩, fun z => c z.2⟩
theorem sTurned_t {m : Nat} (h12 : rs.length ≤ 12) : sRightBits (sBy p (m, none)) rs &&& (sRightBits p rs ^^^ (-1)) = sTurned p rs m true := by
  rw [sRightBits, sRightBits, sBits_diff (by omega)]
  exact sBits_congr (fun i _ => by simp; exact And.comm)
theorem sTurned_f {m : Nat} (h12 : rs.length ≤ 12) : sRightBits p rs &&& (sRightBits (sBy p (m, none)) rs ^^^ (-1)) = sTurned p rs m false := by
  rw [sRightBits, sRightBits, sBits_diff (by omega)]
  exact sBits_congr (fun i _ => by simp)
/-- what is listed -/
def isML (h : jH) (p : List Int32) : Prop := isMP (h 170) 0 p ∧ mML h p (sMends p)
theorem isML.fr {F : jF} {h h' : jH} (k : isML h p) (f : jfr F h h') (h0 : jin F 159 26 = false) (g1 : ∀ j, jin F 170 j = false) (g2 : ∀ j, jin F 171 j = false) (g3 : ∀ j, jin F 172 j = false) (g4 : ∀ j, jin F 173 j = false) : isML h' p := by
  obtain ⟨k1, k2, k3⟩ := k
  refine ⟨by rw [f.cell g1]; exact k1, (f _ _ h0).trans k2, fun i hi => ?_⟩
  rw [f.cell g2, f.cell g3, f.cell g4]
  exact k3 i hi
theorem tX12_listed (hp : isMP (h 160) 0 p) (hs : sProg p) : JM mX12_listsBody [.ref 159] (jG0 sc) h (jvoid sc (fun h' => isML h' p ∧ jfr fLists h h')) := jM_void (tX12_listsBody hp hs) (fun h' z => ⟨⟨z.1, z.2.1⟩, z.2.2⟩)
theorem tX12_lays1 {m : Nat} (k : isML h p) (hs : sProg p) (hm : m < (sMends p).length) : JM mX12_laysBy [.ref 159, .int (nI m), .int (-1)] (jG0 sc) h (jvoid sc (fun h' => isMP (h' 167) 0 (sBy p (m, none)) ∧ jfr fProg h h')) :=
  tX12_laysBy (z := (m, none)) k.1 hs k.2 hm (fun d e => by cases e)
abbrev fTurn : jF := ([(167, 169)], [(159, 19, 21)])
theorem isMRuns.eq160 {h' : jH} (k : isMRuns (h 160) rs) (f : h' 160 = h 160) : isMRuns (h' 160) rs := by rw [f]; exact k
theorem sProg_1 {m : Nat} (hs : sProg p) (hm : m < (sMends p).length) : sProg (sBy p (m, none)) := sProg_by hs hm (fun d e => by cases e)
theorem tX12_turned {m : Nat} {w : Bool} {wi : Int32} (hw : wi = if w then 1 else 0) (k : isML h p) (hs : sProg p) (hr : isMRuns (h 160) rs) (h12 : rs.length ≤ 12) (hm : m < (sMends p).length) :
    JM mX12_turned [.ref 159, .int (nI m), .int wi] (jG0 sc) h (jint sc (fun r h' => r = sTurned p rs m w ∧ jfr fTurn h h')) := by
  have s1 : ∀ {h1 h2 : jH}, jfr fGoes h1 h2 → jfr fTurn h1 h2 := fun f => f.mono rfl
  have s2 : ∀ {h1 h2 : jH}, jfr fProg h1 h2 → jfr fTurn h1 h2 := fun f => f.mono rfl
  have kf : ∀ {h1 : jH}, jfr fTurn h h1 → isML h1 p := fun f => k.fr f rfl (fun _ => rfl) (fun _ => rfl) (fun _ => rfl) (fun _ => rfl)
  have rf : ∀ {h1 : jH}, jfr fTurn h h1 → isMRuns (h1 160) rs := fun f => hr.eq160 (f.cell (fun _ => rfl))
  refine jM_of rfl (Nat.le_of_ble_eq_true rfl) (by decide +kernel) rfl (bX12_turned_0 ?_)
  refine jloop2 (fun i (h1 : jH) (b : Int32) => WP mX12_turned _ 5 [some (.ref 159), some (.int (nI m)), some (.int wi), some (.int b), some (.int (nI i)), none] [] (jG0 sc) h1 (0, 0))
    (fun i h1 b => b = sBits (fun i => ¬ (sRightAt p rs i ↔ w = true) ∧ (sRightAt (sBy p (m, none)) rs i ↔ w = true)) i ∧ jfr fTurn h h1) rs.length ?_ ?_ 0 h 0 (by omega) ⟨rfl, jfr.rf⟩
  · rintro h1 b ⟨i1, i2⟩
    have e3 : h1 160 122 = nI rs.length := (rf i2).1
    exact bX12_turned_5 (fun _ => bX12_turned_68 (jint_i ⟨i1, i2⟩)) (fun c => absurd (by rw [e3]; exact nI_le (Nat.le_refl _) (by omega)) c)
  · rintro i h1 b hi ⟨i1, i2⟩ kk
    have e3 : h1 160 122 = nI rs.length := (rf i2).1
    have no : ¬ h1 160 122 ≤ nI i := by rw [e3, jn_le (by omega) (by omega)]; omega
    have same : ∀ {x : Int32} {c : Prop}, x = sB c → (x = wi ↔ (c ↔ w = true)) := by
      intro x c e
      subst hw
      by_cases g : c <;> cases w <;> simp [e, sB_t, sB_f, g]
    have nxt : ∀ {h2 : jH} {x : Option Value} {b' : Int32}, jfr fTurn h h2 → b ||| b' = sBits (fun i => ¬ (sRightAt p rs i ↔ w = true) ∧ (sRightAt (sBy p (m, none)) rs i ↔ w = true)) (i + 1) → WP mX12_turned (jint sc (fun r h' => r = sTurned p rs m w ∧ jfr fTurn h h')) 5 [some (.ref 159), some (.int (nI m)), some (.int wi), some (.int (b ||| b')), some (.int (nI i + 1)), none] [] (jG0 sc) h2 (0, 0) := fun f e => by
      rw [← nI_succ]; exact kk _ _ ⟨e, f⟩
    refine bX12_turned_5 (fun c => absurd c no) (fun _ => bX12_turned_17 (P1 := fun h' => isMP (h' 167) 0 p ∧ jfr fTurn h h') (jM_void (tX12_plain (kf i2).1) (fun h' z => ⟨z.1, i2.tr2 (s2 z.2)⟩))
      (P2 := fun x h' => x = sB (sRightAt p rs i) ∧ jfr fTurn h h') (fun h2 z => jM_int (tX12_isRight z.1 hs (rf z.2) h12 hi) (fun x h' y => ⟨y.1, z.2.tr2 (s1 y.2.2.2)⟩))
      (P3 := fun h' => isMP (h' 167) 0 (sBy p (m, none)) ∧ jfr fTurn h h') (fun h2 _ x2 h3 z => jM_void (tX12_lays1 (kf z.2) hs hm) (fun h' y => ⟨y.1, z.2.tr2 (s2 y.2)⟩)) ?_ ?_)
    · rintro h2 - x2 h3 z h4 y c
      rw [same z.1] at c
      refine bX12_turned_59 (bX12_turned_60 (nxt (x := none) y.2 ?_))
      rw [sBits_f (fun q => q.1 c), i1, Int32.or_zero]
    · rintro h2 - x2 h3 z h4 y c
      rw [same z.1] at c
      refine bX12_turned_42 (P1 := fun x h' => x = sB (sRightAt (sBy p (m, none)) rs i) ∧ jfr fTurn h h') (jM_int (tX12_isRight y.1 (sProg_1 hs hm) (rf y.2) h12 hi) (fun x h' v => ⟨v.1, y.2.tr2 (s1 v.2.2.2)⟩)) ?_ ?_
      · rintro x5 h5 v c2
        rw [same v.1] at c2
        refine bX12_turned_59 (bX12_turned_60 (nxt (x := none) v.2 ?_))
        rw [sBits_f (fun q => c2 q.2), i1, Int32.or_zero]
      · rintro x5 h5 v c2
        rw [same v.1] at c2
        refine bX12_turned_52 (bX12_turned_60 (nxt (x := none) v.2 ?_))
        rw [sBits_t ⟨c, c2⟩, i1]
noncomputable def sMendTold (p : List Int32) (rs : List aRun) (m : Nat) (w : Int32) : Int32 := sIf (w = 0) ((sMends p).getD m sMd0).1 (sIf (w = 1) (nI ((sMends p).getD m sMd0).2.1) (sIf (w = 2) (jbits (sTurned p rs m true)) (jbits (sTurned p rs m false))))
noncomputable def oMend (A : aA) (m w : Int32) : aO := sIf (aIx m (sMends (aBody (xS A))).length) (sIf (aIx w 4) (0, sMendTold (aBody (xS A)) (aRuns (xS A)) m.toNatClampNeg w, A) (2, 0, A)) (1, 0, A)
abbrev eMend : List String := ["java/lang/IndexOutOfBoundsException", "java/util/NoSuchElementException"]
theorem ccMend {m w : Int32} (ok : aOk n A) (k : RC h A) : JM mX11_mend [.ref 0, .int m, .int w] (jG0 sc) h (cQ sc eMend (oMend A m w) h) := by
  have a_h : jI4 10 := by unfold jI4; decide
  have b_h : jI4 89 := by unfold jI4; decide
  have t_h : jI3 75 := by unfold jI3; decide
  have h12 := ok.1.2.2.1.1
  have hr : isRuns h 14 (aRuns (xS A)) := k.1.2.2.1
  have hp : isP h 10 (aBody (xS A)) := k.1.1
  have hs := ok.1.1
  have h280 := sMends_280 hs
  have hm : isMends h 75 (aBody (xS A)) := k.2.2.2.2.2
  have e6 : h 75 6 = nI (sMends (aBody (xS A))).length := hm.1.1
  have no : ¬ aIx m (sMends (aBody (xS A))).length → cQ sc eMend (oMend A m w) h (.inr "java/lang/IndexOutOfBoundsException") (jG0 sc) h := fun q => by
    rw [oMend, sIf_f q]; exact cQ_x rfl k (fun _ _ => rfl)
  have yes : ¬ m < 0 → ¬ h 75 6 ≤ m → aIx m (sMends (aBody (xS A))).length := fun a b => (aIx_le (by omega)).mp ⟨a, by rw [← e6]; exact b⟩
  have no2 : ¬ m < 0 → ¬ h 75 6 ≤ m → ¬ aIx w 4 → cQ sc eMend (oMend A m w) h (.inr "java/util/NoSuchElementException") (jG0 sc) h := fun a b q => by
    rw [oMend, sIf_t (yes a b), sIf_f q]; exact cQ_x rfl k (fun _ _ => rfl)
  have vi : ¬ m < 0 → ¬ h 75 6 ≤ m → vp_in m 300 := fun a b => by obtain ⟨d, hd, rfl⟩ := yes a b; exact vp_in_nI (by omega) (by decide)
  have fin : ∀ {x : Int32} {h2 : jH}, ¬ m < 0 → ¬ h 75 6 ≤ m → ¬ w < 0 → w ≤ 3 → x = sMendTold (aBody (xS A)) (aRuns (xS A)) m.toNatClampNeg w → jfr fCs h h2 → cQ sc eMend (oMend A m w) h (.inl (some (.int x))) (jG0 sc) h2 := fun a b c d e f => by
    rw [oMend, sIf_t (yes a b), sIf_t ((aIx_le1 (n := 3) (by omega)).mp ⟨c, d⟩), e]; exact cQ_q ok k f
  have rt : ∀ {h1 : jH}, jfr fCs h h1 → isRuns h1 14 (aRuns (xS A)) := fun f => hr.fr f rfl (fun _ => rfl) (fun _ => rfl) (fun _ => rfl)
  have pt : ∀ {h1 : jH}, jfr fCs h h1 → isP h1 10 (aBody (xS A)) := fun f => hp.fr f rfl (fun _ => rfl)
  have mt : ∀ {h1 : jH}, jfr fCs h h1 → isMends h1 75 (aBody (xS A)) := fun f => (k.fr ok f).2.2.2.2.2
  refine jM_of rfl (Nat.le_of_ble_eq_true rfl) (by decide +kernel) rfl (rX11_mend_0 (fun c => no (fun q => ((aIx_lt (by omega)).mpr q).1 c)) (fun _ c => no (fun q => ((aIx_le (by omega)).mpr q).2 (by rw [← e6]; exact c))) (fun a b _ c => no2 a b (fun q => ((aIx_lt (by omega)).mpr q).1 c))
    (P1 := fun x h' => x = sRightBits (aBody (xS A)) (aRuns (xS A)) ∧ jfr fCs h h') (fun a b _ _ _ _ _ => jM_int (tX11_rightBits a_h (Or.inl (by decide)) hp hs hr h12 k.2.2.2.2.1) (fun x h' z => ⟨z.1, fWalk_Cs z.2⟩))
    (P2 := fun x h' => isP h' 89 (sBy (aBody (xS A)) (m.toNatClampNeg, none)) ∧ jfr fCs h h') (fun a b _ _ _ _ _ x1 h1 z => ?_)
    (P3 := fun x h' => x = sRightBits (sBy (aBody (xS A)) (m.toNatClampNeg, none)) (aRuns (xS A)) ∧ jfr fCs h h') (fun a b _ _ _ _ _ x1 h1 _ x2 h2 z => ?_)
    (P4 := fun x h' => x = jbits (sTurned (aBody (xS A)) (aRuns (xS A)) m.toNatClampNeg false) ∧ jfr fCs h h') (fun a b _ _ _ _ _ x1 h1 z1 x2 h2 _ x3 h3 z3 _ => ?_) (fun a b _ c d e1 e2 x1 h1 z1 x2 h2 _ x3 h3 z3 e3 x4 h4 z4 => ?_)
    (P5 := fun x h' => x = jbits (sTurned (aBody (xS A)) (aRuns (xS A)) m.toNatClampNeg true) ∧ jfr fCs h h') (fun a b _ _ _ _ _ x1 h1 z1 x2 h2 _ x3 h3 z3 _ => ?_) (fun a b _ c d e1 e2 x1 h1 z1 x2 h2 _ x3 h3 z3 e3 x4 h4 z4 => ?_)
    (fun a b _ _ _ _ _ => vi a b) (fun a b _ c d e1 e2 => ?_) (fun a b _ _ _ _ => vi a b) (fun a b _ c d e1 => ?_) (fun a b _ c d => no2 a b (fun q => d ((aIx_le1 (n := 3) (by omega)).mpr q).2)) (fun a b c => absurd (by obtain ⟨d, hd, rfl⟩ := yes a b; exact (jn_lt (b := 300) (by omega) (by decide)).mpr (by omega)) c))
  · obtain ⟨d, hd, rfl⟩ := yes a b
    rw [nI_clamp (by omega)]
    refine jM_int (tX3_shape t_h a_h b_h hs (mt z.2) (pt z.2) (Or.inl (by decide)) (Or.inl (by decide)) (Or.inr (by decide)) (by omega)) (fun x h' y => ?_)
    obtain ⟨-, y2, y3⟩ := y
    rw [sAll_1 hd] at y2
    exact ⟨y2, z.2.tr2 (y3.mono rfl)⟩
  · obtain ⟨d, hd, rfl⟩ := yes a b
    rw [nI_clamp (by omega)] at z ⊢
    exact jM_int (tX11_rightBits b_h (Or.inr (by decide)) z.1 (sProg_1 hs hd) (rt z.2) h12 ((k.fr ok z.2).2.2.2.2.1)) (fun x h' y => ⟨y.1, z.2.tr2 (fWalk_Cs y.2)⟩)
  · rw [z1.1, z3.1, sTurned_f h12]
    exact jM_get tBits z3.2
  · refine fin a b c d ?_ z4.2
    rw [z4.1, sMendTold, sIf_f e1, sIf_f e2, sIf_f e3]
  · rw [z1.1, z3.1, sTurned_t h12]
    exact jM_get tBits z3.2
  · refine fin a b c d ?_ z4.2
    rw [z4.1, sMendTold, sIf_f e1, sIf_f e2, sIf_t e3]
  · refine fin a b c d ?_ jfr.rf
    obtain ⟨y, hy, rfl⟩ := yes a b
    rw [sMendTold, sIf_f e1, sIf_t e2, nI_clamp (by omega)]
    exact (hm.1.2 y hy).2.1
  · refine fin a b c d ?_ jfr.rf
    obtain ⟨y, hy, rfl⟩ := yes a b
    rw [sMendTold, sIf_t e1, nI_clamp (by omega)]
    exact (hm.1.2 y hy).1
theorem mmMend {m w : Int32} (ok : aOk n A) (k : RM h A) : JM mX12_mend [.ref 159, .int m, .int w] (jG0 sc) h (mQ sc (oMend A m w) h) := by
  have h12 := ok.1.2.2.1.1
  have hr : isMRuns (h 160) (aRuns (xS A)) := k.1.2.2.1
  have hp : isMP (h 160) 0 (aBody (xS A)) := k.1.1
  have hs := ok.1.1
  have h280 := sMends_280 hs
  have out : ∀ {c : Nat} {h' : jH}, jfr fMs h h' → h' 159 0 = nI (c + 1) → oMend A m w = (c + 1, 0, A) → WP mX12_mend (mQ sc (oMend A m w) h) 44 [some (.ref 159), some (.int m), some (.int w)] [] (jG0 sc) h' (0, 0) := fun f f0 o => by
    refine bX12_mend_44 ?_
    rw [o]
    exact mQ_qx k f f0
  have go : ∀ {v : Int32} {h' : jH}, aIx m (sMends (aBody (xS A))).length → aIx w 4 → v = sMendTold (aBody (xS A)) (aRuns (xS A)) m.toNatClampNeg w → jfr fMs h h' → h' 159 0 = 0 → mQ sc (oMend A m w) h (.inl (some (.int v))) (jG0 sc) h' := fun q1 q2 e f f0 => by
    rw [oMend, sIf_t q1, sIf_t q2, e]
    exact mQ_q k f f0
  have last : ∀ {h1 : jH}, isML h1 (aBody (xS A)) → jfr fMs h h1 → h1 159 0 = 0 → aIx m (sMends (aBody (xS A))).length → aIx w 4 → WP mX12_mend (mQ sc (oMend A m w) h) 46 [some (.ref 159), some (.int m), some (.int w)] [] (jG0 sc) h1 (0, 0) := fun {h1} l f f0 q1 q2 => by
    obtain ⟨hd, er⟩ := aIx_c (by omega) q1
    generalize hdd : m.toNatClampNeg = d at *
    subst er
    obtain ⟨f1, f2, f3⟩ := l.2.2 d hd
    have tn : ∀ (b : Bool) (x : Int32), x = (if b then 1 else 0) → ¬ w = 0 → ¬ w = 1 → (jbits (sTurned (aBody (xS A)) (aRuns (xS A)) d b) = sMendTold (aBody (xS A)) (aRuns (xS A)) d w) → WP mX12_mend (mQ sc (oMend A (nI d) w) h) 85 [some (.ref 159), some (.int (nI d)), some (.int w)] [.int x, .int (nI d), .ref 159] (jG0 sc) h1 (0, 0) := fun b x hx c1 c2 e => by
      refine bX12_mend_85 (P1 := fun y h' => y = sTurned (aBody (xS A)) (aRuns (xS A)) d b ∧ jfr fMs h h' ∧ h' 159 0 = 0) (jM_int (tX12_turned hx l hs (hr.eq160 (f.cell (fun _ => rfl))) h12 hd) (fun y h' z => ⟨z.1, f.tr2 (z.2.mono rfl), (z.2 159 0 rfl).trans f0⟩))
        (P2 := fun y h' => y = jbits (sTurned (aBody (xS A)) (aRuns (xS A)) d b) ∧ jfr fMs h h' ∧ h' 159 0 = 0) (fun x1 h2 z => by rw [z.1]; exact jM_get tBits z.2) ?_
      rintro x1 h2 - x3 h3 z
      exact bX12_mend_91 (go q1 q2 (by rw [z.1, e]) z.2.1 z.2.2)
    refine bX12_mend_46 (fun c => bX12_mend_59 (fun c2 => bX12_mend_73 (fun c3 => bX12_mend_84 (tn false 0 rfl c c2 ?_)) (fun c3 => bX12_mend_80 (tn true 1 rfl c c2 ?_))) (fun c2 => bX12_mend_64 (vp_in_nI (by omega) (by decide)) (bX12_mend_91 (go q1 q2 ?_ f f0)))) (fun c => bX12_mend_50 (vp_in_nI (by omega) (by decide)) (bX12_mend_91 (go q1 q2 ?_ f f0)))
    · rw [sMendTold, sIf_f c, sIf_f c2, sIf_f c3]
    · rw [sMendTold, sIf_f c, sIf_f c2, sIf_t c3]
    · rw [sMendTold, sIf_f c, sIf_t c2]; rw [show (nI d).toNatClampNeg = d from hdd]; exact f2
    · rw [sMendTold, sIf_t c]; rw [show (nI d).toNatClampNeg = d from hdd]; exact f1
  refine jM_of rfl (Nat.le_of_ble_eq_true rfl) (by decide +kernel) rfl (bX12_mend_0 (P1 := fun h' => isML h' (aBody (xS A)) ∧ jfr fMs h h' ∧ h' 159 0 = 0) (jM_void (tX12_listed hp hs) (fun h' z => ⟨z.1, (jfr.rf.put rfl).tr z.2 (A := ([], [(159, 0, 0)])) rfl rfl, (z.2 159 0 rfl).trans rfl⟩))
    (P2 := fun x h' => x = sB (¬ aIx m (sMends (aBody (xS A))).length) ∧ isML h' (aBody (xS A)) ∧ jfr fMs h h' ∧ h' 159 0 = 0) (fun h1 z => jM_get (tX12_noMend (by omega) z.1.2.1) z)
    (P3 := fun x h' => (x = 0 → aIx m (sMends (aBody (xS A))).length ∧ isML h' (aBody (xS A)) ∧ jfr fMs h h' ∧ h' 159 0 = 0) ∧ (¬ x = 0 → ¬ aIx m (sMends (aBody (xS A))).length ∧ jfr fMs h h' ∧ h' 159 0 = 1)) (fun h1 _ x2 h2 z => jM_int (tX12_throwsIf z.1) (fun x h' y => ?_)) ?_ ?_)
  · have y := throws_go (h0 := h) y
    refine ⟨fun c => ?_, fun c => ?_⟩
    · obtain ⟨y1, y2⟩ := y.1 c
      rw [y2]; exact ⟨Classical.not_not.mp y1, z.2⟩
    · obtain ⟨y1, y2⟩ := y.2 c
      rw [y2]; exact ⟨y1, z.2.2.1.put rfl, by simp [jput]⟩
  · rintro h1 - x2 h2 - x3 h3 z c
    obtain ⟨z1, z2, z3⟩ := z.2 c
    exact out (c := 0) z2 z3 (by rw [oMend, sIf_f z1])
  · rintro h1 - x2 h2 - x3 h3 z c
    obtain ⟨q1, z1, z2, z3⟩ := z.1 c
    refine bX12_mend_22 tX12_in ?_ ?_
    · rintro _ _ ⟨rfl, rfl⟩ c
      rw [sB_ne] at c
      have q3 : aIx w 4 := (aIx_le1 (n := 3) (by omega)).mp ⟨c.1, i_nlt.mp c.2⟩
      refine bX12_mend_36 (bX12_mend_37 tX12_throws0 ?_ ?_)
      · rintro _ _ ⟨rfl, rfl⟩ -; exact last z1 z2 z3 q1 q3
      · rintro _ _ ⟨rfl, -⟩ c; exact absurd rfl c
    · rintro _ _ ⟨rfl, rfl⟩ c
      rw [sB_eq] at c
      refine bX12_mend_32 (bX12_mend_37 tX12_throws1 ?_ ?_)
      · rintro _ _ ⟨rfl, -⟩ c; exact absurd c (by decide)
      · rintro _ _ ⟨rfl, rfl⟩ -
        exact out (c := 1) (z2.put rfl) (by simp [jput]; rfl) (by rw [oMend, sIf_t q1, sIf_f (fun q => c (by have := (aIx_le1 (n := 3) (by omega)).mpr q; exact ⟨this.1, i_nlt.mpr this.2⟩))])
end OP5
