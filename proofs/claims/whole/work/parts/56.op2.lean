/-! Operations: ends, look, done. -/
section OP2
variable {sc : Nat × (Nat → Int32)} {h : jH} {A : aA} {n : Nat} {p : List Int32} {rs : List aRun}
theorem tX12_lays {fr : Nat} (hf : fr < 1000) (hp : isMP (h 160) fr p) : JM mX12_lays [.ref 159, .int (nI fr)] (jG0 sc) h (jvoid sc (fun h' => isMP (h' 167) 0 p ∧ jfr fProg h h')) := by
  refine jM_of rfl (Nat.le_of_ble_eq_true rfl) (by decide +kernel) rfl (rX12_lays_0 ?_)
  refine jloop (fun i (h1 : jH) => WP mX12_lays _ 2 [some (.ref 159), some (.int (nI fr)), some (.int (nI i))] [] (jG0 sc) h1 (0, 0))
    (fun i h1 => jfr fProg h h1 ∧ ∀ j, j < i → h1 167 j = h 160 (fr + j)) 61 ?_ ?_ 0 h (by omega) ⟨jfr.rf, fun j hj => absurd hj (by omega)⟩
  · rintro h1 ⟨i1, i2⟩
    exact rX12_lays_2 (fun _ => jvoid_i ⟨hp.copy i2, i1⟩) (fun c => absurd (by decide) c) (fun c => absurd (by decide) c) (fun c => absurd (by decide) c)
  · rintro i h1 hi ⟨i1, i2⟩ k
    have hi31 : i < 2 ^ 31 := by omega
    refine rX12_lays_2 (fun c => absurd ((jn_le (a := 61) (by decide) hi31).mp c) (by omega)) (fun _ => by rw [nI_add]; exact vp_in_nI (by omega) (by decide)) (fun _ => vp_in_nI hi (by decide)) (fun _ => ?_)
    rw [nI_add, nI_clamp hi31, nI_clamp (by omega), ← nI_succ]
    refine k _ ⟨i1.put rfl, fun j hj => ?_⟩
    have ea : h1 160 = h 160 := i1.cell (fun j => rfl)
    by_cases z : j = i
    · rw [z, jput_at, ea]
    · rw [jput_sl z]; exact i2 j (by omega)
theorem noX {M : jM} {a v : Int32} {m : Nat} {av : List Value} (hm : m < 2 ^ 31) (e : v = nI m)
    (k : JM mX12_in [.int a, .int 0, .int (v - 1)] (jG0 sc) h (jgets sc (sB (aIx a m)) h) → JM M av (jG0 sc) h (jgets sc (sB (¬ aIx a m)) h)) : JM M av (jG0 sc) h (jgets sc (sB (¬ aIx a m)) h) := by
  refine k ?_
  have q := aIx_in (a := a) hm
  subst e
  have := tX12_in (sc := sc) (h := h) (a := a) (lo := 0) (hi := nI m - 1)
  rw [show sB (¬ a < 0 ∧ ¬ nI m - 1 < a) = sB (aIx a m) from by rw [q]] at this
  exact this
theorem sB_not {c : Prop} : sB (¬ c) = 0 ↔ c := by rw [sB_eq]; exact Classical.not_not
theorem tX12_noRun {a : Int32} (hr : isMRuns (h 160) rs) (h12 : rs.length ≤ 12) : JM mX12_noRun [.ref 159, .int a] (jG0 sc) h (jgets sc (sB (¬ aIx a rs.length)) h) := by
  refine noX (by omega) hr.1 (fun q => jM_of rfl (Nat.le_of_ble_eq_true rfl) (by decide +kernel) rfl (rX12_noRun_0 q ?_ ?_))
  · rintro _ _ ⟨rfl, rfl⟩ c; exact jgets_i (sB_not.mpr (sB_ne.mp c)).symm
  · rintro _ _ ⟨rfl, rfl⟩ c; exact jgets_i (sB_t (sB_eq.mp c)).symm
theorem tX12_noAlive {a : Int32} {m : Nat} (hm : m < 2 ^ 31) (e : h 160 163 = nI m) : JM mX12_noAlive [.ref 159, .int a] (jG0 sc) h (jgets sc (sB (¬ aIx a m)) h) := by
  refine noX hm e (fun q => jM_of rfl (Nat.le_of_ble_eq_true rfl) (by decide +kernel) rfl (rX12_noAlive_0 q ?_ ?_))
  · rintro _ _ ⟨rfl, rfl⟩ c; exact jgets_i (sB_not.mpr (sB_ne.mp c)).symm
  · rintro _ _ ⟨rfl, rfl⟩ c; exact jgets_i (sB_t (sB_eq.mp c)).symm
theorem tX12_noMend {a : Int32} {m : Nat} (hm : m < 2 ^ 31) (e : h 159 26 = nI m) : JM mX12_noMend [.ref 159, .int a] (jG0 sc) h (jgets sc (sB (¬ aIx a m)) h) := by
  refine noX hm e (fun q => jM_of rfl (Nat.le_of_ble_eq_true rfl) (by decide +kernel) rfl (rX12_noMend_0 q ?_ ?_))
  · rintro _ _ ⟨rfl, rfl⟩ c; exact jgets_i (sB_not.mpr (sB_ne.mp c)).symm
  · rintro _ _ ⟨rfl, rfl⟩ c; exact jgets_i (sB_t (sB_eq.mp c)).symm
theorem tX12_noRow {a : Int32} {m : Nat} (hm : m < 2 ^ 31) (e : h 160 254 = nI m) : JM mX12_noRow [.ref 159, .int a] (jG0 sc) h (jgets sc (sB (¬ aIx a m)) h) := by
  refine noX hm e (fun q => jM_of rfl (Nat.le_of_ble_eq_true rfl) (by decide +kernel) rfl (rX12_noRow_0 q ?_ ?_))
  · rintro _ _ ⟨rfl, rfl⟩ c; exact jgets_i (sB_not.mpr (sB_ne.mp c)).symm
  · rintro _ _ ⟨rfl, rfl⟩ c; exact jgets_i (sB_t (sB_eq.mp c)).symm
theorem tX11_hasBody (hp : isP h 10 p) : JM mX11_hasBody [.ref 0] (jG0 sc) h (jgets sc (sB (p ≠ [])) h) := by
  have h10 := hp.2.1
  refine jM_of rfl (Nat.le_of_ble_eq_true rfl) (by decide +kernel) rfl (rX11_hasBody_0 (fun c => jgets_i ?_) (fun c => jgets_i ?_))
  · rw [hp.1, show (0 : Int32) = nI 0 from rfl, jn_le (by omega) (by omega)] at c
    exact (sB_f (fun q => q (List.length_eq_zero_iff.mp (by omega)))).symm
  · rw [hp.1, show (0 : Int32) = nI 0 from rfl, jn_le (by omega) (by omega)] at c
    exact (sB_t (fun q => c (by rw [q]; decide))).symm
/-- the run of a program from a state's cell -/
theorem isP.nil {t : Nat} (hp : isP h t p) : h t 1 = 0 ↔ p = [] := by
  rw [hp.1, show (0 : Int32) = nI 0 from rfl, jn_eq (by have := hp.2.1; omega) (by omega)]
  exact List.length_eq_zero_iff
/-! ends -/
noncomputable def sIf {α : Type} (c : Prop) (a b : α) : α := haveI := Classical.propDecidable; if c then a else b
theorem sIf_t {α : Type} {c : Prop} {a b : α} (h : c) : sIf c a b = a := if_pos h
theorem sIf_f {α : Type} {c : Prop} {a b : α} (h : ¬ c) : sIf c a b = b := if_neg h
def aWhich (S : aS) (b : Bool) : List Int32 := match b with
  | false => aBody S
  | true => aSecond S
noncomputable def oEnds (A : aA) (x y : Int32) (b : Bool) : aO := sIf (aWhich (xS A) b = []) (1, 0, A) (0, sEnd (aWhich (xS A) b) x y, A)
theorem oEnds_x {x y : Int32} {b : Bool} (e : aWhich (xS A) b = []) : oEnds A x y b = (1, 0, A) := sIf_t e
theorem oEnds_v {x y : Int32} {b : Bool} (e : ¬ aWhich (xS A) b = []) : oEnds A x y b = (0, sEnd (aWhich (xS A) b) x y, A) := sIf_f e
theorem fWalk_Cs {h' : jH} (f : jfr fWalk h h') : jfr fCs h h' := f.mono rfl
theorem ccEnds {x y z : Int32} {b : Bool} (hz : z = if b then 1 else 0) (ok : aOk n A) (k : RC h A) : JM mX11_ends [.ref 0, .int x, .int y, .int z] (jG0 sc) h (cQ sc ["java/lang/IllegalStateException"] (oEnds A x y b) h) := by
  have a_h : jI4 10 := by unfold jI4; decide
  have b_h : jI4 12 := by unfold jI4; decide
  have p1 : isP h 10 (aBody (xS A)) := k.1.1
  have p2 : isP h 12 (aSecond (xS A)) := k.1.2.1
  cases b with
  | false =>
    subst hz
    refine jM_of rfl (Nat.le_of_ble_eq_true rfl) (by decide +kernel) rfl (rX11_ends_0 (fun _ _ => tX10_end a_h (Or.inl (by decide)) p1 ok.1.1 k.2.2.2.2.1) (fun _ c => ?_) (fun _ c => ?_) (P2 := fun _ _ => True) (fun c => absurd rfl c) (fun c => absurd rfl c) (fun c => absurd rfl c))
    · rintro x1 h1 ⟨z1, z2, z3, z4, z5⟩
      rw [p1.nil] at c
      rw [oEnds_v (b := false) c, z1]
      exact cQ_q ok k (fWalk_Cs z5)
    · rw [p1.nil] at c
      rw [oEnds_x (b := false) c]
      exact cQ_qx rfl ok k jfr.rf
  | true =>
    subst hz
    refine jM_of rfl (Nat.le_of_ble_eq_true rfl) (by decide +kernel) rfl (rX11_ends_0 (P1 := fun _ _ => True) (fun c => absurd c (by decide)) (fun c => absurd c (by decide)) (fun c => absurd c (by decide)) (fun _ _ => tX10_end b_h (Or.inl (by decide)) p2 ok.1.2.1 k.2.2.2.2.1) (fun _ c => ?_) (fun _ c => ?_))
    · rintro x1 h1 ⟨z1, z2, z3, z4, z5⟩
      rw [p2.nil] at c
      rw [oEnds_v (b := true) c, z1]
      exact cQ_q ok k (fWalk_Cs z5)
    · rw [p2.nil] at c
      rw [oEnds_x (b := true) c]
      exact cQ_qx rfl ok k jfr.rf
theorem isMP.nil {w : Nat → Int32} {t : Nat} (hp : isMP w t p) : w t = 0 ↔ p = [] := by
  rw [hp.1, show (0 : Int32) = nI 0 from rfl, jn_eq (by have := hp.2.1; omega) (by omega)]
  exact List.length_eq_zero_iff
theorem mmEnds {x y z : Int32} {b : Bool} (hz : z = if b then 1 else 0) (ok : aOk n A) (k : RM h A) : JM mX12_ends [.ref 159, .int x, .int y, .int z] (jG0 sc) h (mQ sc (oEnds A x y b) h) := by
  have main : ∀ (fr : Nat) (q : List Int32), fr < 1000 → isMP (h 160) fr q → sProg q → q = aWhich (xS A) b → (z = 0 ↔ fr = 0) → fr = 0 ∨ fr = 61 →
      WP mX12_ends (mQ sc (oEnds A x y b) h) 20 [some (.ref 159), some (.int x), some (.int y), some (.int z)] [.int (nI fr), .ref 160, .ref 159] (jG0 sc) (jput h 159 0 0) (0, 0) := by
    intro fr q h1 hq hs e e2 e3
    refine bX12_ends_20 (vp_in_nI (by omega) (by decide)) (fun c => bX12_ends_28 (bX12_ends_29 tX12_throws0 ?_ ?_)) (fun c => bX12_ends_24 (bX12_ends_29 tX12_throws1 ?_ ?_))
    · rintro _ _ ⟨rfl, rfl⟩ -
      rw [nI_clamp (by omega)] at c
      have c' : ¬ aWhich (xS A) b = [] := by rw [← e, ← hq.nil]; exact c
      have last : WP mX12_ends (mQ sc (oEnds A x y b) h) 49 [some (.ref 159), some (.int x), some (.int y), some (.int z)] [.int (nI fr), .ref 159] (jG0 sc) (jput h 159 0 0) (0, 0) := by
        refine bX12_ends_49 (P1 := fun h' => isMP (h' 167) 0 q ∧ jfr fMs h h' ∧ h' 159 0 = 0) (jM_void (tX12_lays h1 hq) (fun h' w => ⟨w.1, (jfr.rf.put rfl).tr w.2 (A := ([], [(159, 0, 0)])) rfl rfl, (w.2 159 0 rfl).trans rfl⟩)) (P2 := fun r h' => r = sEnd q x y ∧ jfr fMs h h' ∧ h' 159 0 = 0) (fun h1 w => jM_int (tX12_endAt w.1 hs) (fun r h' z => ⟨z.1, w.2.1.tr z.2.2.2.2 rfl rfl, (z.2.2.2.2 159 0 rfl).trans w.2.2⟩)) ?_
        rintro h1 - x2 h2 ⟨z1, z2, z3⟩
        rw [oEnds_v c', z1, e]
        exact mQ_q k z2 z3
      refine bX12_ends_38 (fun c2 => bX12_ends_48 ?_) (fun c2 => bX12_ends_43 ?_)
      · rw [e2] at c2; subst c2; exact last
      · rw [e2] at c2
        rcases e3 with e3 | e3
        · exact absurd e3 c2
        · subst e3; exact last
    · rintro _ _ ⟨rfl, -⟩ c; exact absurd rfl c
    · rintro _ _ ⟨rfl, -⟩ c; exact absurd c (by decide)
    · rintro _ _ ⟨rfl, rfl⟩ -
      rw [nI_clamp (by omega)] at c
      have c' : aWhich (xS A) b = [] := by rw [← e, ← hq.nil]; exact c
      refine bX12_ends_36 ?_
      rw [oEnds_x c']
      exact mQ_qx k ((jfr.rf.put rfl).put rfl) (by simp [jput]; rfl)
  cases b with
  | false =>
    subst hz
    exact jM_of rfl (Nat.le_of_ble_eq_true rfl) (by decide +kernel) rfl (bX12_ends_0 (fun _ => bX12_ends_19 (main 0 _ (by decide) k.1.1 ok.1.1 rfl (by simp) (Or.inl rfl))) (fun c => absurd rfl c))
  | true =>
    subst hz
    exact jM_of rfl (Nat.le_of_ble_eq_true rfl) (by decide +kernel) rfl (bX12_ends_0 (fun c => absurd c (by decide)) (fun _ => bX12_ends_14 (main 61 _ (by decide) k.1.2.1 ok.1.2.1 rfl (by simp) (Or.inr rfl))))
end OP2
