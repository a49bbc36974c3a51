/-! The whole state: what the class holds (cells below 159) and what the reference holds (from 159 on). -/
/-- state, image, tape's bytes, wrong byte -/
abbrev aA : Type := aS × Option aS × List Int32 × Int32
abbrev xS (A : aA) : aS := A.1
abbrev xI (A : aA) : Option aS := A.2.1
abbrev xT (A : aA) : List Int32 := A.2.2.1
abbrev xF (A : aA) : Int32 := A.2.2.2
def isImg (h : jH) (o : Option aS) : Prop := match o with
  | none => h 0 6 = 0
  | some I => h 0 6 = 1 ∧ rC h 39 I
def isMImg (h : jH) (o : Option aS) : Prop := match o with
  | none => h 159 3 = 0
  | some I => h 159 3 = 1 ∧ rM (h 161) I
def isTape (h : jH) (T : List Int32) : Prop := h 1 1 = nI T.length ∧ ∀ i, i < T.length → h 2 i = T.getD i 0
def isMTape (h : jH) (T : List Int32) : Prop := h 159 5 = nI T.length ∧ ∀ i, i < T.length → h 162 i = (T.getD i 0).toInt8.toInt32
/-- the class holds A -/
def RC (h : jH) (A : aA) : Prop := rC h 9 (xS A) ∧ isImg h (xI A) ∧ isTape h (xT A) ∧ h 0 1 = xF A ∧ h 69 5 = -1 ∧ isMends h 75 (aBody (xS A))
/-- the reference holds A -/
def RM (h : jH) (A : aA) : Prop := rM (h 160) (xS A) ∧ isMImg h (xI A) ∧ isMTape h (xT A) ∧ h 159 10 = xF A
/-- a law's codes: how many truths wait behind them -/
def sDeep (d : Nat) : List Int32 → Option Nat
  | [] => some d
  | c :: cs => if ¬ c < 0 then (if d < 20 then sDeep (d + 1) cs else none) else if c = -3 then (if 1 ≤ d then sDeep d cs else none) else if 2 ≤ d then sDeep (d - 1) cs else none
def sLawAtom (a : Int32) : Prop := sIn a 0 2 ∨ sIn a 10 10009
def sCode (c : Int32) : Prop := c = -1 ∨ c = -2 ∨ c = -3 ∨ (¬ c < 0 ∧ sLawAtom (c &&& 16383) ∧ sLawAtom ((c >>> 14) &&& 16383) ∧ sIn ((c >>> 28) &&& 3) 0 2)
def sLawOk (ls : List Int32) : Prop := (ls = [] ∨ sDeep 0 ls = some 1) ∧ (∀ c ∈ ls, sCode c) ∧ ls.length ≤ 400 ∧ (sAllSteps ls).length ≤ 400
def sTrOk (p : List Int32) (T : aT) : Prop := (tKept T).length ≤ 30 ∧ (∀ k ∈ tKept T, k < (sAll (sMends p)).length) ∧ tTried T ≤ (sAll (sMends p)).length ∧ (tRows T).length ≤ 8
def sStOk (n : Nat) (S : aS) : Prop := sProg (aBody S) ∧ sProg (aSecond S) ∧ ((aRuns S).length ≤ 12 ∧ ∀ r ∈ aRuns S, aOkRun r) ∧ sLawOk (aLaw S) ∧ sTrOk (aBody S) (aTr S) ∧ (∀ i, i < 6 → ∃ m, m ≤ n ∧ aTaught S i = nI m) ∧ ((aMade S).length ≤ 6 ∧ ∀ p ∈ aMade S, sProg p) ∧ aBox S ≤ 15
def aOk (n : Nat) (A : aA) : Prop := sStOk n (xS A) ∧ (∀ I, xI A = some I → sStOk n I) ∧ (xT A).length ≤ 400 ∧ ∀ b ∈ xT A, sIn b 0 255
theorem sStOk.up {n m : Nat} {S : aS} (h : sStOk n S) (k : n ≤ m) : sStOk m S := ⟨h.1, h.2.1, h.2.2.1, h.2.2.2.1, h.2.2.2.2.1, fun i hi => by obtain ⟨a, b, c⟩ := h.2.2.2.2.2.1 i hi; exact ⟨a, by omega, c⟩, h.2.2.2.2.2.2⟩
theorem aOk.up {n m : Nat} {A : aA} (h : aOk n A) (k : n ≤ m) : aOk m A := ⟨h.1.up k, fun I e => (h.2.1 I e).up k, h.2.2⟩
/-! what an operation may scratch -/
abbrev fCs : jF := ([(3, 8), (70, 74), (82, 158)], [(1, 2, 5), (69, 2, 4), (69, 6, 11), (75, 7, 8)])
abbrev fMs : jF := ([(163, 178)], [(159, 0, 2), (159, 4, 4), (159, 6, 9), (159, 11, 40)])
theorem rC.eq {h h' : jH} {t : Nat} {S : aS} (k : rC h t S) (f : ∀ c, t ≤ c → c ≤ t + 29 → h' c = h c) (hm : (aMade S).length ≤ 6) : rC h' t S := by
  obtain ⟨k1, k2, k3, k4, ⟨e1, e2, e3, e4, e5, e6, e7, e8⟩, k6, k7, k8⟩ := k
  have g : ∀ c j, t ≤ c → c ≤ t + 29 → h' c j = h c j := fun c j a b => by rw [f c a b]
  refine ⟨⟨?_, k1.2.1, fun i hi => ?_⟩, ⟨?_, k2.2.1, fun i hi => ?_⟩, ⟨?_, fun i hi => ?_⟩, ⟨?_, fun i hi => ?_⟩, ⟨?_, fun i hi => ?_, ?_, ?_, ?_, ?_, ?_, fun i hi => ?_⟩, fun i hi => ?_, ⟨?_, fun i hi => ⟨?_, (k7.2 i hi).2.1, fun j hj => ?_⟩⟩, ?_⟩
  · rw [g _ _ (by omega) (by omega)]; exact k1.1
  · rw [g _ _ (by omega) (by omega)]; exact k1.2.2 i hi
  · rw [g _ _ (by omega) (by omega)]; exact k2.1
  · rw [g _ _ (by omega) (by omega)]; exact k2.2.2 i hi
  · rw [g _ _ (by omega) (by omega)]; exact k3.1
  · rw [g _ _ (by omega) (by omega), g _ _ (by omega) (by omega), g _ _ (by omega) (by omega)]; exact k3.2 i hi
  · rw [g _ _ (by omega) (by omega)]; exact k4.1
  · rw [g _ _ (by omega) (by omega)]; exact k4.2 i hi
  · rw [g _ _ (by omega) (by omega)]; exact e1
  · rw [g _ _ (by omega) (by omega)]; exact e2 i hi
  · rw [g _ _ (by omega) (by omega)]; exact e3
  · rw [g _ _ (by omega) (by omega)]; exact e4
  · rw [g _ _ (by omega) (by omega)]; exact e5
  · rw [g _ _ (by omega) (by omega)]; exact e6
  · rw [g _ _ (by omega) (by omega)]; exact e7
  · rw [g _ _ (by omega) (by omega), g _ _ (by omega) (by omega), g _ _ (by omega) (by omega)]; exact e8 i hi
  · rw [g _ _ (by omega) (by omega)]; exact k6 i hi
  · rw [g _ _ (by omega) (by omega)]; exact k7.1
  · rw [g _ _ (by omega) (by omega)]; exact (k7.2 i hi).1
  · rw [g _ _ (by omega) (by omega)]; exact (k7.2 i hi).2.2 j hj
  · rw [g _ _ (by omega) (by omega)]; exact k8
theorem jfr.row {F : jF} {h h' : jH} (f : jfr F h h') {c : Nat} (hc : ∀ j, jin F c j = false) : h' c = h c := f.cell hc
theorem fCs_9 {h h' : jH} (f : jfr fCs h h') : ∀ c, 9 ≤ c → c ≤ 68 → h' c = h c := fun c h1 h2 => f.cell (fun j => by rw [jin_f]; simp <;> omega)
theorem isImg.fr {h h' : jH} {o : Option aS} (k : isImg h o) (f : jfr fCs h h') (hm : ∀ I, o = some I → (aMade I).length ≤ 6) : isImg h' o := by
  cases o with
  | none => exact (f 0 6 rfl).trans k
  | some I => exact ⟨(f 0 6 rfl).trans k.1, k.2.eq (fun c h1 h2 => fCs_9 f c (by omega) (by omega)) (hm I rfl)⟩
theorem isTape.fr {h h' : jH} {T : List Int32} (k : isTape h T) (f : jfr fCs h h') : isTape h' T := ⟨(f 1 1 rfl).trans k.1, fun i hi => (f 2 i rfl).trans (k.2 i hi)⟩
theorem RC.fr {n : Nat} {h h' : jH} {A : aA} (ok : aOk n A) (k : RC h A) (f : jfr fCs h h') : RC h' A :=
  ⟨k.1.eq (fun c h1 h2 => fCs_9 f c (by omega) (by omega)) ok.1.2.2.2.2.2.2.1.1, k.2.1.fr f (fun I e => (ok.2.1 I e).2.2.2.2.2.2.1.1), k.2.2.1.fr f, (f 0 1 rfl).trans k.2.2.2.1, (f 69 5 rfl).trans k.2.2.2.2.1, k.2.2.2.2.2.fr f rfl (fun c h1 h2 j => by rw [jin_f]; simp <;> omega)⟩
theorem isMTape.eq {h h' : jH} {T : List Int32} (k : isMTape h T) (h5 : h' 159 5 = h 159 5) (h2 : h' 162 = h 162) : isMTape h' T := ⟨h5.trans k.1, fun i hi => by rw [h2]; exact k.2 i hi⟩
theorem isMImg.eq {h h' : jH} {o : Option aS} (k : isMImg h o) (h3 : h' 159 3 = h 159 3) (h1 : h' 161 = h 161) : isMImg h' o := by
  cases o with
  | none => exact h3.trans k
  | some I => exact ⟨h3.trans k.1, by rw [h1]; exact k.2⟩
theorem RM.fr {h h' : jH} {A : aA} (k : RM h A) (f : jfr fMs h h') : RM h' A :=
  ⟨by rw [f.cell (k := 160) (fun j => rfl)]; exact k.1, k.2.1.eq (f 159 3 rfl) (f.cell (fun j => rfl)), k.2.2.1.eq (f 159 5 rfl) (f.cell (fun j => rfl)), (f 159 10 rfl).trans k.2.2.2⟩
/-! contracts: what an operation answers (0 and its value, or the number of what it throws), and the state behind it -/
abbrev aO : Type := Nat × Int32 × aA
def cOut (es : List String) (o : aO) : jO := if o.1 = 0 then .inl (some (.int o.2.1)) else .inr (es.getD (o.1 - 1) "")
def fC (h h' : jH) : Prop := ∀ c, 159 ≤ c → h' c = h c
def fM (h h' : jH) : Prop := ∀ c, c < 159 ∨ 179 ≤ c → h' c = h c
def cQ (sc : Nat × (Nat → Int32)) (es : List String) (o : aO) (h : jH) : jQ := fun r Γ' h' => r = cOut es o ∧ Γ' = jG0 sc ∧ RC h' o.2.2 ∧ fC h h'
def mQ (sc : Nat × (Nat → Int32)) (o : aO) (h : jH) : jQ := jint sc (fun r h' => (o.1 = 0 → r = o.2.1) ∧ h' 159 0 = nI o.1 ∧ RM h' o.2.2 ∧ fM h h')
theorem fC.of {F : jF} {h h' : jH} (f : jfr F h h') (hF : F.1.all (fun r => Nat.blt r.2 159) = true ∧ F.2.all (fun r => Nat.blt r.1 159) = true) : fC h h' := by
  intro c hc
  funext j
  refine f c j ?_
  rw [jin_f]
  simp only [List.all_eq_true, Nat.blt_eq] at hF
  exact ⟨fun r hr => by have := hF.1 r hr; omega, fun r hr => by have := hF.2 r hr; omega⟩
theorem fM.of {F : jF} {h h' : jH} (f : jfr F h h') (hF : F.1.all (fun r => Nat.ble 159 r.1 && Nat.blt r.2 179) = true ∧ F.2.all (fun r => Nat.ble 159 r.1 && Nat.blt r.1 179) = true) : fM h h' := by
  intro c hc
  funext j
  refine f c j ?_
  rw [jin_f]
  simp only [List.all_eq_true, Nat.blt_eq, Nat.ble_eq, Bool.and_eq_true] at hF
  exact ⟨fun r hr => by have := hF.1 r hr; omega, fun r hr => by have := hF.2 r hr; omega⟩
theorem fC.tr {h h1 h2 : jH} (a : fC h h1) (b : fC h1 h2) : fC h h2 := fun c hc => (b c hc).trans (a c hc)
theorem fM.tr {h h1 h2 : jH} (a : fM h h1) (b : fM h1 h2) : fM h h2 := fun c hc => (b c hc).trans (a c hc)
/-- leaves: a value, an exception -/
theorem cQ_v {sc : Nat × (Nat → Int32)} {es : List String} {v : Int32} {A : aA} {h h' : jH} (k : RC h' A) (f : fC h h') : cQ sc es (0, v, A) h (.inl (some (.int v))) (jG0 sc) h' := ⟨rfl, rfl, k, f⟩
theorem cQ_x {sc : Nat × (Nat → Int32)} {es : List String} {E : String} {n : Nat} {v : Int32} {A : aA} {h h' : jH} (e : es.getD n "" = E) (k : RC h' A) (f : fC h h') : cQ sc es (n + 1, v, A) h (.inr E) (jG0 sc) h' := ⟨by unfold cOut; rw [if_neg (Nat.succ_ne_zero n), ← e]; rfl, rfl, k, f⟩
/-- a query: nothing changes but scratch -/
theorem cQ_q {sc : Nat × (Nat → Int32)} {es : List String} {v : Int32} {n : Nat} {A : aA} {h h' : jH} (ok : aOk n A) (k : RC h A) (f : jfr fCs h h') : cQ sc es (0, v, A) h (.inl (some (.int v))) (jG0 sc) h' := cQ_v (k.fr ok f) (fC.of f ⟨rfl, rfl⟩)
theorem cQ_qx {sc : Nat × (Nat → Int32)} {es : List String} {E : String} {m n : Nat} {v : Int32} {A : aA} {h h' : jH} (e : es.getD m "" = E) (ok : aOk n A) (k : RC h A) (f : jfr fCs h h') : cQ sc es (m + 1, v, A) h (.inr E) (jG0 sc) h' := cQ_x e (k.fr ok f) (fC.of f ⟨rfl, rfl⟩)
theorem mQ_q {sc : Nat × (Nat → Int32)} {v : Int32} {A : aA} {h h' : jH} (k : RM h A) (f : jfr fMs h h') (h0 : h' 159 0 = 0) : mQ sc (0, v, A) h (.inl (some (.int v))) (jG0 sc) h' := jint_i ⟨fun _ => rfl, h0, k.fr f, fM.of f ⟨rfl, rfl⟩⟩
theorem mQ_qx {sc : Nat × (Nat → Int32)} {n : Nat} {v w : Int32} {A : aA} {h h' : jH} (k : RM h A) (f : jfr fMs h h') (h0 : h' 159 0 = nI (n + 1)) : mQ sc (n + 1, v, A) h (.inl (some (.int w))) (jG0 sc) h' := jint_i ⟨fun q => absurd q (Nat.succ_ne_zero n), h0, k.fr f, fM.of f ⟨rfl, rfl⟩⟩
/-! the reference's throwsIf -/
theorem tX12_throwsIf {sc : Nat × (Nat → Int32)} {h : jH} {c : Prop} {x k : Int32} (e : x = sB c) : JM mX12_throwsIf [.ref 159, .int x, .int k] (jG0 sc) h (jint sc (fun r h' => (¬ c ∧ r = 0 ∧ h' = h) ∨ (c ∧ r = 1 ∧ h' = jput h 159 0 k))) := by
  subst e
  refine jM_of rfl (Nat.le_of_ble_eq_true rfl) (by decide +kernel) rfl (rX12_throwsIf_0 (fun _ => sB_01) (fun c => ?_) (fun _ => sB_01) (fun c => ?_))
  · exact jint_i (Or.inl ⟨sB_eq.mp c, c, rfl⟩)
  · exact jint_i (Or.inr ⟨sB_ne.mp c, sB_t (sB_ne.mp c), rfl⟩)
theorem tX12_throws0 {sc : Nat × (Nat → Int32)} {h : jH} {k : Int32} : JM mX12_throwsIf [.ref 159, .int 0, .int k] (jG0 sc) h (jgets sc 0 h) := by
  refine jM_of rfl (Nat.le_of_ble_eq_true rfl) (by decide +kernel) rfl (rX12_throwsIf_0 (fun _ => Or.inl rfl) (fun c => jgets_i rfl) (fun _ => Or.inl rfl) (fun c => absurd rfl c))
theorem tX12_throws1 {sc : Nat × (Nat → Int32)} {h : jH} {k : Int32} : JM mX12_throwsIf [.ref 159, .int 1, .int k] (jG0 sc) h (jgets sc 1 (jput h 159 0 k)) := by
  refine jM_of rfl (Nat.le_of_ble_eq_true rfl) (by decide +kernel) rfl (rX12_throwsIf_0 (fun _ => Or.inr rfl) (fun c => absurd c (by decide)) (fun _ => Or.inr rfl) (fun c => jgets_i rfl))
