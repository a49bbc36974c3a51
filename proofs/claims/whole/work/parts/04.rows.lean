/-! Walking a method over the world: WP says that the machine, from this point of this method, ends as Q tells. -/
abbrev jM : Type := MethodName × ByteArray × Nat × Option FieldType × Nat × Nat × Nat × List (Nat × Nat × Nat × Nat) × Nat
abbrev mY (M : jM) : MethodName := M.1
abbrev mC (M : jM) : ByteArray := M.2.1
abbrev mL (M : jM) : Nat := M.2.2.1
abbrev mR (M : jM) : Option FieldType := M.2.2.2.1
abbrev mH (M : jM) : Nat := M.2.2.2.2.1
abbrev mMc (M : jM) : Nat := M.2.2.2.2.2.1
abbrev mMs (M : jM) : Nat := M.2.2.2.2.2.2.1
abbrev mX (M : jM) : List (Nat × Nat × Nat × Nat) := M.2.2.2.2.2.2.2.1
abbrev mO (M : jM) : Nat := M.2.2.2.2.2.2.2.2
abbrev jO : Type := (Option Value) ⊕ String
abbrev jQ : Type := jO → jS → jH → Prop
def jcw (M : jM) : Cond := if mX M = [] then .code (mY M) (mC M) (mL M) (mR M) else .codeWith (mY M) (mC M) (mL M) (mR M) (mX M)
def jws (M : jM) : List Cond := jcw M :: jU
abbrev jrm (M : jM) : Room := { frames := 8 + mH M, cells := mMc M, slots := mMs M, locals := 200 + 100 * mH M }
def jQc (G : jG) (Q : jQ) : Array Value → State → Outcome → State → Prop := fun _ st o t =>
  (∃ (r : Option Value) (Γ' : jS) (h' : jH), o = .returned (r.map (jmv G)) ∧ Q (.inl r) Γ' h' ∧ jP G Γ' h' t.heap) ∧ va_F (jA G) st t
def jXC (G : jG) (Q : jQ) : String → State → State → Prop := fun E st t =>
  (∃ (Γ' : jS) (h' : jH), Q (.inr E) Γ' h' ∧ jP G Γ' h' t.heap) ∧ va_F (jA G) st t
def jC (l : Launch) (G : jG) (M : jM) (p : Program) (s : State) (m : MethodId) (args : Array Value) (meth : Method) (c : Code) : Prop :=
  p.tables.exec = Jvm.exec ∧ c.code = mC M ∧ c.maxLocals = mL M ∧ meth.sig.returnType = mR M ∧ s.vm.findClass (mY M).cls = some m.cls ∧ meth.locks = false ∧ meth.name = (mY M).name ∧
  c.exceptionTable.toList = tableOf (mX M) ∧ (∀ w ∈ jws M, w.before args s = true) ∧ jE G s s.heap ∧ G.2.2.1 ≤ s.heap.size ∧ l.stackTraces = false ∧ (mY M).cls = jCn (mO M)
def jlv (G : jG) : Nat → List (Option Value) → List (Nat × Value)
  | _, [] => []
  | i, none :: t => jlv G (i + 1) t
  | i, some v :: t => (i, jmv G v) :: jlv G (i + 1) t
def WP (M : jM) (Q : jQ) (pc : Nat) (lv : List (Option Value)) (st : List Value) (Γ : jS) (h : jH) (u : Nat × Nat) : Prop :=
  ∀ (l : Launch) (G : jG) (p : Program) (e : Env) (s : State) (m : MethodId) (args : Array Value) (below : List Frame) (meth : Method) (c : Code), jC l G M p s m args meth c →
  ∀ (H : Heap) (locs : List Loc) (ls : Array Slot), jP G Γ h H → va_S (jA G) s.heap H locs → lv_has ls (mL M) (jlv G 0 lv) →
    W p l e (jrm M) s m args below meth c H locs u.1 u.2 (vx_MQ below (jQc G Q) (jXC G Q) args s (mMc M) (mMs M) (jA G)) (F0 m pc ls (st.map (jmv G)))
def jget : List (Option Value) → Nat → Option Value
  | [], _ => none
  | v :: _, 0 => v
  | _ :: t, n + 1 => jget t n
def jset : List (Option Value) → Nat → Option Value → List (Option Value)
  | [], _, _ => []
  | _ :: t, 0, v => v :: t
  | w :: t, n + 1, v => w :: jset t n v
/-- a long whose second half is overwritten is gone -/
def jcut (lv : List (Option Value)) (i : Nat) : List (Option Value) := match i with
  | 0 => lv
  | k + 1 => match jget lv k with
    | some (.long _) => jset lv k none
    | some (.double _) => jset lv k none
    | _ => lv
def jset1 (lv : List (Option Value)) (i : Nat) (v : Value) : List (Option Value) := jset (jcut lv i) i (some v)
def jset2 (lv : List (Option Value)) (i : Nat) (v : Value) : List (Option Value) := jset (jset (jcut lv i) i (some v)) (i + 1) none
theorem jget_set (lv : List (Option Value)) : ∀ (i j : Nat) (v w : Option Value), jget (jset lv i v) j = w → w ≠ none → (j = i ∧ v = w) ∨ (j ≠ i ∧ jget lv j = w) := by
  induction lv with
  | nil => intro i j v w h hw; exact absurd h.symm hw
  | cons x t ih =>
    intro i j v w h hw
    cases i with
    | zero => cases j with
      | zero => exact Or.inl ⟨rfl, h⟩
      | succ j => exact Or.inr ⟨by omega, h⟩
    | succ i => cases j with
      | zero => exact Or.inr ⟨by omega, h⟩
      | succ j =>
        rcases ih i j v w h hw with ⟨a, b⟩ | ⟨a, b⟩
        · exact Or.inl ⟨by omega, b⟩
        · exact Or.inr ⟨by omega, b⟩
theorem jlv_mem (G : jG) : ∀ (lv : List (Option Value)) (n : Nat) (q : Nat × Value), q ∈ jlv G n lv → ∃ (j : Nat) (v : Value), q = (n + j, jmv G v) ∧ jget lv j = some v := by
  intro lv
  induction lv with
  | nil => intro n q h; cases h
  | cons x t ih =>
    intro n q h
    cases x with
    | none =>
      obtain ⟨j, v, h1, h2⟩ := ih (n + 1) q h
      exact ⟨j + 1, v, by rw [h1]; congr 1; omega, h2⟩
    | some w =>
      rcases List.mem_cons.mp h with rfl | h
      · exact ⟨0, w, rfl, rfl⟩
      · obtain ⟨j, v, h1, h2⟩ := ih (n + 1) q h
        exact ⟨j + 1, v, by rw [h1]; congr 1; omega, h2⟩
theorem jlv_in (G : jG) : ∀ (lv : List (Option Value)) (n j : Nat) (v : Value), jget lv j = some v → (n + j, jmv G v) ∈ jlv G n lv := by
  intro lv
  induction lv with
  | nil => intro n j v h; cases h
  | cons x t ih =>
    intro n j v h
    cases j with
    | zero =>
      have h : x = some v := h
      subst h
      exact List.mem_cons_self
    | succ j =>
      have := ih (n + 1) j v h
      rw [show n + 1 + j = n + (j + 1) by omega] at this
      cases x with
      | none => exact this
      | some w => exact List.mem_cons_of_mem _ this
theorem jlv_at {G : jG} {ls : Array Slot} {n i : Nat} {lv : List (Option Value)} {v : Value} (h : lv_has ls n (jlv G 0 lv)) (hv : jget lv i = some v) : ls[i]? = some (.val (jmv G v)) := by
  have := h.2.2 _ (jlv_in G lv 0 i v hv)
  simpa using this
theorem jlv_le {G : jG} {ls : Array Slot} {n : Nat} {lv lv' : List (Option Value)} (h : lv_has ls n (jlv G 0 lv)) (hh : ∀ (j : Nat) (v : Value), jget lv' j = some v → jget lv j = some v) : lv_has ls n (jlv G 0 lv') := by
  refine ⟨h.1, h.2.1, fun q hq => ?_⟩
  obtain ⟨j, v, rfl, h2⟩ := jlv_mem G lv' 0 q hq
  exact h.2.2 _ (jlv_in G lv 0 j v (hh j v h2))
theorem jcut_get (lv : List (Option Value)) (i j : Nat) (v : Value) (h : jget (jcut lv i) j = some v) : jget lv j = some v ∧ ¬ (j + 1 = i ∧ v.category = 2) := by
  cases i with
  | zero => exact ⟨h, fun q => by omega⟩
  | succ k =>
    simp only [jcut] at h
    split at h
    · next x hx =>
      rcases jget_set lv k j none (some v) h (by simp) with ⟨a, b⟩ | ⟨a, b⟩
      · cases b
      · exact ⟨b, fun q => by omega⟩
    · next x hx =>
      rcases jget_set lv k j none (some v) h (by simp) with ⟨a, b⟩ | ⟨a, b⟩
      · cases b
      · exact ⟨b, fun q => by omega⟩
    · next h1 h2 =>
      refine ⟨h, fun q => ?_⟩
      have hk : j = k := by omega
      subst hk
      cases v with
      | long x => exact h1 x h
      | double x => exact h2 x h
      | _ => exact absurd q.2 (by simp [Value.category])
theorem jset1_has {G : jG} {ls : Array Slot} {n i : Nat} {lv : List (Option Value)} {v : Value} (h : lv_has ls n ((i, jmv G v) :: (jlv G 0 lv).filter (fun q => !(q.1 == i) && !(q.1 + 1 == i && q.2.category == 2)))) : lv_has ls n (jlv G 0 (jset1 lv i v)) := by
  refine ⟨h.1, h.2.1, fun q hq => ?_⟩
  obtain ⟨j, w, rfl, h2⟩ := jlv_mem G _ 0 q hq
  refine h.2.2 _ ?_
  rcases jget_set _ i j (some v) (some w) h2 (by simp) with ⟨a, b⟩ | ⟨a, b⟩
  · cases b
    subst a
    rw [Nat.zero_add]
    exact List.mem_cons_self
  · obtain ⟨c1, c2⟩ := jcut_get lv i j w b
    refine List.mem_cons_of_mem _ (List.mem_filter.mpr ⟨jlv_in G lv 0 j w c1, ?_⟩)
    simp only [Nat.zero_add, jmv_cat, Bool.and_eq_true, Bool.not_eq_true', beq_eq_false_iff_ne, ne_eq, Bool.and_eq_false_iff]
    refine ⟨a, ?_⟩
    by_cases hj : j + 1 = i
    · exact Or.inr fun q => c2 ⟨hj, q⟩
    · exact Or.inl hj
theorem jset2_has {G : jG} {ls : Array Slot} {n i : Nat} {lv : List (Option Value)} {v : Value} (h : lv_has ls n ((i, jmv G v) :: (jlv G 0 lv).filter (fun q => !(q.1 == i) && (!(q.1 == i + 1) && !(q.1 + 1 == i && q.2.category == 2))))) : lv_has ls n (jlv G 0 (jset2 lv i v)) := by
  refine ⟨h.1, h.2.1, fun q hq => ?_⟩
  obtain ⟨j, w, rfl, h2⟩ := jlv_mem G _ 0 q hq
  refine h.2.2 _ ?_
  rcases jget_set _ (i + 1) j none (some w) h2 (by simp) with ⟨a, b⟩ | ⟨a0, b⟩
  · cases b
  · rcases jget_set _ i j (some v) (some w) b (by simp) with ⟨a, b⟩ | ⟨a, b⟩
    · cases b
      subst a
      rw [Nat.zero_add]
      exact List.mem_cons_self
    · obtain ⟨c1, c2⟩ := jcut_get lv i j w b
      refine List.mem_cons_of_mem _ (List.mem_filter.mpr ⟨jlv_in G lv 0 j w c1, ?_⟩)
      simp only [Nat.zero_add, jmv_cat, Bool.and_eq_true, Bool.not_eq_true', beq_eq_false_iff_ne, ne_eq, Bool.and_eq_false_iff]
      refine ⟨a, a0, ?_⟩
      by_cases hj : j + 1 = i
      · exact Or.inr fun q => c2 ⟨hj, q⟩
      · exact Or.inl hj
section JR
variable {M : jM} {Q : jQ} {pc : Nat} {lv : List (Option Value)} {st : List Value} {Γ : jS} {h : jH} {u : Nat × Nat}
/-- fewer locals are known -/
theorem j_sub (lv' : List (Option Value)) (hh : ∀ (j : Nat) (v : Value), jget lv' j = some v → jget lv j = some v) (k : WP M Q pc lv' st Γ h u) : WP M Q pc lv st Γ h u := by
  intro l G p e s m args below meth c C H locs ls hP hS hl
  exact k l G p e s m args below meth c C H locs ls hP hS (jlv_le hl hh)
theorem j_widen (u' : Nat × Nat) (h1 : u.1 ≤ u'.1) (h2 : u.2 ≤ u'.2) (k : WP M Q pc lv st Γ h u') : WP M Q pc lv st Γ h u := by
  intro l G p e s m args below meth c C H locs ls hP hS hl
  exact W.widen h1 h2 (k l G p e s m args below meth c C H locs ls hP hS hl)

theorem j_iconst {n : Int} (v : Int32) (hv : Int32.ofInt n = v) (hd : decode (mC M) pc = .ok (.iconst n, 1)) (k : WP M Q (pc + 1) lv (.int v :: st) Γ h u) : WP M Q pc lv (st) Γ h u := by
  intro l G p e s m args below meth c C H locs ls hP hS hl
  exact lv_iconst C.1 C.2.1 hd hv (k l G p e s m args below meth c C H locs ls hP hS hl)
theorem j_bipush {n : Int} (v : Int32) (hv : (Int8.ofInt n).toInt32 = v) (hd : decode (mC M) pc = .ok (.bipush n, 2)) (k : WP M Q (pc + 2) lv (.int v :: st) Γ h u) : WP M Q pc lv (st) Γ h u := by
  intro l G p e s m args below meth c C H locs ls hP hS hl
  exact lv_bipush C.1 C.2.1 hd hv (k l G p e s m args below meth c C H locs ls hP hS hl)
theorem j_sipush {n : Int} (v : Int32) (hv : (Int16.ofInt n).toInt32 = v) (hd : decode (mC M) pc = .ok (.sipush n, 3)) (k : WP M Q (pc + 3) lv (.int v :: st) Γ h u) : WP M Q pc lv (st) Γ h u := by
  intro l G p e s m args below meth c C H locs ls hP hS hl
  exact lv_sipush C.1 C.2.1 hd hv (k l G p e s m args below meth c C H locs ls hP hS hl)
theorem j_lconst {n : Fin 2} (v : Int64) (hv : Int64.ofNat (n : Nat) = v) (hd : decode (mC M) pc = .ok (.lconst n, 1)) (k : WP M Q (pc + 1) lv (.long v :: st) Γ h u) : WP M Q pc lv (st) Γ h u := by
  intro l G p e s m args below meth c C H locs ls hP hS hl
  exact lv_lconst C.1 C.2.1 hd hv (k l G p e s m args below meth c C H locs ls hP hS hl)
theorem j_iload {i : Nat} {x : Int32} (hv : jget lv i = some (.int x)) (hd : decode (mC M) pc = .ok (.iload i, 2)) (k : WP M Q (pc + 2) lv (.int x :: st) Γ h u) : WP M Q pc lv (st) Γ h u := by
  intro l G p e s m args below meth c C H locs ls hP hS hl
  exact lv_iload C.1 C.2.1 hd (jlv_at hl hv) (k l G p e s m args below meth c C H locs ls hP hS hl)
theorem j_iload_n {i : Fin 4} {x : Int32} (hv : jget lv i = some (.int x)) (hd : decode (mC M) pc = .ok (.iload_n i, 1)) (k : WP M Q (pc + 1) lv (.int x :: st) Γ h u) : WP M Q pc lv (st) Γ h u := by
  intro l G p e s m args below meth c C H locs ls hP hS hl
  exact lv_iload_n C.1 C.2.1 hd rfl (jlv_at hl hv) (k l G p e s m args below meth c C H locs ls hP hS hl)
theorem j_aload {i : Nat} {x : Nat} (hv : jget lv i = some (.ref x)) (hd : decode (mC M) pc = .ok (.aload i, 2)) (k : WP M Q (pc + 2) lv (.ref x :: st) Γ h u) : WP M Q pc lv (st) Γ h u := by
  intro l G p e s m args below meth c C H locs ls hP hS hl
  exact lv_aload C.1 C.2.1 hd (jlv_at hl hv) (k l G p e s m args below meth c C H locs ls hP hS hl)
theorem j_aload_n {i : Fin 4} {x : Nat} (hv : jget lv i = some (.ref x)) (hd : decode (mC M) pc = .ok (.aload_n i, 1)) (k : WP M Q (pc + 1) lv (.ref x :: st) Γ h u) : WP M Q pc lv (st) Γ h u := by
  intro l G p e s m args below meth c C H locs ls hP hS hl
  exact lv_aload_n C.1 C.2.1 hd rfl (jlv_at hl hv) (k l G p e s m args below meth c C H locs ls hP hS hl)
theorem j_lload {i : Nat} {x : Int64} (hv : jget lv i = some (.long x)) (hd : decode (mC M) pc = .ok (.lload i, 2)) (k : WP M Q (pc + 2) lv (.long x :: st) Γ h u) : WP M Q pc lv (st) Γ h u := by
  intro l G p e s m args below meth c C H locs ls hP hS hl
  exact lv_lload C.1 C.2.1 hd (jlv_at hl hv) (k l G p e s m args below meth c C H locs ls hP hS hl)
theorem j_lload_n {i : Fin 4} {x : Int64} (hv : jget lv i = some (.long x)) (hd : decode (mC M) pc = .ok (.lload_n i, 1)) (k : WP M Q (pc + 1) lv (.long x :: st) Γ h u) : WP M Q pc lv (st) Γ h u := by
  intro l G p e s m args below meth c C H locs ls hP hS hl
  exact lv_lload_n C.1 C.2.1 hd rfl (jlv_at hl hv) (k l G p e s m args below meth c C H locs ls hP hS hl)
theorem j_istore {i : Nat} {x : Int32} (hd : decode (mC M) pc = .ok (.istore i, 2)) (hi : i < mL M) (k : WP M Q (pc + 2) (jset1 lv i (.int x)) st Γ h u) : WP M Q pc lv (.int x :: st) Γ h u := by
  intro l G p e s m args below meth c C H locs ls hP hS hl
  exact lv_istore C.1 C.2.1 hd hl hi rfl fun ls' hl' => k l G p e s m args below meth c C H locs ls' hP hS (jset1_has (v := .int x) hl')
theorem j_istore_n {i : Fin 4} {x : Int32} (hd : decode (mC M) pc = .ok (.istore_n i, 1)) (hi : (i : Nat) < mL M) (k : WP M Q (pc + 1) (jset1 lv i (.int x)) st Γ h u) : WP M Q pc lv (.int x :: st) Γ h u := by
  intro l G p e s m args below meth c C H locs ls hP hS hl
  exact lv_istore_n C.1 C.2.1 hd rfl hl hi rfl fun ls' hl' => k l G p e s m args below meth c C H locs ls' hP hS (jset1_has (v := .int x) hl')
theorem j_astore {i : Nat} {x : Nat} (hd : decode (mC M) pc = .ok (.astore i, 2)) (hi : i < mL M) (k : WP M Q (pc + 2) (jset1 lv i (.ref x)) st Γ h u) : WP M Q pc lv (.ref x :: st) Γ h u := by
  intro l G p e s m args below meth c C H locs ls hP hS hl
  exact lv_astore C.1 C.2.1 hd hl hi rfl fun ls' hl' => k l G p e s m args below meth c C H locs ls' hP hS (jset1_has (v := .ref x) hl')
theorem j_astore_n {i : Fin 4} {x : Nat} (hd : decode (mC M) pc = .ok (.astore_n i, 1)) (hi : (i : Nat) < mL M) (k : WP M Q (pc + 1) (jset1 lv i (.ref x)) st Γ h u) : WP M Q pc lv (.ref x :: st) Γ h u := by
  intro l G p e s m args below meth c C H locs ls hP hS hl
  exact lv_astore_n C.1 C.2.1 hd rfl hl hi rfl fun ls' hl' => k l G p e s m args below meth c C H locs ls' hP hS (jset1_has (v := .ref x) hl')
theorem j_lstore {i : Nat} {x : Int64} (hd : decode (mC M) pc = .ok (.lstore i, 2)) (hi : i + 1 < mL M) (k : WP M Q (pc + 2) (jset2 lv i (.long x)) st Γ h u) : WP M Q pc lv (.long x :: st) Γ h u := by
  intro l G p e s m args below meth c C H locs ls hP hS hl
  exact lv_lstore C.1 C.2.1 hd hl hi rfl fun ls' hl' => k l G p e s m args below meth c C H locs ls' hP hS (jset2_has (v := .long x) hl')
theorem j_lstore_n {i : Fin 4} {x : Int64} (hd : decode (mC M) pc = .ok (.lstore_n i, 1)) (hi : (i : Nat) + 1 < mL M) (k : WP M Q (pc + 1) (jset2 lv i (.long x)) st Γ h u) : WP M Q pc lv (.long x :: st) Γ h u := by
  intro l G p e s m args below meth c C H locs ls hP hS hl
  exact lv_lstore_n C.1 C.2.1 hd rfl hl hi rfl fun ls' hl' => k l G p e s m args below meth c C H locs ls' hP hS (jset2_has (v := .long x) hl')
theorem j_iinc {i : Nat} {n : Int} {x : Int32} (hv : jget lv i = some (.int x)) (hd : decode (mC M) pc = .ok (.iinc i n, 3)) (hi : i < mL M) (k : WP M Q (pc + 3) (jset1 lv i (.int (x + Int32.ofInt n))) st Γ h u) : WP M Q pc lv st Γ h u := by
  intro l G p e s m args below meth c C H locs ls hP hS hl
  obtain ⟨kk, hk⟩ := List.getElem?_of_mem (jlv_in G lv 0 i _ hv)
  rw [Nat.zero_add] at hk
  exact lv_iinc C.1 C.2.1 hd hl (k := kk) hk rfl hi rfl fun ls' hl' => k l G p e s m args below meth c C H locs ls' hP hS (jset1_has (v := .int (x + Int32.ofInt n)) hl')
theorem j_iadd {x y : Int32} (hd : decode (mC M) pc = .ok (.iadd, 1)) (k : WP M Q (pc + 1) lv (.int (x + y) :: st) Γ h u) : WP M Q pc lv (.int y :: .int x :: st) Γ h u := by
  intro l G p e s m args below meth c C H locs ls hP hS hl
  exact lv_iadd C.1 C.2.1 hd (k l G p e s m args below meth c C H locs ls hP hS hl)
theorem j_isub {x y : Int32} (hd : decode (mC M) pc = .ok (.isub, 1)) (k : WP M Q (pc + 1) lv (.int (x - y) :: st) Γ h u) : WP M Q pc lv (.int y :: .int x :: st) Γ h u := by
  intro l G p e s m args below meth c C H locs ls hP hS hl
  exact lv_isub C.1 C.2.1 hd (k l G p e s m args below meth c C H locs ls hP hS hl)
theorem j_imul {x y : Int32} (hd : decode (mC M) pc = .ok (.imul, 1)) (k : WP M Q (pc + 1) lv (.int (x * y) :: st) Γ h u) : WP M Q pc lv (.int y :: .int x :: st) Γ h u := by
  intro l G p e s m args below meth c C H locs ls hP hS hl
  exact lv_imul C.1 C.2.1 hd (k l G p e s m args below meth c C H locs ls hP hS hl)
theorem j_iand {x y : Int32} (hd : decode (mC M) pc = .ok (.iand, 1)) (k : WP M Q (pc + 1) lv (.int (x &&& y) :: st) Γ h u) : WP M Q pc lv (.int y :: .int x :: st) Γ h u := by
  intro l G p e s m args below meth c C H locs ls hP hS hl
  exact lv_iand C.1 C.2.1 hd (k l G p e s m args below meth c C H locs ls hP hS hl)
theorem j_ior {x y : Int32} (hd : decode (mC M) pc = .ok (.ior, 1)) (k : WP M Q (pc + 1) lv (.int (x ||| y) :: st) Γ h u) : WP M Q pc lv (.int y :: .int x :: st) Γ h u := by
  intro l G p e s m args below meth c C H locs ls hP hS hl
  exact lv_ior C.1 C.2.1 hd (k l G p e s m args below meth c C H locs ls hP hS hl)
theorem j_ixor {x y : Int32} (hd : decode (mC M) pc = .ok (.ixor, 1)) (k : WP M Q (pc + 1) lv (.int (x ^^^ y) :: st) Γ h u) : WP M Q pc lv (.int y :: .int x :: st) Γ h u := by
  intro l G p e s m args below meth c C H locs ls hP hS hl
  exact lv_ixor C.1 C.2.1 hd (k l G p e s m args below meth c C H locs ls hP hS hl)
theorem j_ishl {x y : Int32} (hd : decode (mC M) pc = .ok (.ishl, 1)) (k : WP M Q (pc + 1) lv (.int (x <<< (y &&& 31)) :: st) Γ h u) : WP M Q pc lv (.int y :: .int x :: st) Γ h u := by
  intro l G p e s m args below meth c C H locs ls hP hS hl
  exact lv_ishl C.1 C.2.1 hd (k l G p e s m args below meth c C H locs ls hP hS hl)
theorem j_ishr {x y : Int32} (hd : decode (mC M) pc = .ok (.ishr, 1)) (k : WP M Q (pc + 1) lv (.int (x >>> (y &&& 31)) :: st) Γ h u) : WP M Q pc lv (.int y :: .int x :: st) Γ h u := by
  intro l G p e s m args below meth c C H locs ls hP hS hl
  exact lv_ishr C.1 C.2.1 hd (k l G p e s m args below meth c C H locs ls hP hS hl)
theorem j_iushr {x y : Int32} (hd : decode (mC M) pc = .ok (.iushr, 1)) (k : WP M Q (pc + 1) lv (.int ((x.toUInt32 >>> (y.toUInt32 &&& Int32.toUInt32 31)).toInt32) :: st) Γ h u) : WP M Q pc lv (.int y :: .int x :: st) Γ h u := by
  intro l G p e s m args below meth c C H locs ls hP hS hl
  exact lv_iushr C.1 C.2.1 hd rfl (k l G p e s m args below meth c C H locs ls hP hS hl)
theorem j_ineg {x : Int32} (hd : decode (mC M) pc = .ok (.ineg, 1)) (k : WP M Q (pc + 1) lv (.int (0 - x) :: st) Γ h u) : WP M Q pc lv (.int x :: st) Γ h u := by
  intro l G p e s m args below meth c C H locs ls hP hS hl
  exact lv_ineg C.1 C.2.1 hd (k l G p e s m args below meth c C H locs ls hP hS hl)
theorem j_idiv {x y : Int32} (hn : ¬ y = 0) (hd : decode (mC M) pc = .ok (.idiv, 1)) (k : WP M Q (pc + 1) lv (.int (x / y) :: st) Γ h u) : WP M Q pc lv (.int y :: .int x :: st) Γ h u := by
  intro l G p e s m args below meth c C H locs ls hP hS hl
  exact lv_idiv C.1 C.2.1 hd hn (k l G p e s m args below meth c C H locs ls hP hS hl)
theorem j_irem {x y : Int32} (hn : ¬ y = 0) (hd : decode (mC M) pc = .ok (.irem, 1)) (k : WP M Q (pc + 1) lv (.int (x - x / y * y) :: st) Γ h u) : WP M Q pc lv (.int y :: .int x :: st) Γ h u := by
  intro l G p e s m args below meth c C H locs ls hP hS hl
  exact lv_irem C.1 C.2.1 hd hn (k l G p e s m args below meth c C H locs ls hP hS hl)
theorem j_ladd {x y : Int64} (hd : decode (mC M) pc = .ok (.ladd, 1)) (k : WP M Q (pc + 1) lv (.long (x + y) :: st) Γ h u) : WP M Q pc lv (.long y :: .long x :: st) Γ h u := by
  intro l G p e s m args below meth c C H locs ls hP hS hl
  exact lv_ladd C.1 C.2.1 hd (k l G p e s m args below meth c C H locs ls hP hS hl)
theorem j_lsub {x y : Int64} (hd : decode (mC M) pc = .ok (.lsub, 1)) (k : WP M Q (pc + 1) lv (.long (x - y) :: st) Γ h u) : WP M Q pc lv (.long y :: .long x :: st) Γ h u := by
  intro l G p e s m args below meth c C H locs ls hP hS hl
  exact lv_lsub C.1 C.2.1 hd (k l G p e s m args below meth c C H locs ls hP hS hl)
theorem j_lmul {x y : Int64} (hd : decode (mC M) pc = .ok (.lmul, 1)) (k : WP M Q (pc + 1) lv (.long (x * y) :: st) Γ h u) : WP M Q pc lv (.long y :: .long x :: st) Γ h u := by
  intro l G p e s m args below meth c C H locs ls hP hS hl
  exact lv_lmul C.1 C.2.1 hd (k l G p e s m args below meth c C H locs ls hP hS hl)
theorem j_ldiv {x y : Int64} (hn : ¬ y = 0) (hd : decode (mC M) pc = .ok (.ldiv, 1)) (k : WP M Q (pc + 1) lv (.long (x / y) :: st) Γ h u) : WP M Q pc lv (.long y :: .long x :: st) Γ h u := by
  intro l G p e s m args below meth c C H locs ls hP hS hl
  exact lv_ldiv C.1 C.2.1 hd hn (k l G p e s m args below meth c C H locs ls hP hS hl)
theorem j_lrem {x y : Int64} (hn : ¬ y = 0) (hd : decode (mC M) pc = .ok (.lrem, 1)) (k : WP M Q (pc + 1) lv (.long (x - x / y * y) :: st) Γ h u) : WP M Q pc lv (.long y :: .long x :: st) Γ h u := by
  intro l G p e s m args below meth c C H locs ls hP hS hl
  exact lv_lrem C.1 C.2.1 hd hn (k l G p e s m args below meth c C H locs ls hP hS hl)
theorem j_lcmp {x y : Int64} (hd : decode (mC M) pc = .ok (.lcmp, 1)) (k : WP M Q (pc + 1) lv (.int (lg_cmp x y) :: st) Γ h u) : WP M Q pc lv (.long y :: .long x :: st) Γ h u := by
  intro l G p e s m args below meth c C H locs ls hP hS hl
  exact W.lcmp C.1 C.2.1 hd (k l G p e s m args below meth c C H locs ls hP hS hl)
theorem j_i2l {x : Int32} (hd : decode (mC M) pc = .ok (.i2l, 1)) (k : WP M Q (pc + 1) lv (.long x.toInt64 :: st) Γ h u) : WP M Q pc lv (.int x :: st) Γ h u := by
  intro l G p e s m args below meth c C H locs ls hP hS hl
  exact lv_i2l C.1 C.2.1 hd rfl (k l G p e s m args below meth c C H locs ls hP hS hl)
theorem j_l2i {x : Int64} (hd : decode (mC M) pc = .ok (.l2i, 1)) (k : WP M Q (pc + 1) lv (.int x.toInt32 :: st) Γ h u) : WP M Q pc lv (.long x :: st) Γ h u := by
  intro l G p e s m args below meth c C H locs ls hP hS hl
  exact lv_l2i C.1 C.2.1 hd rfl (k l G p e s m args below meth c C H locs ls hP hS hl)
theorem j_i2b {x : Int32} (hd : decode (mC M) pc = .ok (.i2b, 1)) (k : WP M Q (pc + 1) lv (.int x.toInt8.toInt32 :: st) Γ h u) : WP M Q pc lv (.int x :: st) Γ h u := by
  intro l G p e s m args below meth c C H locs ls hP hS hl
  exact lv_i2b C.1 C.2.1 hd rfl (k l G p e s m args below meth c C H locs ls hP hS hl)
theorem j_i2c {x v : Int32} (hv : (x.toUInt32 % 65536).toInt32 = v) (hd : decode (mC M) pc = .ok (.i2c, 1)) (k : WP M Q (pc + 1) lv (.int v :: st) Γ h u) : WP M Q pc lv (.int x :: st) Γ h u := by
  intro l G p e s m args below meth c C H locs ls hP hS hl
  exact lv_i2c C.1 C.2.1 hd hv (k l G p e s m args below meth c C H locs ls hP hS hl)
theorem j_dup {va : Value} (hc : va.category = 1) (hd : decode (mC M) pc = .ok (.dup, 1)) (k : WP M Q (pc + 1) lv (va :: va :: st) Γ h u) : WP M Q pc lv (va :: st) Γ h u := by
  intro l G p e s m args below meth c C H locs ls hP hS hl
  exact lv_dup C.1 C.2.1 hd ((jmv_cat G va).trans hc) (k l G p e s m args below meth c C H locs ls hP hS hl)
theorem j_pop {va : Value} (hc : va.category = 1) (hd : decode (mC M) pc = .ok (.pop, 1)) (k : WP M Q (pc + 1) lv (st) Γ h u) : WP M Q pc lv (va :: st) Γ h u := by
  intro l G p e s m args below meth c C H locs ls hP hS hl
  exact lv_pop C.1 C.2.1 hd ((jmv_cat G va).trans hc) (k l G p e s m args below meth c C H locs ls hP hS hl)
theorem j_dup2 {va vb : Value} (hc : va.category = 1) (hc2 : vb.category = 1) (hd : decode (mC M) pc = .ok (.dup2, 1)) (k : WP M Q (pc + 1) lv (va :: vb :: va :: vb :: st) Γ h u) : WP M Q pc lv (va :: vb :: st) Γ h u := by
  intro l G p e s m args below meth c C H locs ls hP hS hl
  exact lv_dup2_11 C.1 C.2.1 hd ((jmv_cat G va).trans hc) ((jmv_cat G vb).trans hc2) (k l G p e s m args below meth c C H locs ls hP hS hl)
theorem j_if_eq {x : Int32} {off : Int} (tgt : Nat) (hd : decode (mC M) pc = .ok (.ifCond .eq off, 3)) (ht : (pc : Int) + off = (tgt : Int)) (kt : x = 0 → WP M Q tgt lv st Γ h u) (kf : ¬ x = 0 → WP M Q (pc + 3) lv st Γ h u) : WP M Q pc lv (.int x :: st) Γ h u := by
  intro l G p e s m args below meth c C H locs ls hP hS hl
  exact lv_if_eq C.1 C.2.1 hd ht (fun q => kt q l G p e s m args below meth c C H locs ls hP hS hl) (fun q => kf q l G p e s m args below meth c C H locs ls hP hS hl)
theorem j_icmp_eq {x y : Int32} {off : Int} (tgt : Nat) (hd : decode (mC M) pc = .ok (.if_icmp .eq off, 3)) (ht : (pc : Int) + off = (tgt : Int)) (kt : x = y → WP M Q tgt lv st Γ h u) (kf : ¬ x = y → WP M Q (pc + 3) lv st Γ h u) : WP M Q pc lv (.int y :: .int x :: st) Γ h u := by
  intro l G p e s m args below meth c C H locs ls hP hS hl
  exact lv_icmp_eq C.1 C.2.1 hd ht (fun q => kt q l G p e s m args below meth c C H locs ls hP hS hl) (fun q => kf q l G p e s m args below meth c C H locs ls hP hS hl)
theorem j_if_ne {x : Int32} {off : Int} (tgt : Nat) (hd : decode (mC M) pc = .ok (.ifCond .ne off, 3)) (ht : (pc : Int) + off = (tgt : Int)) (kt : ¬ x = 0 → WP M Q tgt lv st Γ h u) (kf : x = 0 → WP M Q (pc + 3) lv st Γ h u) : WP M Q pc lv (.int x :: st) Γ h u := by
  intro l G p e s m args below meth c C H locs ls hP hS hl
  exact lv_if_ne C.1 C.2.1 hd ht (fun q => kt q l G p e s m args below meth c C H locs ls hP hS hl) (fun q => kf q l G p e s m args below meth c C H locs ls hP hS hl)
theorem j_icmp_ne {x y : Int32} {off : Int} (tgt : Nat) (hd : decode (mC M) pc = .ok (.if_icmp .ne off, 3)) (ht : (pc : Int) + off = (tgt : Int)) (kt : ¬ x = y → WP M Q tgt lv st Γ h u) (kf : x = y → WP M Q (pc + 3) lv st Γ h u) : WP M Q pc lv (.int y :: .int x :: st) Γ h u := by
  intro l G p e s m args below meth c C H locs ls hP hS hl
  exact lv_icmp_ne C.1 C.2.1 hd ht (fun q => kt q l G p e s m args below meth c C H locs ls hP hS hl) (fun q => kf q l G p e s m args below meth c C H locs ls hP hS hl)
theorem j_if_lt {x : Int32} {off : Int} (tgt : Nat) (hd : decode (mC M) pc = .ok (.ifCond .lt off, 3)) (ht : (pc : Int) + off = (tgt : Int)) (kt : x < 0 → WP M Q tgt lv st Γ h u) (kf : ¬ x < 0 → WP M Q (pc + 3) lv st Γ h u) : WP M Q pc lv (.int x :: st) Γ h u := by
  intro l G p e s m args below meth c C H locs ls hP hS hl
  exact lv_if_lt C.1 C.2.1 hd ht (fun q => kt q l G p e s m args below meth c C H locs ls hP hS hl) (fun q => kf q l G p e s m args below meth c C H locs ls hP hS hl)
theorem j_icmp_lt {x y : Int32} {off : Int} (tgt : Nat) (hd : decode (mC M) pc = .ok (.if_icmp .lt off, 3)) (ht : (pc : Int) + off = (tgt : Int)) (kt : x < y → WP M Q tgt lv st Γ h u) (kf : ¬ x < y → WP M Q (pc + 3) lv st Γ h u) : WP M Q pc lv (.int y :: .int x :: st) Γ h u := by
  intro l G p e s m args below meth c C H locs ls hP hS hl
  exact lv_icmp_lt C.1 C.2.1 hd ht (fun q => kt q l G p e s m args below meth c C H locs ls hP hS hl) (fun q => kf q l G p e s m args below meth c C H locs ls hP hS hl)
theorem j_if_ge {x : Int32} {off : Int} (tgt : Nat) (hd : decode (mC M) pc = .ok (.ifCond .ge off, 3)) (ht : (pc : Int) + off = (tgt : Int)) (kt : 0 ≤ x → WP M Q tgt lv st Γ h u) (kf : ¬ 0 ≤ x → WP M Q (pc + 3) lv st Γ h u) : WP M Q pc lv (.int x :: st) Γ h u := by
  intro l G p e s m args below meth c C H locs ls hP hS hl
  exact lv_if_ge C.1 C.2.1 hd ht (fun q => kt q l G p e s m args below meth c C H locs ls hP hS hl) (fun q => kf q l G p e s m args below meth c C H locs ls hP hS hl)
theorem j_icmp_ge {x y : Int32} {off : Int} (tgt : Nat) (hd : decode (mC M) pc = .ok (.if_icmp .ge off, 3)) (ht : (pc : Int) + off = (tgt : Int)) (kt : y ≤ x → WP M Q tgt lv st Γ h u) (kf : ¬ y ≤ x → WP M Q (pc + 3) lv st Γ h u) : WP M Q pc lv (.int y :: .int x :: st) Γ h u := by
  intro l G p e s m args below meth c C H locs ls hP hS hl
  exact lv_icmp_ge C.1 C.2.1 hd ht (fun q => kt q l G p e s m args below meth c C H locs ls hP hS hl) (fun q => kf q l G p e s m args below meth c C H locs ls hP hS hl)
theorem j_if_gt {x : Int32} {off : Int} (tgt : Nat) (hd : decode (mC M) pc = .ok (.ifCond .gt off, 3)) (ht : (pc : Int) + off = (tgt : Int)) (kt : 0 < x → WP M Q tgt lv st Γ h u) (kf : ¬ 0 < x → WP M Q (pc + 3) lv st Γ h u) : WP M Q pc lv (.int x :: st) Γ h u := by
  intro l G p e s m args below meth c C H locs ls hP hS hl
  exact lv_if_gt C.1 C.2.1 hd ht (fun q => kt q l G p e s m args below meth c C H locs ls hP hS hl) (fun q => kf q l G p e s m args below meth c C H locs ls hP hS hl)
theorem j_icmp_gt {x y : Int32} {off : Int} (tgt : Nat) (hd : decode (mC M) pc = .ok (.if_icmp .gt off, 3)) (ht : (pc : Int) + off = (tgt : Int)) (kt : y < x → WP M Q tgt lv st Γ h u) (kf : ¬ y < x → WP M Q (pc + 3) lv st Γ h u) : WP M Q pc lv (.int y :: .int x :: st) Γ h u := by
  intro l G p e s m args below meth c C H locs ls hP hS hl
  exact lv_icmp_gt C.1 C.2.1 hd ht (fun q => kt q l G p e s m args below meth c C H locs ls hP hS hl) (fun q => kf q l G p e s m args below meth c C H locs ls hP hS hl)
theorem j_if_le {x : Int32} {off : Int} (tgt : Nat) (hd : decode (mC M) pc = .ok (.ifCond .le off, 3)) (ht : (pc : Int) + off = (tgt : Int)) (kt : x ≤ 0 → WP M Q tgt lv st Γ h u) (kf : ¬ x ≤ 0 → WP M Q (pc + 3) lv st Γ h u) : WP M Q pc lv (.int x :: st) Γ h u := by
  intro l G p e s m args below meth c C H locs ls hP hS hl
  exact lv_if_le C.1 C.2.1 hd ht (fun q => kt q l G p e s m args below meth c C H locs ls hP hS hl) (fun q => kf q l G p e s m args below meth c C H locs ls hP hS hl)
theorem j_icmp_le {x y : Int32} {off : Int} (tgt : Nat) (hd : decode (mC M) pc = .ok (.if_icmp .le off, 3)) (ht : (pc : Int) + off = (tgt : Int)) (kt : x ≤ y → WP M Q tgt lv st Γ h u) (kf : ¬ x ≤ y → WP M Q (pc + 3) lv st Γ h u) : WP M Q pc lv (.int y :: .int x :: st) Γ h u := by
  intro l G p e s m args below meth c C H locs ls hP hS hl
  exact lv_icmp_le C.1 C.2.1 hd ht (fun q => kt q l G p e s m args below meth c C H locs ls hP hS hl) (fun q => kf q l G p e s m args below meth c C H locs ls hP hS hl)
theorem j_goto {off : Int} (tgt : Nat) (hd : decode (mC M) pc = .ok (.goto off, 3)) (ht : (pc : Int) + off = (tgt : Int)) (k : WP M Q tgt lv st Γ h u) : WP M Q pc lv st Γ h u := by
  intro l G p e s m args below meth c C H locs ls hP hS hl
  exact lv_goto C.1 C.2.1 hd ht (k l G p e s m args below meth c C H locs ls hP hS hl)
theorem j_swIn {dflt lo hi : Int} {offs : Array Int} {len : Nat} {x : Int32} {off : Int} (tgt : Nat) (hd : decode (mC M) pc = .ok (.tableswitch dflt lo hi offs, len)) (h1 : ¬ x.toInt < lo) (h2 : ¬ hi < x.toInt) (ho : offs[(x.toInt - lo).toNat]? = some off) (ht : (pc : Int) + off = (tgt : Int)) (k : WP M Q tgt lv st Γ h u) : WP M Q pc lv (.int x :: st) Γ h u := by
  intro l G p e s m args below meth c C H locs ls hP hS hl
  exact lv_tableIn C.1 C.2.1 hd h1 h2 ho ht (k l G p e s m args below meth c C H locs ls hP hS hl)
theorem j_swOut {dflt lo hi : Int} {offs : Array Int} {len : Nat} {x : Int32} (tgt : Nat) (hd : decode (mC M) pc = .ok (.tableswitch dflt lo hi offs, len)) (h1 : x.toInt < lo ∨ hi < x.toInt) (ht : (pc : Int) + dflt = (tgt : Int)) (k : WP M Q tgt lv st Γ h u) : WP M Q pc lv (.int x :: st) Γ h u := by
  intro l G p e s m args below meth c C H locs ls hP hS hl
  exact lv_tableOut C.1 C.2.1 hd h1 ht (k l G p e s m args below meth c C H locs ls hP hS hl)
/-- a switch: what each number goes on with -/
def jsw (M : jM) (Q : jQ) (pc : Nat) (lv : List (Option Value)) (st : List Value) (Γ : jS) (h : jH) (u : Nat × Nat) (x : Int) : List Nat → Int → Prop
  | [], _ => True
  | t :: ts, v => (x = v → WP M Q t lv st Γ h u) ∧ jsw M Q pc lv st Γ h u x ts (v + 1)
theorem jsw_at {x : Int} : ∀ (ts : List Nat) (v : Int) (i : Nat) (t : Nat), jsw M Q pc lv st Γ h u x ts v → ts[i]? = some t → x = v + i → WP M Q t lv st Γ h u := by
  intro ts
  induction ts with
  | nil => intro v i t _ ht; simp at ht
  | cons a ts ih =>
    intro v i t hj ht hx
    cases i with
    | zero =>
      simp at ht
      subst ht
      exact hj.1 (by simpa using hx)
    | succ i => exact ih (v + 1) i t hj.2 (by simpa using ht) (by rw [hx]; omega)
theorem j_switch {dflt lo hi : Int} {offs : Array Int} {len : Nat} {x : Int32} (ts : List Nat) (d : Nat) (hd : decode (mC M) pc = .ok (.tableswitch dflt lo hi offs, len)) (hdf : (pc : Int) + dflt = (d : Int)) (hts : offs.toList.map (fun o => (pc : Int) + o) = ts.map (fun t : Nat => (t : Int))) (hsz : hi - lo + 1 = (ts.length : Int)) (kd : (x.toInt < lo ∨ hi < x.toInt) → WP M Q d lv st Γ h u) (ks : jsw M Q pc lv st Γ h u x.toInt ts lo) : WP M Q pc lv (.int x :: st) Γ h u := by
  by_cases hc : x.toInt < lo ∨ hi < x.toInt
  · exact j_swOut d hd hc hdf (kd hc)
  · have h1 : ¬ x.toInt < lo := fun q => hc (Or.inl q)
    have h2 : ¬ hi < x.toInt := fun q => hc (Or.inr q)
    have hlt : (x.toInt - lo).toNat < ts.length := by omega
    have ht := List.getElem?_eq_getElem hlt
    have hm : (offs.toList.map (fun o => (pc : Int) + o))[(x.toInt - lo).toNat]? = (ts.map (fun t : Nat => (t : Int)))[(x.toInt - lo).toNat]? := by rw [hts]
    rw [List.getElem?_map, List.getElem?_map, ht] at hm
    cases ho : offs.toList[(x.toInt - lo).toNat]? with
    | none => rw [ho] at hm; simp at hm
    | some off =>
      rw [ho] at hm
      have hm : (pc : Int) + off = ((ts[(x.toInt - lo).toNat] : Nat) : Int) := by simpa using hm
      exact j_swIn _ hd h1 h2 (by rw [← Array.getElem?_toList]; exact ho) hm (jsw_at ts lo _ _ ks ht (by omega))
end JR
