/-! The class's lines, programs and walk. -/
abbrev jgets (sc : Nat × (Nat → Int32)) (f : Int32) (h : jH) : jQ := jint sc (fun x h' => x = f ∧ h = h')
theorem jgets_i {sc : Nat × (Nat → Int32)} {x f : Int32} {h : jH} (e : x = f) : jgets sc f h (.inl (some (.int x))) (jG0 sc) h := ⟨x, rfl, rfl, e, rfl⟩
theorem jint_i {sc : Nat × (Nat → Int32)} {P : Int32 → jH → Prop} {x : Int32} {h : jH} (e : P x h) : jint sc P (.inl (some (.int x))) (jG0 sc) h := ⟨x, rfl, rfl, e⟩
theorem jvoid_i {sc : Nat × (Nat → Int32)} {P : jH → Prop} {h : jH} (e : P h) : jvoid sc P (.inl none) (jG0 sc) h := ⟨rfl, rfl, e⟩
/-- the test's number -/
noncomputable def sB (c : Prop) : Int32 := haveI := Classical.propDecidable; if c then 1 else 0
theorem sB_t {c : Prop} (h : c) : sB c = 1 := by unfold sB; exact if_pos h
theorem sB_f {c : Prop} (h : ¬ c) : sB c = 0 := by unfold sB; exact if_neg h
theorem sB_ne {c : Prop} : ¬ sB c = 0 ↔ c := by
  by_cases h : c
  · rw [sB_t h]; exact ⟨fun _ => h, fun _ => by decide⟩
  · rw [sB_f h]; exact ⟨fun q => absurd rfl q, fun q => absurd q h⟩
theorem sB_eq {c : Prop} : sB c = 0 ↔ ¬ c := ⟨fun h q => sB_ne.mpr q h, fun h => sB_f h⟩
theorem sB_01 {c : Prop} : sB c = 0 ∨ sB c = 1 := by
  by_cases h : c
  · exact Or.inr (sB_t h)
  · exact Or.inl (sB_f h)
section WC
variable {sc : Nat × (Nat → Int32)} {h : jH}
theorem tX11_kindOf {l : Int32} : JM mX11_kindOf [.int l] (jG0 sc) h (jgets sc (sKind l) h) := jM_of rfl (Nat.le_of_ble_eq_true rfl) (by decide +kernel) rfl (rX11_kindOf_0 (jgets_i rfl))
theorem tX11_madeOf {l : Int32} : JM mX11_madeOf [.int l] (jG0 sc) h (jgets sc (sMade l) h) := jM_of rfl (Nat.le_of_ble_eq_true rfl) (by decide +kernel) rfl (rX11_madeOf_0 (jgets_i rfl))
theorem tX11_firstOf {l : Int32} : JM mX11_firstOf [.int l] (jG0 sc) h (jgets sc (sFirst l) h) := jM_of rfl (Nat.le_of_ble_eq_true rfl) (by decide +kernel) rfl (rX11_firstOf_0 (jgets_i rfl))
theorem tX11_signOf {l : Int32} : JM mX11_signOf [.int l] (jG0 sc) h (jgets sc (sSign l) h) := jM_of rfl (Nat.le_of_ble_eq_true rfl) (by decide +kernel) rfl (rX11_signOf_0 (jgets_i rfl))
theorem tX11_secondOf {l : Int32} : JM mX11_secondOf [.int l] (jG0 sc) h (jgets sc (sSecond l) h) := jM_of rfl (Nat.le_of_ble_eq_true rfl) (by decide +kernel) rfl (rX11_secondOf_0 (jgets_i rfl))
theorem tX11_countOf {l : Int32} : JM mX11_countOf [.int l] (jG0 sc) h (jgets sc (sCount l) h) := jM_of rfl (Nat.le_of_ble_eq_true rfl) (by decide +kernel) rfl (rX11_countOf_0 (jgets_i rfl))
theorem tX11_packed {k m a s b c : Int32} : JM mX11_packed [.int k, .int m, .int a, .int s, .int b, .int c] (jG0 sc) h (jgets sc (sPack k m a s b c) h) := jM_of rfl (Nat.le_of_ble_eq_true rfl) (by decide +kernel) rfl (rX11_packed_0 (jgets_i rfl))
theorem tX11_isNumber {l : Int32} : JM mX11_isNumber [.int l] (jG0 sc) h (jgets sc (sB (¬ 999999 < l)) h) :=
  jM_of rfl (Nat.le_of_ble_eq_true rfl) (by decide +kernel) rfl (rX11_isNumber_0 (fun c => jgets_i (sB_f (fun q => q c)).symm) (fun c => jgets_i (sB_t c).symm))
theorem in_of {x : Int32} {n : Nat} (h1 : ¬ x < 0) (h2 : ¬ nI n ≤ x) (hn : n < 2 ^ 31) : vp_in x n := by
  obtain ⟨m, hm, rfl⟩ := nI_of h1
  refine vp_in_nI ?_ hn
  have := mt (jn_le hn hm).mpr h2
  omega
theorem i_nle {x y : Int32} : ¬ x ≤ y ↔ y < x := by rw [toInt_le_iff, toInt_lt_iff]; omega
theorem i_nlt {x y : Int32} : ¬ x < y ↔ y ≤ x := by rw [toInt_le_iff, toInt_lt_iff]; omega
/-! programs -/
theorem getD_out {p : List Int32} {i : Nat} {d : Int32} (h : p.length ≤ i) : p.getD i d = d := by
  rw [List.getD_eq_getElem?_getD, List.getElem?_eq_none h]; rfl
theorem tX4_lineAt {t : Nat} {p : List Int32} (t_h : jI4 t) (hp : isP h t p) {i : Nat} (hi : i < 2 ^ 31) : JM mX4_lineAt [.ref t, .int (nI i)] (jG0 sc) h (jgets sc (p.getD i 4) h) := by
  have h10 : p.length < 2 ^ 31 := Nat.lt_of_le_of_lt hp.2.1 (by decide)
  refine jM_of rfl (Nat.le_of_ble_eq_true rfl) (by decide +kernel) rfl (rX4_lineAt_0 t_h ?_ ?_ ?_ ?_ ?_)
  · intro c; exact absurd c (nI_pos hi)
  · intro c1 c2
    rw [hp.1, jn_le h10 hi] at c2
    exact jgets_i ((getD_out c2).symm)
  · intro c1 c2 c3
    have c3 := (jn_le (a := 10) (by decide) hi).mp c3
    exact jgets_i ((getD_out (Nat.le_trans hp.2.1 c3)).symm)
  · intro c1 c2 c3; exact in_of (n := 10) c1 c3 (by decide)
  · intro c1 c2 c3
    rw [hp.1, jn_le h10 hi] at c2
    exact jgets_i (by rw [nI_clamp hi]; exact hp.2.2 i (by omega))
theorem getD_set {p : List Int32} {i j : Nat} {x d : Int32} (hj : j < p.length) : (p.set i x).getD j d = if j = i then x else p.getD j d := by
  simp only [List.getD_eq_getElem?_getD, List.getElem?_set]
  by_cases h : i = j
  · subst h; simp [hj]
  · rw [if_neg h, if_neg (fun q : j = i => h q.symm)]
theorem tX4_putLine {t : Nat} {p : List Int32} (t_h : jI4 t) (hp : isP h t p) {i : Nat} (hi : i < 2 ^ 31) {l : Int32} : JM mX4_putLine [.ref t, .int (nI i), .int l] (jG0 sc) h (jvoid sc (fun h' => isP h' t (p.set i l) ∧ jfr ([(t + 1, t + 1)], []) h h')) := by
  have h10 : p.length < 2 ^ 31 := Nat.lt_of_le_of_lt hp.2.1 (by decide)
  have hout : p.length ≤ i → p.set i l = p := fun q => List.set_eq_of_length_le q
  refine jM_of rfl (Nat.le_of_ble_eq_true rfl) (by decide +kernel) rfl (rX4_putLine_0 t_h ?_ ?_ ?_ ?_ ?_)
  · intro c; exact absurd c (nI_pos hi)
  · intro c1 c2
    rw [hp.1, jn_le h10 hi] at c2
    exact jvoid_i ⟨by rw [hout c2]; exact hp, jfr.rf⟩
  · intro c1 c2 c3
    have c3 := (jn_le (a := 10) (by decide) hi).mp c3
    exact jvoid_i ⟨by rw [hout (Nat.le_trans hp.2.1 c3)]; exact hp, jfr.rf⟩
  · intro c1 c2 c3; exact in_of (n := 10) c1 c3 (by decide)
  · intro c1 c2 c3
    rw [hp.1, jn_le h10 hi] at c2
    refine jvoid_i ⟨⟨?_, by rw [List.length_set]; exact hp.2.1, ?_⟩, jfr.rf.put (by simp [jin])⟩
    · rw [jput_ne (by omega), List.length_set]; exact hp.1
    · intro j hj
      rw [List.length_set] at hj
      rw [nI_clamp hi, jput_get, getD_set hj]
      by_cases hji : j = i
      · rw [if_pos ⟨rfl, hji⟩, if_pos hji]
      · rw [if_neg (fun q => hji q.2), if_neg hji]; exact hp.2.2 j hj
theorem getD_app {p : List Int32} {x d : Int32} {j : Nat} (hj : j < (p ++ [x]).length) : (p ++ [x]).getD j d = if j = p.length then x else p.getD j d := by
  simp only [List.length_append, List.length_singleton] at hj
  simp only [List.getD_eq_getElem?_getD]
  by_cases h : j = p.length
  · subst h; simp
  · rw [if_neg h, List.getElem?_append_left (by omega)]
theorem tX4_add {t : Nat} {p : List Int32} (t_h : jI4 t) (hp : isP h t p) (hl : p.length < 10) {l : Int32} : JM mX4_add [.ref t, .int l] (jG0 sc) h (jvoid sc (fun h' => isP h' t (p ++ [l]) ∧ jfr ([(t + 1, t + 1)], [(t, 1, 1)]) h h')) := by
  have h10 : p.length < 2 ^ 31 := Nat.lt_trans hl (by decide)
  refine jM_of rfl (Nat.le_of_ble_eq_true rfl) (by decide +kernel) rfl (rX4_add_0 t_h ?_ ?_ ?_ ?_)
  · intro c; rw [hp.1] at c; exact absurd c (nI_pos h10)
  · intro c1 c2; rw [hp.1] at c2; have := (jn_le (a := 10) (by decide) h10).mp c2; omega
  · intro c1 c2; rw [hp.1]; exact vp_in_nI hl (by decide)
  · intro c1 c2
    refine jvoid_i ⟨⟨?_, by simp; omega, ?_⟩, (jfr.rf.put (by simp [jin])).put (by simp [jin])⟩
    · rw [jput_at, jput_ne (by omega), hp.1, List.length_append]; exact (nI_succ _).symm
    · intro j hj
      rw [jput_ne (by omega), hp.1, nI_clamp h10, jput_get, getD_app hj]
      simp only [List.length_append, List.length_singleton] at hj
      by_cases hji : j = p.length
      · rw [if_pos ⟨rfl, hji⟩, if_pos hji]
      · rw [if_neg (fun q => hji q.2), if_neg hji]; exact hp.2.2 j (by omega)
/-- counting up -/
theorem jloop {σ : Type} (W : Nat → σ → Prop) (I : Nat → σ → Prop) (e : Nat) (hx : ∀ s, I e s → W e s) (hs : ∀ i s, i < e → I i s → (∀ s', I (i + 1) s' → W (i + 1) s') → W i s) : ∀ i s, i ≤ e → I i s → W i s := by
  have key : ∀ k i s, i + k = e → I i s → W i s := by
    intro k
    induction k with
    | zero => intro i s hk hi; have hk : i = e := hk; subst hk; exact hx s hi
    | succ k ih => intro i s hk hi; exact hs i s (by omega) hi (fun s' hi' => ih (i + 1) s' (by omega) hi')
  intro i s hi hI
  exact key (e - i) i s (by omega) hI
theorem jloop2 {σ τ : Type} (W : Nat → σ → τ → Prop) (I : Nat → σ → τ → Prop) (e : Nat) (hx : ∀ s b, I e s b → W e s b) (hs : ∀ i s b, i < e → I i s b → (∀ s' b', I (i + 1) s' b' → W (i + 1) s' b') → W i s b) : ∀ i s b, i ≤ e → I i s b → W i s b :=
  fun i s b hi hI => jloop (fun i (q : σ × τ) => W i q.1 q.2) (fun i q => I i q.1 q.2) e (fun q h => hx q.1 q.2 h) (fun i q hi h k => hs i q.1 q.2 hi h (fun s' b' h' => k (s', b') h')) i (s, b) hi hI
theorem getD_mem {α : Type} {p : List α} {i : Nat} {d : α} (h : i < p.length) : p.getD i d ∈ p := by
  rw [List.getD_eq_getElem?_getD, List.getElem?_eq_getElem h]; exact List.getElem_mem h
theorem tX4_copyOf {t a : Nat} {p : List Int32} (t_h : jI4 t) (a_h : jI4 a) (hp : isP h a p) (hap : a + 1 < t ∨ t + 1 < a) : JM mX4_copyOf [.ref t, .ref a] (jG0 sc) h (jvoid sc (fun h' => isP h' t p ∧ jfr ([(t + 1, t + 1)], [(t, 1, 1)]) h h')) := by
  refine jM_of rfl (Nat.le_of_ble_eq_true rfl) (by decide +kernel) rfl (rX4_copyOf_0 a_h t_h ?_)
  refine jloop (fun i h1 => WP mX4_copyOf _ 2 [some (.ref t), some (.ref a), some (.int (nI i))] [] (jG0 sc) h1 (0, 0)) (fun i h1 => (∀ j, j < i → h1 (t + 1) j = h (a + 1) j) ∧ jfr ([(t + 1, t + 1)], []) h h1) 10 ?_ ?_ 0 h (by omega) ⟨fun j hj => absurd hj (by omega), jfr.rf⟩
  · rintro h1 ⟨i1, i2⟩
    refine rX4_copyOf_2 a_h t_h (fun _ => ?_) (fun c => absurd (by decide) c) (fun c => absurd (by decide) c)
    have ea : ∀ j, h1 a j = h a j := fun j => i2 _ _ (by rw [jin_f]; simp; omega)
    refine jvoid_i ⟨⟨?_, hp.2.1, ?_⟩, (i2.mono (by simp [jsub])).put (by simp [jin])⟩
    · rw [jput_at, ea]; exact hp.1
    · intro j hj
      rw [jput_ne (by omega), i1 j (by have := hp.2.1; omega)]; exact hp.2.2 j hj
  · rintro i h1 hi ⟨i1, i2⟩ k
    have hi' : i < 2 ^ 31 := Nat.lt_trans hi (by decide)
    refine rX4_copyOf_2 a_h t_h (fun c => absurd ((jn_le (a := 10) (by decide) hi').mp c) (by omega)) (fun _ => vp_in_nI hi (by decide)) (fun _ => ?_)
    rw [← nI_succ]
    refine k (jput h1 (t + 1) ((nI i).toNatClampNeg) (h1 (a + 1) ((nI i).toNatClampNeg))) ⟨?_, i2.put (by simp [jin])⟩
    intro j hj
    rw [nI_clamp hi', jput_get]
    have ea : ∀ j, h1 (a + 1) j = h (a + 1) j := fun j => i2 _ _ (by rw [jin_f]; simp; omega)
    by_cases hji : j = i
    · rw [if_pos ⟨rfl, hji⟩, ea, hji]
    · rw [if_neg (fun q => hji q.2)]; exact i1 j (by omega)
end WC
