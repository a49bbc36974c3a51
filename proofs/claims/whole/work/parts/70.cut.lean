/-! Kept ones are put out: lists, and the reference's putsOut. -/
section CUT
variable {sc : Nat × (Nat → Int32)} {h : jH} {A : aA} {n : Nat} {p q : List Int32} {rs : List aRun} {T : aT} {P : Nat → Prop}
noncomputable def sFilt (P : Nat → Prop) : List Nat → List Nat
  | [] => []
  | k :: l => sIf (P k) (k :: sFilt P l) (sFilt P l)
theorem sFilt_t {k : Nat} {l : List Nat} (c : P k) : sFilt P (k :: l) = k :: sFilt P l := sIf_t c
theorem sFilt_f {k : Nat} {l : List Nat} (c : ¬ P k) : sFilt P (k :: l) = sFilt P l := sIf_f c
theorem sFilt_app {l m : List Nat} : sFilt P (l ++ m) = sFilt P l ++ sFilt P m := by
  induction l with
  | nil => rfl
  | cons k l ih =>
    by_cases c : P k
    · rw [List.cons_append, sFilt_t c, sFilt_t c, ih]; rfl
    · rw [List.cons_append, sFilt_f c, sFilt_f c, ih]
theorem sFilt_len {l : List Nat} : (sFilt P l).length ≤ l.length := by
  induction l with
  | nil => exact Nat.le_refl _
  | cons k l ih =>
    by_cases c : P k
    · rw [sFilt_t c, List.length_cons, List.length_cons]; omega
    · rw [sFilt_f c, List.length_cons]; omega
theorem sFilt_mem {l : List Nat} {k : Nat} (hk : k ∈ sFilt P l) : k ∈ l := by
  induction l with
  | nil => exact hk
  | cons a l ih =>
    by_cases c : P a
    · rw [sFilt_t c] at hk
      rcases List.mem_cons.mp hk with e | e
      · exact List.mem_cons.mpr (Or.inl e)
      · exact List.mem_cons.mpr (Or.inr (ih e))
    · rw [sFilt_f c] at hk
      exact List.mem_cons.mpr (Or.inr (ih hk))
/-- the last ones are sieved, from i on -/
noncomputable def sCut (P : Nat → Prop) (l : List Nat) (i : Nat) : List Nat := l.take i ++ sFilt P (l.drop i)
theorem sCut_all {l : List Nat} : sCut P l l.length = l := by unfold sCut; rw [List.take_length, List.drop_length]; exact List.append_nil _
theorem sCut_0 {l : List Nat} : sCut P l 0 = sFilt P l := rfl
theorem erase_mid {α : Type} {y : α} {zs : List α} : ∀ {xs : List α}, (xs ++ y :: zs).eraseIdx xs.length = xs ++ zs := by
  intro xs
  induction xs with
  | nil => rfl
  | cons x xs ih => rw [List.cons_append, List.length_cons, List.eraseIdx_cons_succ, ih]; rfl
theorem drop_at {l : List Nat} {i : Nat} (hi : i < l.length) : l.drop i = l.getD i 0 :: l.drop (i + 1) := by
  rw [List.drop_eq_getElem_cons hi]
  congr 1
  simp [List.getD_eq_getElem?_getD, List.getElem?_eq_getElem hi]
theorem take_at {l : List Nat} {i : Nat} (hi : i < l.length) : l.take (i + 1) = l.take i ++ [l.getD i 0] := by
  rw [List.take_succ, List.getElem?_eq_getElem hi]
  simp [List.getD_eq_getElem?_getD, List.getElem?_eq_getElem hi]
theorem sCut_mid {l : List Nat} {i : Nat} (hi : i < l.length) : sCut P l (i + 1) = l.take i ++ l.getD i 0 :: sFilt P (l.drop (i + 1)) := by
  unfold sCut; rw [take_at hi, List.append_assoc]; rfl
theorem sCut_t {l : List Nat} {i : Nat} (hi : i < l.length) (c : P (l.getD i 0)) : sCut P l i = sCut P l (i + 1) := by
  rw [sCut_mid hi]; unfold sCut; rw [drop_at hi, sFilt_t c]
theorem sCut_f {l : List Nat} {i : Nat} (hi : i < l.length) (c : ¬ P (l.getD i 0)) : sCut P l i = (sCut P l (i + 1)).eraseIdx i := by
  rw [sCut_mid hi]
  have e : i = (l.take i).length := by rw [List.length_take]; omega
  conv => rhs; arg 2; rw [e]
  rw [erase_mid]; unfold sCut; rw [drop_at hi, sFilt_f c]
theorem sCut_at {l : List Nat} {i : Nat} (hi : i < l.length) : (sCut P l (i + 1)).getD i 0 = l.getD i 0 ∧ i < (sCut P l (i + 1)).length := by
  rw [sCut_mid hi]
  have e : i = (l.take i).length := by rw [List.length_take]; omega
  constructor
  · rw [List.getD_eq_getElem?_getD]
    conv => lhs; arg 1; arg 2; rw [e]
    rw [get_mid]; rfl
  · rw [List.length_append, List.length_cons, ← e]; omega
theorem sCut_len {l : List Nat} {i : Nat} : (sCut P l i).length ≤ l.length := by
  unfold sCut
  have h1 := sFilt_len (P := P) (l := l.drop i)
  rw [List.length_append, List.length_take]
  rw [List.length_drop] at h1
  omega
theorem sCut_mem {l : List Nat} {i k : Nat} (hk : k ∈ sCut P l i) : k ∈ l := by
  unfold sCut at hk
  rcases List.mem_append.mp hk with e | e
  · exact List.mem_of_mem_take e
  · exact List.mem_of_mem_drop (sFilt_mem e)
theorem getD_erase {l : List Nat} {i j : Nat} : (l.eraseIdx i).getD j 0 = if j < i then l.getD j 0 else l.getD (j + 1) 0 := by
  simp only [List.getD_eq_getElem?_getD, List.getElem?_eraseIdx]
  split <;> rfl
def uKept (T : aT) (ks : List Nat) : aT := (ks, tTried T, tAll T, tPleased T, tBarred T, tRows T)
theorem tX12_putsOut {i : Nat} (k : isMTries (h 160) p T) (hi : i < (tKept T).length) (h30 : (tKept T).length ≤ 30) (h8 : (tRows T).length ≤ 8) :
    JM mX12_putsOut [.ref 159, .int (nI i)] (jG0 sc) h (jvoid sc (fun h' => isMTries (h' 160) p (uKept T ((tKept T).eraseIdx i)) ∧ jfr ([], [(160, 163, 253)]) h h')) := by
  obtain ⟨e1, e2, e3, e4, e5, e6, e7, e8⟩ := k
  generalize hL : (tKept T).length = L at *
  have eN : (3 : Int32) * (nI i + 1) = nI (3 * i + 3 + 0) := by rw [← nI_succ, show (3 : Int32) = nI 3 from rfl, pk_mul]; rfl
  have eL : ∀ {h1 : jH}, h1 160 163 = nI L → (3 : Int32) * h1 160 163 = nI (3 * L) := fun e => by rw [e, show (3 : Int32) = nI 3 from rfl, pk_mul]
  refine jM_of rfl (Nat.le_of_ble_eq_true rfl) (by decide +kernel) rfl (bX12_putsOut_0 ?_)
  rw [eN]
  refine jloop (fun m (h1 : jH) => WP mX12_putsOut _ 6 [some (.ref 159), some (.int (nI i)), some (.int (nI (3 * i + 3 + m)))] [] (jG0 sc) h1 (0, 0))
    (fun m h1 => jfr ([], [(160, 164, 253)]) h h1 ∧ (∀ j, j < 3 * i → h1 160 (164 + j) = h 160 (164 + j)) ∧ (∀ j, 3 * i ≤ j → j < 3 * i + m → h1 160 (164 + j) = h 160 (164 + j + 3)) ∧ ∀ j, 3 * i + m ≤ j → h1 160 (164 + j) = h 160 (164 + j)) (3 * (L - (i + 1))) ?_ ?_ 0 h (by omega) ⟨jfr.rf, fun _ _ => rfl, fun j a b => absurd b (by omega), fun _ _ => rfl⟩
  · rintro h1 ⟨f, i1, i2, i3⟩
    have e63 : h1 160 163 = nI L := (f 160 163 rfl).trans e1
    refine bX12_putsOut_6 (fun _ => bX12_putsOut_48 (jvoid_i ?_)) (fun c => absurd (by rw [eL e63]; exact nI_le (by omega) (by omega)) c)
    have f2 : jfr ([], [(160, 163, 253)]) h (jput h1 160 163 (h1 160 163 - 1)) := (f.mono rfl).put rfl
    have off : ∀ j, j < 163 ∨ 253 < j → jput h1 160 163 (h1 160 163 - 1) 160 j = h 160 j := fun j hj => f2 160 j (by rw [jin_f]; simp; omega)
    refine ⟨⟨?_, fun j hj => ?_, (off _ (by omega)).trans e3, (off _ (by omega)).trans e4, (off _ (by omega)).trans e5, (off _ (by omega)).trans e6, (off _ (by omega)).trans e7, fun j hj => ?_⟩, f2⟩
    · show _ = nI ((tKept T).eraseIdx i).length
      rw [jput_at, e63, List.length_eraseIdx_of_lt (by omega), hL, show L = (L - 1) + 1 by omega, nI_succ]; exact Int32.add_sub_cancel _ _
    · have hj' : j < ((tKept T).eraseIdx i).length := hj
      rw [List.length_eraseIdx_of_lt (by omega), hL] at hj'
      show jput _ _ _ _ 160 (164 + 3 * j) = nI (((tKept T).eraseIdx i).getD j 0) ∧ jput _ _ _ _ 160 (164 + 3 * j + 1) = (sParts p (((tKept T).eraseIdx i).getD j 0)).1 ∧ jput _ _ _ _ 160 (164 + 3 * j + 2) = (sParts p (((tKept T).eraseIdx i).getD j 0)).2
      rw [getD_erase, jput_sl (by omega), jput_sl (by omega), jput_sl (by omega)]
      by_cases z : j < i
      · rw [if_pos z, i1 _ (by omega), show 164 + 3 * j + 1 = 164 + (3 * j + 1) by omega, i1 _ (by omega), show 164 + 3 * j + 2 = 164 + (3 * j + 2) by omega, i1 _ (by omega)]
        exact e2 j (by omega)
      · rw [if_neg z, i2 _ (by omega) (by omega), show 164 + 3 * j + 1 = 164 + (3 * j + 1) by omega, i2 _ (by omega) (by omega), show 164 + 3 * j + 2 = 164 + (3 * j + 2) by omega, i2 _ (by omega) (by omega)]
        have := e2 (j + 1) (by omega)
        rw [show 164 + 3 * (j + 1) = 164 + 3 * j + 3 by omega] at this
        exact this
    · have hj' : j < (tRows T).length := hj
      rw [off _ (by omega), off _ (by omega), off _ (by omega)]; exact e8 j hj'
  · rintro m h1 hm ⟨f, i1, i2, i3⟩ kk
    have e63 : h1 160 163 = nI L := (f 160 163 rfl).trans e1
    have g1 : (164 : Int32) + nI (3 * i + 3 + m) = nI (164 + (3 * i + m) + 3) := by
      rw [show (164 : Int32) = nI 164 from rfl, nI_add]; congr 1; omega
    have g2 : nI (164 + (3 * i + m) + 3) - 3 = nI (164 + (3 * i + m)) := by rw [← nI_add _ 3]; exact Int32.add_sub_cancel _ _
    refine bX12_putsOut_6 (fun c => absurd c (by rw [eL e63, jn_le (by omega) (by omega)]; omega)) (fun _ => bX12_putsOut_20 (by rw [g1]; exact vp_in_nI (by omega) (by decide)) (by rw [g1, g2]; exact vp_in_nI (by omega) (by decide)) ?_)
    rw [g1, g2, nI_clamp (by omega), nI_clamp (by omega), ← nI_succ]
    refine kk _ ⟨f.put (by rw [jin_iff]; simp; omega), fun j hj => ?_, fun j a b => ?_, fun j hj => ?_⟩
    · rw [jput_sl (by omega)]; exact i1 j hj
    · by_cases z : j = 3 * i + m
      · subst z; rw [jput_at, show 164 + (3 * i + m) + 3 = 164 + (3 * i + m + 3) by omega, i3 _ (by omega)]
      · rw [jput_sl (by omega)]; exact i2 j a (by omega)
    · rw [jput_sl (by omega)]; exact i3 j (by omega)
end CUT
