/-! Operation tries: the reference, all of it. -/
section OP10
variable {sc : Nat × (Nat → Int32)} {h : jH} {A : aA} {n : Nat} {p q : List Int32} {rs : List aRun} {T : aT}
theorem tX12_canPair {a b : Nat} (k : isML h p) (hs : sProg p) (ha : a < (sMends p).length) (hb : b < (sMends p).length) : JM mX12_canPair [.ref 159, .int (nI a), .int (nI b)] (jG0 sc) h (jgets sc (sB (sCan (sMends p) a b = true)) h) := by
  have h280 := sMends_280 hs
  obtain ⟨f1, f2, -⟩ := k.2.2 a ha
  obtain ⟨g1, g2, -⟩ := k.2.2 b hb
  have ba := sMd_ok hs ha
  have bb := sMd_ok hs hb
  have h10 := hs.1
  have v : ∀ {c : Nat}, c < (sMends p).length → vp_in (nI c) 400 := fun hc => vp_in_nI (by omega) (by decide)
  have ce : sCan (sMends p) a b = true ↔ ((sMends p).getD a sMd0).2.1 ≠ ((sMends p).getD b sMd0).2.1 ∧ ((sMends p).getD a sMd0).1 ≠ 4 ∧ ((sMends p).getD b sMd0).1 ≠ 4 := by
    unfold sCan
    rw [Bool.and_eq_true, Bool.and_eq_true, decide_eq_true_eq, decide_eq_true_eq, decide_eq_true_eq, and_assoc]
  refine jM_of rfl (Nat.le_of_ble_eq_true rfl) (by decide +kernel) rfl (rX12_canPair_0 (v ha) (v hb) (fun c => jgets_i ?_) (fun _ => v ha) (fun _ c => jgets_i ?_) (fun _ _ => v hb) (fun _ _ c => jgets_i ?_) (fun c1 c2 c3 => jgets_i ?_))
  all_goals simp only [nI_clamp (show a < 2 ^ 31 by omega), nI_clamp (show b < 2 ^ 31 by omega), f1, f2, g1, g2] at *
  · rw [jn_eq (by omega) (by omega)] at c
    exact (sB_f (fun q => (ce.mp q).1 c)).symm
  · exact (sB_f (fun q => (ce.mp q).2.1 c)).symm
  · exact (sB_f (fun q => (ce.mp q).2.2 c)).symm
  · rw [jn_eq (by omega) (by omega)] at c1
    exact (sB_t (ce.mpr ⟨c1, c2, c3⟩)).symm
/-- pairs ahead of (a, b) -/
def pCnt (ms : List sMd) (a b : Nat) : Nat := ((List.range a).flatMap (sPairsOf ms)).length + ((List.range b).filter (fun d => decide (a < d) && sCan ms a d)).length
theorem range_cut {M a : Nat} (h : a < M) : List.range M = List.range a ++ a :: (List.range (M - a - 1)).map (fun i => a + (i + 1)) := by
  have e : M = a + (M - a - 1 + 1) := by omega
  conv => lhs; rw [e, List.range_add, List.range_succ_eq_map]
  simp [Function.comp_def]
theorem get_mid {α : Type} {xs zs : List α} {y : α} : (xs ++ y :: zs)[xs.length]? = some y := by
  rw [List.getElem?_append_right (Nat.le_refl _), Nat.sub_self]; rfl
theorem pCnt_0 {ms : List sMd} {a : Nat} : pCnt ms a (a + 1) = ((List.range a).flatMap (sPairsOf ms)).length := by
  unfold pCnt
  rw [List.filter_eq_nil_iff.mpr, List.length_nil, Nat.add_zero]
  intro d hd q
  have := List.mem_range.mp hd
  rw [Bool.and_eq_true, decide_eq_true_eq] at q
  omega
theorem pCnt_s {ms : List sMd} {a b : Nat} (hab : a < b) : pCnt ms a (b + 1) = pCnt ms a b + (if sCan ms a b = true then 1 else 0) := by
  unfold pCnt
  rw [List.range_succ, List.filter_append, List.length_append, Nat.add_assoc]
  congr 2
  by_cases c : sCan ms a b = true
  · rw [if_pos c, List.filter_cons_of_pos (by rw [c]; simpa using hab)]; rfl
  · rw [if_neg c, List.filter_cons_of_neg (by simp [c])]; rfl
theorem pCnt_e {ms : List sMd} {a : Nat} : pCnt ms a ms.length = ((List.range (a + 1)).flatMap (sPairsOf ms)).length := by
  unfold pCnt
  rw [List.range_succ, List.flatMap_append, List.length_append]
  congr 1
  simp [sPairsOf]
theorem sPairs_at {ms : List sMd} {a b : Nat} (hab : a < b) (hb : b < ms.length) (c : sCan ms a b = true) : (sPairs ms)[pCnt ms a b]? = some (a, some b) := by
  have h1 : sPairsOf ms a = (((List.range b).filter (fun d => decide (a < d) && sCan ms a d)).map (fun d => (a, some d))) ++ (a, some b) :: ((((List.range (ms.length - b - 1)).map (fun i => b + (i + 1))).filter (fun d => decide (a < d) && sCan ms a d)).map (fun d => (a, some d))) := by
    unfold sPairsOf
    rw [range_cut hb, List.filter_append, List.filter_cons_of_pos (by rw [c]; simpa using hab), List.map_append, List.map_cons]
  unfold sPairs
  rw [range_cut (show a < ms.length by omega), List.flatMap_append, List.flatMap_cons, h1, List.append_assoc, List.cons_append, ← List.append_assoc]
  have e : pCnt ms a b = ((List.range a).flatMap (sPairsOf ms) ++ ((List.range b).filter (fun d => decide (a < d) && sCan ms a d)).map (fun d => (a, some d))).length := by
    rw [List.length_append, List.length_map]; rfl
  rw [e]
  exact get_mid
theorem pCnt_le {ms : List sMd} {a b : Nat} (ha : a < ms.length) (hb : b ≤ ms.length) : pCnt ms a b ≤ (sPairs ms).length := by
  have h1 : pCnt ms a b ≤ pCnt ms a ms.length := by
    unfold pCnt
    have : ((List.range b).filter (fun d => decide (a < d) && sCan ms a d)).length ≤ ((List.range ms.length).filter (fun d => decide (a < d) && sCan ms a d)).length := by
      have e : ms.length = b + (ms.length - b) := by omega
      rw [e, List.range_add, List.filter_append, List.length_append]
      omega
    omega
  rw [pCnt_e] at h1
  refine Nat.le_trans h1 ?_
  unfold sPairs
  have e : ms.length = (a + 1) + (ms.length - (a + 1)) := by omega
  conv => rhs; rw [e, List.range_add, List.flatMap_append, List.length_append]
  omega
theorem sAll_total {ms : List sMd} : (sAll ms).length = ms.length + (sPairs ms).length := by unfold sAll; rw [List.length_append, List.length_map, List.length_range]
theorem sAll_pair {ms : List sMd} {a b : Nat} (hab : a < b) (hb : b < ms.length) (c : sCan ms a b = true) : (sAll ms)[ms.length + pCnt ms a b]? = some (a, some b) := by
  unfold sAll
  rw [List.getElem?_append_right (by rw [List.length_map, List.length_range]; omega), List.length_map, List.length_range, Nat.add_sub_cancel_left]
  exact sPairs_at hab hb c
end OP10
