/-! What a read line is packed of. -/
section LNF
variable {sc : Nat × (Nat → Int32)} {h h0 : jH} {T : List Int32} {b d n : Nat} {ls : List Int32} {kd md : Int32}
theorem pack_fld {k m a s b c : Int32} (hk : sIn k 0 7) (hm : sIn m (-1) 6) (ha : sIn a (-1) 126) (hs : sIn s 0 15) (hb : sIn b (-1) 126) (hc : sIn c 0 15) :
    sKind (sPack k m a s b c) = k ∧ sMade (sPack k m a s b c) = m ∧ sFirst (sPack k m a s b c) = a ∧ sSign (sPack k m a s b c) = s ∧ sSecond (sPack k m a s b c) = b ∧ sCount (sPack k m a s b c) = c := by
  obtain ⟨k', hk', ek⟩ := plus0 (N := 8) hk
  obtain ⟨m', hm', em⟩ := plus1 (N := 8) hm (by decide)
  obtain ⟨a', ha', ea⟩ := plus1 (N := 128) ha (by decide)
  obtain ⟨s', hs', es⟩ := plus0 (N := 16) hs
  obtain ⟨b', hb', eb⟩ := plus1 (N := 128) hb (by decide)
  obtain ⟨c', hc', ec⟩ := plus0 (N := 16) hc
  have e : sPack k m a s b c = sPk k' m' a' s' b' c' := by unfold sPack sPk; rw [ek, em, ea, es, eb, ec]
  have r : sRg k' m' a' s' b' c' := ⟨hk', hm', ha', hs', hb', hc'⟩
  rw [e, f_kind r, f_made r, f_first r, f_sign r, f_second r, f_count r]
  exact ⟨ek.symm, minus1 em, minus1 ea, es.symm, minus1 eb, ec.symm⟩
theorem sIdxF_in {c : Int32} : ∀ f k, sIdxF n c f k = -1 ∨ ∃ j, k ≤ j ∧ j < k + f ∧ sIdxF n c f k = nI j := by
  intro f
  induction f with
  | zero => intro k; exact Or.inl rfl
  | succ f ih =>
    intro k
    unfold sIdxF
    by_cases e : c = jch n k
    · rw [if_pos e]; exact Or.inr ⟨k, Nat.le_refl _, by omega, rfl⟩
    · rw [if_neg e]
      rcases ih (k + 1) with q | ⟨j, h1, h2, h3⟩
      · exact Or.inl q
      · exact Or.inr ⟨j, by omega, by omega, h3⟩
theorem tLet_in : tLet T b n = -1 ∨ ∃ j, j < jTxtL.getD n 0 ∧ tLet T b n = nI j := by
  unfold tLet
  by_cases c : tKind T b = 1 ∧ tEnd T b - b = 1
  · rw [sIf_t c]
    rcases sIdxF_in (n := n) (c := T.getD b 0) (jTxtL.getD n 0) 0 with q | ⟨j, h1, h2, h3⟩
    · exact Or.inl q
    · exact Or.inr ⟨j, by omega, h3⟩
  · rw [sIf_f c]; exact Or.inl rfl
theorem tNumb_dig (q : tKind T b = 2) (hb : b ≤ T.length) : b < T.length ∧ ∀ k, k < tEnd T b - b → isDig (T.getD (b + k) 0) := by
  obtain ⟨w1, w2, -⟩ := span_num hb
  have lt := w1.mp q
  have all := sSpan_all (T := T) (P := isDig) _ b rfl
  have e := w2 lt
  exact ⟨(all b (Nat.le_refl _) lt).1, fun k hk => (all (b + k) (by omega) (by omega)).2⟩
theorem num_lt (q : tNumb T b d) (hb : b ≤ T.length) : sNum T b (tEnd T b - b) < 10 ^ d := Nat.lt_of_lt_of_le (sNum_lt (tNumb_dig q.1 hb).2) (Nat.pow_le_pow_right (by decide) q.2)
theorem sAt_in (hb : b ≤ T.length) : sAt T b 2 2 = -1 ∨ sAtom (sAt T b 2 2) := by
  unfold sAt
  by_cases c : tNumb T b 2
  · rw [sIf_t c]
    have := num_lt c hb
    generalize sNum T b (tEnd T b - b) = m at *
    rw [show (10 : Int32) = nI 10 from rfl, nI_add]
    have e := nI_toInt (n := m + 10) (by omega)
    exact Or.inr (Or.inr ⟨by omega, by omega⟩)
  · rw [sIf_f c]
    rcases tLet_in (T := T) (b := b) (n := 2) with q | ⟨j, h1, h2⟩
    · exact Or.inl q
    · have h1' : j < 6 := h1
      have e := nI_toInt (n := j) (by omega)
      rw [h2]
      exact Or.inr (Or.inl ⟨by omega, by omega⟩)
theorem sSg_in (c : Int32) : sIn (sSg c) 0 8 := by
  unfold sSg
  repeat' split
  all_goals exact ⟨by decide, by decide⟩
theorem tSgn_in : sIn (tSgn T b) 0 8 := by
  unfold tSgn
  by_cases c : tKind T b = 3
  · rw [sIf_t c]; exact sSg_in _
  · rw [sIf_f c]; exact ⟨by decide, by decide⟩
theorem atom_rg {a : Int32} (h : sAtom a) : sIn a (-1) 126 := sAtom_rg h
theorem ok_sum {q : Int32 × Nat} (hb : nx T b ≤ T.length) (hk : kd = 0 ∧ sIn md 0 3 ∨ kd = 3 ∧ md = -1) (e : pSum T kd md b = .inr q) : sOk q.1 ∧ q.2 ≤ T.length := by
  have kd_in : sIn kd 0 7 := by rcases hk with ⟨rfl, -⟩ | ⟨rfl, -⟩ <;> exact ⟨by decide, by decide⟩
  have md_in : sIn md (-1) 6 := by
    rcases hk with ⟨-, h⟩ | ⟨-, rfl⟩
    · exact ⟨by have := h.1; omega, by have := h.2; omega⟩
    · exact ⟨by decide, by decide⟩
  unfold pSum at e
  have l2 := (nx_le hb).2.1
  have l3 := (nx_le l2).2.1
  have l4 := (nx_le l3).2.1
  have a1 := sAt_in hb
  have a3 := sAt_in l3
  have s2 := tSgn_in (T := T) (b := nx T (nx T b))
  generalize nx T (nx T (nx T (nx T b))) = b4 at *
  generalize nx T (nx T (nx T b)) = b3 at *
  generalize nx T (nx T b) = b2 at *
  generalize nx T b = b1 at *
  generalize sAt T b1 2 2 = x at *
  generalize sAt T b3 2 2 = y at *
  generalize tSgn T b2 = s at *
  by_cases c1 : x = -1
  · rw [sIf_t c1] at e; cases e
  · rw [sIf_f c1] at e
    have ax : sAtom x := a1.resolve_left c1
    by_cases c2 : ¬ s < 1 ∧ s ≤ 5
    · rw [sIf_t c2] at e
      by_cases c3 : y = -1
      · rw [sIf_t c3] at e; cases e
      · rw [sIf_f c3] at e
        cases e
        have ay : sAtom y := a3.resolve_left c3
        have s5 : sIn s 1 5 := by
          obtain ⟨p, r⟩ := c2
          rw [toInt_lt_iff] at p
          rw [toInt_le_iff] at r
          have e1 : (1 : Int32).toInt = 1 := rfl
          have e5 : (5 : Int32).toInt = 5 := rfl
          exact ⟨by omega, by omega⟩
        obtain ⟨f1, f2, f3, f4, f5, f6⟩ := pack_fld kd_in md_in (atom_rg ax) (s := s) ⟨by have := s2.1; omega, by have := s2.2; omega⟩ (atom_rg ay) (c := 0) ⟨by decide, by decide⟩
        refine ⟨Or.inr ⟨?_, ?_, Or.inl ⟨?_, Or.inr ⟨?_, ?_⟩, ?_⟩⟩, l4⟩
        · rw [f1, f2, f3, f4, f5, f6]
        · rw [f3]; exact ax
        · rw [f1, f2]; exact hk
        · rw [f4]; exact s5
        · rw [f5]; exact ay
        · exact f6
    · rw [sIf_f c2] at e
      cases e
      obtain ⟨f1, f2, f3, f4, f5, f6⟩ := pack_fld kd_in md_in (atom_rg ax) (s := 0) ⟨by decide, by decide⟩ (b := -1) ⟨by decide, by decide⟩ (c := 0) ⟨by decide, by decide⟩
      refine ⟨Or.inr ⟨?_, ?_, Or.inl ⟨?_, Or.inl ⟨f4, f5⟩, f6⟩⟩, l2⟩
      · rw [f1, f2, f3, f4, f5, f6]
      · rw [f3]; exact ax
      · rw [f1, f2]; exact hk
theorem ok_test {q : Int32 × Nat} {v : Int32} (hb : b ≤ T.length) (hk : kd = 1 ∨ kd = 2) (hv : sIn v 1 9) (e : pTest T kd v b = .inr q) : sOk q.1 ∧ q.2 ≤ T.length := by
  have kd_in : sIn kd 0 7 := by rcases hk with rfl | rfl <;> exact ⟨by decide, by decide⟩
  unfold pTest at e
  have l1 := (nx_le hb).2.1
  have l2 := (nx_le l1).2.1
  have l3 := (nx_le l2).2.1
  have l4 := (nx_le l3).2.1
  have a1 := sAt_in l1
  have a3 := sAt_in l3
  have s2 := tSgn_in (T := T) (b := nx T (nx T b))
  generalize nx T (nx T (nx T (nx T b))) = b4 at *
  generalize nx T (nx T (nx T b)) = b3 at *
  generalize nx T (nx T b) = b2 at *
  generalize nx T b = b1 at *
  generalize sAt T b1 2 2 = x at *
  generalize sAt T b3 2 2 = y at *
  generalize tSgn T b2 = s at *
  by_cases c0 : tWd T b 4
  · rw [sIf_t c0] at e
    by_cases c1 : x = -1
    · rw [sIf_t c1] at e; cases e
    · rw [sIf_f c1] at e
      have ax : sAtom x := a1.resolve_left c1
      by_cases c2 : ¬ s < 6 ∧ s ≤ 8
      · rw [sIf_t c2] at e
        by_cases c3 : y = -1
        · rw [sIf_t c3] at e; cases e
        · rw [sIf_f c3] at e
          cases e
          have ay : sAtom y := a3.resolve_left c3
          have s5 : sIn s 6 8 := by
            obtain ⟨p, r⟩ := c2
            rw [toInt_lt_iff] at p
            rw [toInt_le_iff] at r
            have e1 : (6 : Int32).toInt = 6 := rfl
            have e5 : (8 : Int32).toInt = 8 := rfl
            exact ⟨by omega, by omega⟩
          obtain ⟨f1, f2, f3, f4, f5, f6⟩ := pack_fld kd_in (m := -1) ⟨by decide, by decide⟩ (atom_rg ax) (s := s) ⟨by have := s2.1; omega, by have := s2.2; omega⟩ (atom_rg ay) (c := v) ⟨by have := hv.1; omega, by have := hv.2; omega⟩
          refine ⟨Or.inr ⟨?_, ?_, Or.inr ⟨?_, ?_, ?_, ?_, ?_⟩⟩, l4⟩
          · rw [f1, f2, f3, f4, f5, f6]
          · rw [f3]; exact ax
          · rw [f1]; exact hk
          · exact f2
          · rw [f4]; exact s5
          · rw [f5]; exact ay
          · rw [f6]; exact hv
      · rw [sIf_f c2] at e; cases e
  · rw [sIf_f c0] at e; cases e
theorem numAt_in (q : tNumb T b 1) (hb : b ≤ T.length) (h0 : ¬ sNumAt T b = 0) : sIn (sNumAt T b) 1 9 := by
  have := num_lt q hb
  unfold sNumAt at *
  generalize sNum T b (tEnd T b - b) = m at *
  have e := nI_toInt (n := m) (by omega)
  have : m ≠ 0 := fun c => h0 (by rw [c]; rfl)
  exact ⟨by omega, by omega⟩
theorem ok_line {q : Int32 × Nat} (hb : b ≤ T.length) (e : pLine T b = .inr q) : sOk q.1 ∧ q.2 ≤ T.length := by
  have l1 := (nx_le hb).2.1
  have l2 := (nx_le l1).2.1
  have l3 := (nx_le l2).2.1
  have jump : ∀ k : Int32, k = 1 ∨ k = 2 → pJump T k b = .inr q → sOk q.1 ∧ q.2 ≤ T.length := by
    intro k hk e
    unfold pJump at e
    by_cases c : tNumb T (nx T b) 1 ∧ ¬ sNumAt T (nx T b) = 0
    · rw [sIf_t c] at e
      exact ok_test l2 hk (numAt_in c.1 l1 c.2) e
    · rw [sIf_f c] at e; cases e
  unfold pLine at e
  by_cases c0 : tWd T b 0
  · rw [sIf_t c0] at e
    unfold pSet at e
    by_cases c1 : tLet T (nx T b) 1 = -1
    · rw [sIf_t c1] at e; cases e
    · rw [sIf_f c1] at e
      by_cases c2 : tMark T (nx T (nx T b)) 61
      · rw [sIf_t c2] at e
        refine ok_sum l3 (Or.inl ⟨rfl, ?_⟩) e
        rcases tLet_in (T := T) (b := nx T b) (n := 1) with z | ⟨j, h1, h2⟩
        · exact absurd z c1
        · have h1' : j < 4 := h1
          have e := nI_toInt (n := j) (by omega)
          rw [h2]; exact ⟨by omega, by omega⟩
      · rw [sIf_f c2] at e; cases e
  · rw [sIf_f c0] at e
    by_cases c1 : tWd T b 3
    · rw [sIf_t c1] at e; exact jump 1 (Or.inl rfl) e
    · rw [sIf_f c1] at e
      by_cases c2 : tWd T b 5
      · rw [sIf_t c2] at e; exact jump 2 (Or.inr rfl) e
      · rw [sIf_f c2] at e
        by_cases c3 : tWd T b 6
        · rw [sIf_t c3] at e; exact ok_sum l1 (Or.inr ⟨rfl, rfl⟩) e
        · rw [sIf_f c3] at e; cases e
theorem ok_body : ∀ k b ls p, b ≤ T.length → ls.length + k = 10 → (∀ l ∈ ls, sOk l) → pBody T k b ls = .inr p → sProg p ∧ p ≠ [] := by
  intro k
  induction k with
  | zero => intro b ls p _ _ _ e; cases e
  | succ k ih =>
    intro b ls p hb hl ho e
    unfold pBody at e
    cases el : pLine T b with
    | inl x => rw [el] at e; cases e
    | inr q =>
      rw [el] at e
      replace e : sIf (T.length ≤ q.2) (Sum.inr (ls ++ [q.1])) (sIf (tMark T q.2 59) (pBody T k (nx T q.2) (ls ++ [q.1])) (Sum.inl q.2)) = Sum.inr p := e
      obtain ⟨o1, o2⟩ := ok_line hb el
      have ho' : ∀ l ∈ ls ++ [q.1], sOk l := fun l hl => by
        rcases List.mem_append.mp hl with y | y
        · exact ho l y
        · rw [List.mem_singleton.mp y]; exact o1
      by_cases c : T.length ≤ q.2
      · rw [sIf_t c] at e
        cases e
        exact ⟨⟨by rw [List.length_append, List.length_singleton]; omega, ho'⟩, by simp⟩
      · rw [sIf_f c] at e
        by_cases c2 : tMark T q.2 59
        · rw [sIf_t c2] at e
          exact ih _ _ _ (nx_le o2).2.1 (by rw [List.length_append, List.length_singleton]; omega) ho' e
        · rw [sIf_f c2] at e; cases e
theorem ok_text {p : List Int32} (e : pText T = .inr p) : sProg p ∧ p ≠ [] := ok_body 10 _ [] p (skip_le (Nat.zero_le _)) rfl (fun l hl => absurd hl List.not_mem_nil) e
/-- a letter, as the reference finds it -/
theorem let_nat {c : Int32} (h : isLet c) : ∃ m, m < 26 ∧ c = nI (97 + m) := by
  obtain ⟨h1, h2⟩ := h
  rw [toInt_lt_iff] at h1 h2
  have e1 : (97 : Int32).toInt = 97 := rfl
  have e2 : (122 : Int32).toInt = 122 := rfl
  refine ⟨c.toInt.toNat - 97, by omega, ?_⟩
  rw [show 97 + (c.toInt.toNat - 97) = c.toInt.toNat by omega]
  exact toInt_nn (by omega)
theorem idx2 : ∀ m, m < 26 → sIdx 2 (nI (97 + m)) = if nI (97 + m) ≤ 100 then nI (97 + m) - 97 else if nI (97 + m) = 120 then 4 else if nI (97 + m) = 121 then 5 else -1 := by decide +kernel
theorem idx1 : ∀ m, m < 26 → sIdx 1 (nI (97 + m)) = if nI (97 + m) ≤ 100 then nI (97 + m) - 97 else -1 := by decide +kernel
theorem sgn_mark {c : Int32} (h : tMark T b c) : tSgn T b = sSg c := by
  rw [← h.2]; exact sIf_t h.1
theorem sgn_no5 (h1 : ¬ tMark T b 43) (h2 : ¬ tMark T b 45) (h3 : ¬ tMark T b 42) (h4 : ¬ tMark T b 47) (h5 : ¬ tMark T b 37) : ¬ (¬ tSgn T b < 1 ∧ tSgn T b ≤ 5) := by
  unfold tSgn
  by_cases k : tKind T b = 3
  · rw [sIf_t k]
    unfold sSg
    rw [if_neg (fun q => h1 ⟨k, q⟩), if_neg (fun q => h2 ⟨k, q⟩), if_neg (fun q => h3 ⟨k, q⟩), if_neg (fun q => h4 ⟨k, q⟩), if_neg (fun q => h5 ⟨k, q⟩)]
    repeat' split
    all_goals decide
  · rw [sIf_f k]; decide
theorem sgn_no3 (h1 : ¬ tMark T b 60) (h2 : ¬ tMark T b 62) (h3 : ¬ tMark T b 61) : ¬ (¬ tSgn T b < 6 ∧ tSgn T b ≤ 8) := by
  unfold tSgn
  by_cases k : tKind T b = 3
  · rw [sIf_t k]
    unfold sSg
    rw [if_neg (fun q => h1 ⟨k, q⟩), if_neg (fun q => h2 ⟨k, q⟩), if_neg (fun q => h3 ⟨k, q⟩)]
    repeat' split
    all_goals decide
  · rw [sIf_f k]; decide
end LNF
