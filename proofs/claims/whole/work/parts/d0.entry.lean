/-! What the law's entry gives of the world below the base. -/
/-- the String constants by their numbers - 1 -/
def jTm : List (String × Nat) := [("MendBench$BodyReade\x72", 44), ("MendBench$BodyReade\x72", 67), ("MendBench$BodyReade\x72", 98), ("MendBench$BodyReade\x72", 53), ("MendBench$BodyReade\x72", 96), ("MendBench$BodyReade\x72", 59), ("MendBench$BodyReade\x72", 61), ("MendBench$LawReade\x72", 58), ("MendBench$LawReade\x72", 87), ("MendBench$LawReade\x72", 56), ("MendBench$LawReade\x72", 40), ("MendBenchModel", 130), ("MendBenchModel", 132), ("MendBenchModel", 134), ("MendBenchModel", 136), ("MendBenchModel", 140), ("MendBenchModel", 184), ("MendBenchModel", 167), ("MendBenchModel", 169), ("MendBenchModel", 171), ("MendBenchModel", 195), ("MendBenchModel", 200), ("MendBench", 112), ("MendBench", 138), ("MendBench", 163), ("MendBench", 167), ("MendBench", 178), ("MendBench", 205), ("MendBench", 210), ("MendBench", 217), ("MendBench", 236), ("MendBench", 239), ("MendBench", 285), ("MendBench", 317), ("MendBench", 329), ("MendBench", 341), ("MendBench", 349), ("MendBench", 375), ("MendBench", 397), ("MendBench", 431)]
def tmS (i : Nat) : Term := .string (jTm.getD i ("", 0)).1 (jTm.getD i ("", 0)).2
abbrev jFl : List Cond := flatC (Jvm.Cond.and given_1 narrow_1)
set_option maxRecDepth 100000 in
theorem jIns_tbl : ∀ c, c < 13 → Cond.instantiable (jCn c) (jTN c) ∈ tables_1 := by decide +kernel
set_option maxRecDepth 100000 in
theorem jTm_ex : ∀ i, i < 40 → Cond.exactly (tmS i) "java/lang/String" ∈ jFl := by decide +kernel
set_option maxRecDepth 100000 in
theorem jTm_co : ∀ i, i < 22 → Cond.eq (.field (tmS i) "java/lang/String" "coder" "B") (.int 0) ∈ jFl := by decide +kernel
set_option maxRecDepth 100000 in
theorem jTm_ar : ∀ i, i < 22 → Cond.arrayOf (.field (tmS i) "java/lang/String" "value" "[B") .byte ∈ jFl := by decide +kernel
set_option maxRecDepth 100000 in
theorem jTm_le : ∀ i, i < 22 → Cond.eq (.length (.field (tmS i) "java/lang/String" "value" "[B")) (.int (Int32.ofNat (jTxtL.getD i 0))) ∈ jFl := by decide +kernel
set_option maxRecDepth 100000 in
theorem jTm_el : ∀ i, i < 22 → ∀ j, j < jTxtL.getD i 0 → Cond.eq (.elem (.field (tmS i) "java/lang/String" "value" "[B") (.int (Int32.ofNat j))) (.int ((jTxt.getD i []).getD j 0)) ∈ jFl := by decide +kernel
set_option maxRecDepth 100000 in
theorem jTm_str : ∀ q ∈ jStr, Cond.stringRef q.1 q.2.1 q.2.2.1 ∈ tables_1 ∧ 1 ≤ q.2.2.2 ∧ q.2.2.2 ≤ 40 ∧ jTm.getD (q.2.2.2 - 1) ("", 0) = (q.1, q.2.1) := by decide +kernel
theorem jTxtL_lt : ∀ i, i < 22 → jTxtL.getD i 0 < 2 ^ 31 := by decide +kernel
set_option maxRecDepth 100000 in
theorem jXn_fl : ∀ a ∈ jXn, ∀ b ∈ jXn, a ≠ b → Cond.not (.castable a b) ∈ jFl := by decide +kernel
theorem jNest_on : ∀ w, jNk w = true → w.onTables = true := fun w h => by cases w <;> first | rfl | (exfalso; revert h; simp [jNk])
section ENTRY
variable {s : State} {b : Nat}
theorem jE_cls (hts : ∀ w ∈ lw_tbl, w.before #[Value.ref b] s = true) : ∃ D : va_G, ∀ (c : Nat) (q : vw_C), vwCl[c]? = some q → u_Kn s q.1 q.2.1 q.2.2 (D.1 c) (D.2 c) := by
  have h0 : ∀ c : Nat, ∃ p : ClassId × (Nat → Nat), ∀ q : vw_C, vwCl[c]? = some q → u_Kn s q.1 q.2.1 q.2.2 p.1 p.2 := by
    intro c
    by_cases hc : c < 13
    · obtain ⟨cC, iS, hk⟩ := u_known (C := jCn c) (T := jTX c) (N := jTN c) (n := jTN c) hts (fun w hw => jTbl (jLay_tbl c hc w hw).1) (hts _ (jTbl (jIns_tbl c hc)))
      refine ⟨(cC, iS), fun q hq => ?_⟩
      obtain ⟨-, rfl⟩ := jCl_of hq
      exact hk
    · exact ⟨(0, fun _ => 0), fun q hq => absurd (jCl_of hq).1 hc⟩
  obtain ⟨f, hf⟩ := Classical.axiomOfChoice h0
  exact ⟨(fun c => (f c).1, fun c => (f c).2), hf⟩
theorem jE_arr (hts : ∀ w ∈ lw_tbl, w.before #[Value.ref b] s = true) : ∃ f : Nat → ClassId, ∀ (k : Nat) (ty : FieldType), jty k = some ty → ArrOfT s (f k) ty ∧ va_RA s (f k) ty := by
  obtain ⟨c13, k13, m13, a1, a2, a3⟩ := Cond.arrayClass_spec (hts (.arrayClass .byte) (jTbl (jtb2 174 rfl)))
  obtain ⟨c14, k14, m14, b1, b2, b3⟩ := Cond.arrayClass_spec (hts (.arrayClass .int) (jTbl (jtb1 68 rfl)))
  obtain ⟨m15, c15, k15, d1, d2, d3, d4, d5⟩ := Cond.arrayOver_spec (hts (.arrayOver (.object "MendBench$Program")) (jTbl (jtb1 207 rfl)))
  obtain ⟨c16, k16, m16, e1, e2, e3⟩ := Cond.arrayClass_spec (hts (.arrayClass .long) (jTbl (jtb8 117 rfl)))
  refine ⟨fun k => if k = 13 then c13 else if k = 14 then c14 else if k = 15 then c15 else c16, fun k ty hk => ?_⟩
  unfold jty at hk
  split at hk
  · cases hk; exact ⟨fun n z => ⟨fun k h => (by cases h), k13, a2, m13, a3⟩, a1⟩
  · cases hk; exact ⟨fun n z => ⟨fun k h => (by cases h), k14, b2, m14, b3⟩, b1⟩
  · cases hk; exact ⟨fun n z => ⟨fun k h => (by cases h), k15, d3, m15, d4⟩, k15, m15, d3, d4, d1, d5⟩
  · cases hk; exact ⟨fun n z => ⟨fun k h => (by cases h), k16, e2, m16, e3⟩, e1⟩
  · cases hk
theorem jE_str {A : Nat → Prop} (hs : ∀ w ∈ jFl, w.before #[Value.ref b] s = true) (hA : ∀ a : Nat, a < s.heap.size → ¬ A a) : ∃ ad : Nat → Nat × Nat, ∀ i, i < 40 → (tmS i).eval #[Value.ref b] s none [] s = some (.ref (ad i).1) ∧
    (i < 22 → va_O "java/lang/String" (ad i).1 A s s.heap ∧ va_OF "java/lang/String" "coder" "B" (.int 0) (ad i).1 A s s.heap ∧ va_OF "java/lang/String" "value" "[B" (.ref (ad i).2) (ad i).1 A s s.heap ∧ va_T .byte (ad i).2 (jTxtL.getD i 0) (fun j => .int ((jTxt.getD i []).getD j 0)) A s s.heap) := by
  have h0 : ∀ i : Nat, ∃ q : Nat × Nat, i < 40 → (tmS i).eval #[Value.ref b] s none [] s = some (.ref q.1) ∧
      (i < 22 → va_O "java/lang/String" q.1 A s s.heap ∧ va_OF "java/lang/String" "coder" "B" (.int 0) q.1 A s s.heap ∧ va_OF "java/lang/String" "value" "[B" (.ref q.2) q.1 A s s.heap ∧ va_T .byte q.2 (jTxtL.getD i 0) (fun j => .int ((jTxt.getD i []).getD j 0)) A s s.heap) := by
    intro i
    by_cases hi : i < 40
    · obtain ⟨a, c, cA, kA, q1, q2, q3, q4, q5, q6, -⟩ := Cond.exactly_spec (args := #[Value.ref b]) (first := s) (o := none) (s := s) (idx := []) (t := tmS i) (cls := "java/lang/String") (hs _ (jTm_ex i hi))
      by_cases h2 : i < 22
      · obtain ⟨t, ht, hT⟩ := va_Tof (f := fun j => .int ((jTxt.getD i []).getD j 0)) (A := A) (jTxtL_lt i h2) (hs _ (jTm_ar i h2)) (va_eqt (hs _ (jTm_le i h2))) (fun j hj => va_eqt (hs _ (jTm_el i h2 j hj))) hA
        exact ⟨(a, t), fun _ => ⟨q1, fun _ => ⟨⟨cA, q3, q5, by rw [q6]; exact q2, hA a (Array.getElem?_eq_some_iff.mp q3).1⟩, vk_OFof q1 (va_eqt (hs _ (jTm_co i h2))) hA, vk_OFof q1 ht hA, hT⟩⟩⟩
      · exact ⟨(a, 0), fun _ => ⟨q1, fun z => absurd z h2⟩⟩
    · exact ⟨(0, 0), fun h => absurd h hi⟩
  exact Classical.axiomOfChoice h0

set_option maxRecDepth 100000 in
theorem jE_start {L : Nat} {xs : Nat → Int32} (hts : ∀ w ∈ lw_tbl, w.before #[Value.ref b] s = true) (hX : va_X b L xs s s.heap) (hbl : b < s.heap.size) (hgv : (Jvm.Cond.and given_1 narrow_1).before #[Value.ref b] s = true) :
    ∃ G : jG, jE G s s.heap ∧ G.2.2.1 = s.heap.size ∧ G.2.2.2.1 0 = b ∧ G.2.2.2.2 = (L, xs) := by
  have hs : ∀ w ∈ jFl, w.before #[Value.ref b] s = true := fun w hw => flat_of_before _ hgv w hw
  obtain ⟨D, hD⟩ := jE_cls hts
  obtain ⟨f, hf⟩ := jE_arr hts
  have hA : ∀ a : Nat, a < s.heap.size → ¬ s.heap.size ≤ a := fun a h => Nat.not_le.mpr h
  obtain ⟨ad, had⟩ := jE_str (A := fun q => s.heap.size ≤ q) hs hA
  have hF := va_Zqof (A := fun q => s.heap.size ≤ q) (hts (.laysStatic "jdk/internal/util/Preconditions" "SIOOBE_FORMATTER" "Ljava/util/function/BiFunction;") (jTbl (jtb4 12 rfl))) (hts (.initialized "jdk/internal/util/Preconditions") (jTbl (jtb1 16 rfl))) (hs _ (by decide +kernel)) hA
  have fin : ∃ fm : Nat, va_Z "jdk/internal/util/Preconditions" "SIOOBE_FORMATTER" "Ljava/util/function/BiFunction;" .null (fun q => s.heap.size ≤ q) s s.heap ∨ va_Z "jdk/internal/util/Preconditions" "SIOOBE_FORMATTER" "Ljava/util/function/BiFunction;" (.ref fm) (fun q => s.heap.size ≤ q) s s.heap := by
    rcases hF with z | ⟨t, z⟩
    · exact ⟨0, Or.inl z⟩
    · exact ⟨t, Or.inr z⟩
  obtain ⟨fm, hfm⟩ := fin
  refine ⟨(D, f, s.heap.size, fun n => if n = 0 then b else if n < 41 then (ad (n - 1)).1 else if n = 999 then fm else (ad (n - 501)).2, (L, xs)), ⟨hD, hf, ⟨fun w hw => va_Nw.of (jNest_on w (List.mem_filter.mp hw).2) (hts w (List.mem_filter.mp hw).1), fun a ha c hc hn => va_Nc.of (hs _ (jXn_fl a ha c hc hn)), va_AO.of (hts _ (jTbl (jtb1 207 rfl)))⟩, fun q hq => ?_, ⟨fun i hi => ?_, trivial⟩, ⟨vx_Zqof (hts _ (jTbl (jtb4 108 rfl))) (hts _ (jTbl (jtb1 18 rfl))) (hs _ (by decide +kernel)) hA, vx_Zqof (hts _ (jTbl (jtb4 110 rfl))) (hts _ (jTbl (jtb1 18 rfl))) (hs _ (by decide +kernel)) hA⟩, ⟨va_Zof (hts _ (jTbl (jtb3 236 rfl))) (hts _ (jTbl (jtb1 14 rfl))) (va_eqi (hs _ (by decide +kernel))) hA, hfm⟩, hX, hA b hbl, hbl⟩, rfl, rfl, rfl⟩
  · obtain ⟨w1, w2, w3, w4⟩ := jTm_str q hq
    have e := (had (q.2.2.2 - 1) (by omega)).1
    unfold tmS at e
    rw [w4] at e
    refine vk_R.of (hts _ (jTbl w1)) ?_
    show _ = some (Value.ref (if q.2.2.2 = 0 then b else if q.2.2.2 < 41 then (ad (q.2.2.2 - 1)).1 else if q.2.2.2 = 999 then fm else (ad (q.2.2.2 - 501)).2))
    rw [if_neg (by omega), if_pos (by omega)]
    exact e
  · have e := (had i (by omega)).2 hi
    have e1 : (if i + 1 = 0 then b else if i + 1 < 41 then (ad (i + 1 - 1)).1 else if i + 1 = 999 then fm else (ad (i + 1 - 501)).2) = (ad i).1 := by rw [if_neg (by omega), if_pos (by omega), Nat.add_sub_cancel]
    have e2 : (if i + 501 = 0 then b else if i + 501 < 41 then (ad (i + 501 - 1)).1 else if i + 501 = 999 then fm else (ad (i + 501 - 501)).2) = (ad i).2 := by rw [if_neg (by omega), if_neg (by omega), if_neg (by omega), Nat.add_sub_cancel]
    show va_O "java/lang/String" (if i + 1 = 0 then b else if i + 1 < 41 then (ad (i + 1 - 1)).1 else if i + 1 = 999 then fm else (ad (i + 1 - 501)).2) _ s s.heap ∧ va_OF "java/lang/String" "coder" "B" (.int 0) (if i + 1 = 0 then b else if i + 1 < 41 then (ad (i + 1 - 1)).1 else if i + 1 = 999 then fm else (ad (i + 1 - 501)).2) _ s s.heap ∧ va_OF "java/lang/String" "value" "[B" (.ref (if i + 501 = 0 then b else if i + 501 < 41 then (ad (i + 501 - 1)).1 else if i + 501 = 999 then fm else (ad (i + 501 - 501)).2)) (if i + 1 = 0 then b else if i + 1 < 41 then (ad (i + 1 - 1)).1 else if i + 1 = 999 then fm else (ad (i + 1 - 501)).2) _ s s.heap ∧ va_T .byte (if i + 501 = 0 then b else if i + 501 < 41 then (ad (i + 501 - 1)).1 else if i + 501 = 999 then fm else (ad (i + 501 - 501)).2) _ _ _ s s.heap
    rw [e1, e2]
    exact e
end ENTRY
