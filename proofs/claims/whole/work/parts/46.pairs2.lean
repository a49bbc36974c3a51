/-! Double mends: the list of all, line by line. -/
section PV
variable {p : List Int32} {n m : Nat}
theorem flatMap_filter {α β : Type} {f : β → Bool} {g : α → List β} {l : List α} : (l.flatMap g).filter f = l.flatMap (fun a => (g a).filter f) := by
  induction l with
  | nil => rfl
  | cons a l ih => rw [List.flatMap_cons, List.filter_append, ih, List.flatMap_cons]
theorem flatMap_ext {α β : Type} {f g : α → List β} {l : List α} (h : ∀ a ∈ l, f a = g a) : l.flatMap f = l.flatMap g := by
  induction l with
  | nil => rfl
  | cons a l ih => rw [List.flatMap_cons, List.flatMap_cons, h a List.mem_cons_self, ih (fun b hb => h b (List.mem_cons_of_mem _ hb))]
theorem blk_mem {b : Nat} (h : b ∈ sBlk p m) : ∃ j, j < (sMendsAt p m).length ∧ b = (sMendsTo p m).length + j := by
  obtain ⟨j, hj, rfl⟩ := List.mem_map.mp h
  exact ⟨j, List.mem_range.mp hj, rfl⟩
theorem to_mono (h : m ≤ n) : (sMendsTo p m).length ≤ (sMendsTo p n).length := by
  by_cases q : m = n
  · rw [q]; exact Nat.le_refl _
  · obtain ⟨R, e⟩ := sMendsTo_split (p := p) (show m < n by omega)
    rw [e, List.length_append]; omega
theorem to_lt {j : Nat} (h : m < n) (hj : j < (sMendsAt p m).length) : (sMendsTo p m).length + j < (sMendsTo p n).length := by
  obtain ⟨R, e⟩ := sMendsTo_split (p := p) h
  rw [e, List.length_append, List.length_append]; omega
theorem blk_line {b : Nat} (hm : m < p.length) (h : b ∈ sBlk p m) : ((sMends p).getD b sMd0).2.1 = m := by
  obtain ⟨j, hj, rfl⟩ := blk_mem h
  rw [sMends_at hm hj]; exact (sMd_at hj).1
theorem pairsOf_move {a : Nat} (h : sNoMove p a = false) : sPairsOf (sMends p) a = [] := by
  unfold sPairsOf
  rw [filter_none, List.map_nil]
  intro b _
  unfold sNoMove at h
  have h := of_decide_eq_false h
  unfold sCan
  rw [decide_eq_false h]; simp
theorem sPlFrom_nil : ∀ (k n : Nat), p.length ≤ n → sPlFrom p k n = [] := by
  intro k
  induction k with
  | zero => intro n _; rfl
  | succ k ih =>
    intro n h
    rw [sPlFrom, ih (n + 1) (by omega)]
    unfold sPl sPlainN
    rw [if_neg (by omega)]; rfl
/-- lines behind n, as a list of lines -/
theorem lines_behind : ∀ (N : Nat), n < N → (List.range N).flatMap (fun m => if m ≤ n then [] else sPl p m) = sPlFrom p (N - 1 - n) (n + 1) := by
  have more : ∀ (k n : Nat), sPlFrom p (k + 1) n = sPlFrom p k n ++ sPl p (n + k) := by
    intro k
    induction k with
    | zero => intro n; simp [sPlFrom]
    | succ k ih =>
      intro n
      rw [sPlFrom, ih (n + 1), sPlFrom, List.append_assoc, show n + 1 + k = n + (k + 1) by omega]
  intro N
  induction N with
  | zero => intro h; omega
  | succ N ih =>
    intro h
    rw [List.range_succ, List.flatMap_append, List.flatMap_singleton]
    by_cases q : n < N
    · rw [ih q, if_neg (by omega), show N + 1 - 1 - n = (N - 1 - n) + 1 by omega, more, show n + 1 + (N - 1 - n) = N by omega]
    · have : n = N := by omega
      subst this
      rw [if_pos (Nat.le_refl _), List.append_nil, show n + 1 - 1 - n = 0 by omega, sPlFrom]
      have z : ∀ M, M ≤ n → (List.range M).flatMap (fun m => if m ≤ n then [] else sPl p m) = [] := by
        intro M hM
        rw [flatMap_ext (g := fun _ => []) (fun a ha => if_pos (by have := List.mem_range.mp ha; omega))]
        simp
      exact z n (Nat.le_refl _)
theorem pairsOf_plain {a : Nat} (hs : sProg p) (hn : n < p.length) (ha : a ∈ sBlk p n) (h : sNoMove p a = true) : sPairsOf (sMends p) a = (sPlFrom p (9 - n) (n + 1)).map (fun b => (a, some b)) := by
  have h10 := hs.1
  unfold sPairsOf
  congr 1
  rw [show (sMends p).length = (sMendsTo p p.length).length from rfl, range_blk, flatMap_filter]
  obtain ⟨ja, hja, ea⟩ := blk_mem ha
  have la := blk_line hn ha
  have step : ∀ m ∈ List.range p.length, (sBlk p m).filter (fun b => decide (a < b) && sCan (sMends p) a b) = if m ≤ n then [] else sPl p m := by
    intro m hm
    have hm := List.mem_range.mp hm
    by_cases q : m ≤ n
    · rw [if_pos q]
      refine filter_none (fun b hb => ?_)
      obtain ⟨j, hj, eb⟩ := blk_mem hb
      by_cases e : m = n
      · have lb := blk_line hm hb
        unfold sCan
        rw [la, lb, e]; simp
      · have := to_lt (p := p) (show m < n by omega) hj
        rw [decide_eq_false (show ¬ a < b by omega), Bool.false_and]
    · rw [if_neg q, ← blk_plain hm]
      refine List.filter_congr (fun b hb => ?_)
      obtain ⟨j, hj, eb⟩ := blk_mem hb
      have := to_lt (p := p) (show n < m by omega) hja
      have lb := blk_line hm hb
      unfold sNoMove at h ⊢
      have h := of_decide_eq_true h
      unfold sCan
      rw [decide_eq_true (show a < b by omega), la, lb, decide_eq_true (show n ≠ m by omega), decide_eq_true h]
      simp
  rw [flatMap_ext step, lines_behind p.length hn]
  -- nothing behind the last line
  have more : ∀ (d k n : Nat), p.length ≤ n + k → sPlFrom p (k + d) n = sPlFrom p k n := by
    intro d k
    induction k with
    | zero => intro n h; rw [Nat.zero_add, sPlFrom_nil d n (by omega)]; rfl
    | succ k ih => intro n h; rw [show k + 1 + d = (k + d) + 1 by omega, sPlFrom, sPlFrom, ih (n + 1) (by omega)]
  have := more (10 - p.length) (p.length - 1 - n) (n + 1) (by omega)
  rw [← this]
  congr 1
  omega
theorem sPr_nil (h : p.length ≤ n) : sPr p n = [] := by
  unfold sPr sPl sPlainN
  rw [if_neg (by omega)]; rfl
theorem sPrFrom_range : ∀ (k n : Nat), sPrFrom p k n = (List.range k).flatMap (fun i => sPr p (n + i)) := by
  intro k
  induction k with
  | zero => intro n; rfl
  | succ k ih =>
    intro n
    rw [sPrFrom, ih, List.range_succ_eq_map, List.flatMap_cons, List.flatMap_map]
    congr 1
    refine flatMap_ext (fun i _ => ?_)
    show sPr p (n + 1 + i) = sPr p (n + (i + 1))
    congr 1; omega
theorem flatMap_drop {α β : Type} {f : α → Bool} {g : α → List β} {l : List α} (h : ∀ a ∈ l, f a = false → g a = []) : l.flatMap g = (l.filter f).flatMap g := by
  induction l with
  | nil => rfl
  | cons a l ih =>
    have ih := ih (fun b hb => h b (List.mem_cons_of_mem _ hb))
    cases e : f a with
    | true => rw [List.flatMap_cons, List.filter_cons_of_pos e, List.flatMap_cons, ih]
    | false => rw [List.flatMap_cons, h a List.mem_cons_self e, List.nil_append, List.filter_cons_of_neg (by rw [e]; decide), ih]
/-- double mends, line by line -/
theorem sPairs_lines (hs : sProg p) : sPairs (sMends p) = sPrFrom p 10 0 := by
  have h10 := hs.1
  have e1 : sPairs (sMends p) = (List.range p.length).flatMap (sPr p) := by
    unfold sPairs
    rw [show (sMends p).length = (sMendsTo p p.length).length from rfl, range_blk, List.flatMap_assoc]
    refine flatMap_ext (fun n hn => ?_)
    have hn := List.mem_range.mp hn
    rw [flatMap_drop (f := sNoMove p) (fun a _ h => pairsOf_move h), blk_plain hn]
    unfold sPr
    refine flatMap_ext (fun a ha => ?_)
    rw [← blk_plain hn] at ha
    have := List.mem_filter.mp ha
    exact pairsOf_plain hs hn this.1 this.2
  rw [e1, sPrFrom_range]
  have z : ∀ d, (List.range (p.length + d)).flatMap (fun i => sPr p (0 + i)) = (List.range p.length).flatMap (sPr p) := by
    intro d
    induction d with
    | zero => exact flatMap_ext (fun i _ => by rw [Nat.zero_add])
    | succ d ih => rw [← Nat.add_assoc, List.range_succ, List.flatMap_append, ih, List.flatMap_singleton, sPr_nil (by omega), List.append_nil]
  have := z (10 - p.length)
  rw [show p.length + (10 - p.length) = 10 by omega] at this
  exact this.symm
theorem sPlFrom_len (k n : Nat) : (sPlFrom p k n).length = ((List.range k).map (fun i => sPlainN p (n + i))).sum := by
  induction k generalizing n with
  | zero => rfl
  | succ k ih =>
    rw [sPlFrom, List.length_append, ih, List.range_succ_eq_map, List.map_cons, List.sum_cons, List.map_map]
    congr 1
    · simp [sPl]
    · congr 1
      refine List.map_congr_left (fun i _ => ?_)
      show sPlainN p (n + 1 + i) = sPlainN p (n + (i + 1))
      congr 1; omega
theorem sPr_len : (sPr p n).length = sPlainN p n * (sPlFrom p (9 - n) (n + 1)).length := by
  unfold sPr
  rw [List.length_flatMap]
  have : ∀ l : List Nat, (l.map (fun a => ((sPlFrom p (9 - n) (n + 1)).map (fun b => (a, some b))).length)).sum = l.length * (sPlFrom p (9 - n) (n + 1)).length := by
    intro l
    induction l with
    | nil => simp
    | cons a l ih => rw [List.map_cons, List.sum_cons, ih, List.length_map, List.length_cons, Nat.succ_mul]; omega
  rw [this]
  simp [sPl]
/-- one of a line's pairs -/
theorem grid_at {α β γ : Type} {f : α → β → γ} {B : List β} : ∀ (A : List α) (k : Nat) (hB : 0 < B.length), k < A.length * B.length →
    (A.flatMap (fun a => B.map (f a)))[k]? = (A[k / B.length]?).bind (fun a => (B[k % B.length]?).map (f a)) := by
  intro A
  induction A with
  | nil => intro k hB h; simp at h
  | cons a A ih =>
    intro k hB h
    rw [List.flatMap_cons]
    by_cases q : k < B.length
    · rw [List.getElem?_append_left (by rw [List.length_map]; exact q), List.getElem?_map, Nat.div_eq_of_lt q, Nat.mod_eq_of_lt q]
      rfl
    · rw [List.getElem?_append_right (by rw [List.length_map]; omega), List.length_map, ih (k - B.length) hB (by rw [List.length_cons, Nat.succ_mul] at h; omega)]
      have e1 : k / B.length = (k - B.length) / B.length + 1 := by
        rw [← Nat.sub_add_cancel (show B.length ≤ k by omega), Nat.add_div_right _ hB, Nat.sub_add_cancel (by omega)]
      have e2 : k % B.length = (k - B.length) % B.length := by
        rw [← Nat.sub_add_cancel (show B.length ≤ k by omega), Nat.add_mod_right, Nat.sub_add_cancel (by omega)]
      rw [e1, e2, List.getElem?_cons_succ]
end PV
