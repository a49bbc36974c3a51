/-! Double mends, line by line. -/
section PU
variable {p : List Int32} {n m : Nat}
def sIx (p : List Int32) (n j : Nat) : Nat := (sMendsTo p n).length + (if sMove p n ≠ [] ∧ (sAhead (p.getD n 4)).length ≤ j then j + 1 else j)
/-- the mends of a line that are no moves, by number -/
def sPl (p : List Int32) (n : Nat) : List Nat := (List.range (sPlainN p n)).map (sIx p n)
def sPlFrom (p : List Int32) : Nat → Nat → List Nat
  | 0, _ => []
  | k + 1, n => sPl p n ++ sPlFrom p k (n + 1)
def sPr (p : List Int32) (n : Nat) : List (Nat × Option Nat) := (sPl p n).flatMap (fun a => (sPlFrom p (9 - n) (n + 1)).map (fun b => (a, some b)))
def sPrFrom (p : List Int32) : Nat → Nat → List (Nat × Option Nat)
  | 0, _ => []
  | k + 1, n => sPr p n ++ sPrFrom p k (n + 1)
def sBlk (p : List Int32) (n : Nat) : List Nat := (List.range (sMendsAt p n).length).map (fun j => (sMendsTo p n).length + j)
theorem range_plus (a b : Nat) : List.range (a + b) = List.range a ++ (List.range b).map (fun j => a + j) := by
  induction b with
  | zero => simp
  | succ b ih => rw [← Nat.add_assoc, List.range_succ, ih, List.range_succ, List.map_append]; simp
theorem range_blk : List.range (sMendsTo p n).length = (List.range n).flatMap (sBlk p) := by
  induction n with
  | zero => rfl
  | succ n ih =>
    rw [sMendsTo_succ, List.length_append, range_plus, ih, List.range_succ, List.flatMap_append]
    simp [sBlk]
theorem sMendsTo_split (h : m < n) : ∃ R, sMendsTo p n = sMendsTo p m ++ (sMendsAt p m ++ R) := by
  induction n with
  | zero => omega
  | succ n ih =>
    by_cases q : m = n
    · subst q; exact ⟨[], by rw [sMendsTo_succ, List.append_nil]⟩
    · obtain ⟨R, e⟩ := ih (by omega)
      exact ⟨R ++ sMendsAt p n, by rw [sMendsTo_succ, e]; simp⟩
theorem sMends_at {j : Nat} (hm : m < p.length) (hj : j < (sMendsAt p m).length) : (sMends p).getD ((sMendsTo p m).length + j) sMd0 = (sMendsAt p m).getD j sMd0 := by
  obtain ⟨R, e⟩ := sMendsTo_split (p := p) hm
  rw [← sMendsTo_all, e, List.getD_eq_getElem?_getD, List.getD_eq_getElem?_getD, List.getElem?_append_right (by omega), List.getElem?_append_left (by omega)]
  congr 2; omega
theorem sAhead_form {l : Int32} {q : Int32 × Int32} (h : q ∈ sAhead l) : q.1 ≠ 4 := by
  simp only [sAhead, List.mem_append, List.mem_map] at h
  rcases h with ((((((( ⟨z, -, rfl⟩ | ⟨z, -, rfl⟩) | ⟨z, -, rfl⟩) | ⟨z, -, rfl⟩) | ⟨z, -, rfl⟩) | ⟨z, -, rfl⟩) | ⟨z, -, rfl⟩) | h)
  all_goals first | exact (by decide : (0 : Int32) ≠ 4) | exact (by decide : (1 : Int32) ≠ 4) | exact (by decide : (2 : Int32) ≠ 4) | skip
  split at h
  · cases h
  · rw [List.mem_singleton] at h; rw [h]; decide
theorem sMove_form (h : sMove p n ≠ []) : sMove p n = [(4, p.getD n 4)] := by
  unfold sMove at h ⊢
  split
  · rfl
  · next q => rw [if_neg q] at h; exact absurd rfl h
/-- one of a line's mends: its line, and when it is a move -/
theorem sMd_at {j : Nat} (hj : j < (sMendsAt p m).length) : ((sMendsAt p m).getD j sMd0).2.1 = m ∧ (((sMendsAt p m).getD j sMd0).1 = 4 ↔ (sMove p m ≠ [] ∧ j = (sAhead (p.getD m 4)).length)) := by
  have hj2 : j < (sAhead (p.getD m 4) ++ sMove p m ++ sGraft p m).length := by simpa [sMendsAt] using hj
  have e : (sMendsAt p m).getD j sMd0 = (((sAhead (p.getD m 4) ++ sMove p m ++ sGraft p m)[j]).1, m, ((sAhead (p.getD m 4) ++ sMove p m ++ sGraft p m)[j]).2) := by
    rw [List.getD_eq_getElem?_getD]
    unfold sMendsAt
    rw [List.getElem?_map, List.getElem?_eq_getElem hj2]; rfl
  rw [e]
  refine ⟨rfl, ?_⟩
  show (_ : Int32 × Int32).1 = 4 ↔ _
  by_cases h1 : j < (sAhead (p.getD m 4)).length
  · rw [List.getElem_append_left (by rw [List.length_append]; omega), List.getElem_append_left h1]
    exact ⟨fun q => absurd q (sAhead_form (List.getElem_mem h1)), fun q => by omega⟩
  · by_cases hm : sMove p m = []
    · have : (5 : Int32) ≠ 4 := by decide
      have hg : (sAhead (p.getD m 4) ++ sMove p m ++ sGraft p m)[j].1 = 5 := by
        rw [List.getElem_append_right (by rw [hm, List.append_nil]; omega)]
        unfold sGraft; rw [List.getElem_map]
      rw [hg]; exact ⟨fun q => absurd q this, fun q => absurd hm q.1⟩
    · have em := sMove_form hm
      by_cases h2 : j = (sAhead (p.getD m 4)).length
      · rw [List.getElem_append_left (by rw [List.length_append, em, List.length_singleton]; omega), List.getElem_append_right (by omega)]
        refine ⟨fun _ => ⟨hm, h2⟩, fun _ => ?_⟩
        simp [em, h2]
      · have hg : (sAhead (p.getD m 4) ++ sMove p m ++ sGraft p m)[j].1 = 5 := by
          rw [List.getElem_append_right (by rw [List.length_append, em, List.length_singleton]; omega)]
          unfold sGraft; rw [List.getElem_map]
        rw [hg]; exact ⟨fun q => absurd q (by decide), fun q => absurd q.2 h2⟩
def sNoMove (p : List Int32) (b : Nat) : Bool := decide (((sMends p).getD b sMd0).1 ≠ 4)
theorem filter_none {α : Type} {f : α → Bool} {l : List α} (h : ∀ x ∈ l, f x = false) : l.filter f = [] := List.filter_eq_nil_iff.mpr (fun x hx => by rw [h x hx]; decide)
theorem filter_all {α : Type} {f : α → Bool} {l : List α} (h : ∀ x ∈ l, f x = true) : l.filter f = l := List.filter_eq_self.mpr h
theorem blk_plain (hm : m < p.length) : (sBlk p m).filter (sNoMove p) = sPl p m := by
  have hlen := @sMendsAt_len m p
  have key : ∀ j, j < (sMendsAt p m).length → sNoMove p ((sMendsTo p m).length + j) = !(decide (sMove p m ≠ []) && decide (j = (sAhead (p.getD m 4)).length)) := by
    intro j hj
    unfold sNoMove
    rw [sMends_at hm hj]
    have := (sMd_at (p := p) (m := m) hj).2
    by_cases q : ((sMendsAt p m).getD j sMd0).1 = 4
    · have w := this.mp q
      rw [decide_eq_false (fun z => z q), decide_eq_true w.1, decide_eq_true w.2]; rfl
    · have w : ¬ (sMove p m ≠ [] ∧ j = (sAhead (p.getD m 4)).length) := fun z => q (this.mpr z)
      rw [decide_eq_true (show _ ≠ (4 : Int32) from q)]
      by_cases z : sMove p m = []
      · rw [decide_eq_false (fun v => v z)]; rfl
      · rw [decide_eq_false (fun v => w ⟨z, v⟩), Bool.and_false]; rfl
  unfold sPl sPlainN
  rw [if_pos hm]
  unfold sBlk
  rw [List.filter_map]
  by_cases hmv : sMove p m = []
  · rw [filter_all (fun j hj => by have := key j (List.mem_range.mp hj); simp [hmv] at this; simpa using this)]
    rw [hlen, hmv, List.length_nil, Nat.add_zero]
    refine List.map_congr_left (fun j _ => ?_)
    unfold sIx
    rw [if_neg (fun q => q.1 hmv)]
  · have em := sMove_form hmv
    rw [hlen, em, List.length_singleton, Nat.add_assoc, range_plus (sAhead (p.getD m 4)).length (1 + (sGraft p m).length), range_plus 1, range_plus (sAhead (p.getD m 4)).length (sGraft p m).length]
    simp only [List.map_append, List.filter_append, List.map_map]
    have e1 : (List.range (sAhead (p.getD m 4)).length).filter (sNoMove p ∘ fun j => (sMendsTo p m).length + j) = List.range (sAhead (p.getD m 4)).length := by
      refine filter_all (fun j hj => ?_)
      have hj := List.mem_range.mp hj
      have := key j (by omega)
      have hne : ¬ j = (sAhead (p.getD m 4)).length := by omega
      simp only [hne, decide_false, Bool.and_false, Bool.not_false] at this
      exact this
    have e2 : (List.map (fun j => (sAhead (p.getD m 4)).length + j) (List.range 1)).filter (sNoMove p ∘ fun j => (sMendsTo p m).length + j) = [] := by
      refine filter_none (fun j hj => ?_)
      obtain ⟨z, hz, rfl⟩ := List.mem_map.mp hj
      have hz := List.mem_range.mp hz
      have := key ((sAhead (p.getD m 4)).length + z) (by rw [hlen, em, List.length_singleton]; omega)
      have h0 : z = 0 := by omega
      subst h0
      simp only [hmv, ne_eq, not_false_eq_true, decide_true, Nat.add_zero, Bool.and_self, Bool.not_true] at this
      exact this
    have e3 : (List.map ((fun j => (sAhead (p.getD m 4)).length + j) ∘ fun j => 1 + j) (List.range (sGraft p m).length)).filter (sNoMove p ∘ fun j => (sMendsTo p m).length + j) = List.map ((fun j => (sAhead (p.getD m 4)).length + j) ∘ fun j => 1 + j) (List.range (sGraft p m).length) := by
      refine filter_all (fun j hj => ?_)
      obtain ⟨z, hz, rfl⟩ := List.mem_map.mp hj
      have hz := List.mem_range.mp hz
      have := key ((sAhead (p.getD m 4)).length + (1 + z)) (by rw [hlen, em, List.length_singleton]; omega)
      have hne : ¬ (sAhead (p.getD m 4)).length + (1 + z) = (sAhead (p.getD m 4)).length := by omega
      simp only [hne, decide_false, Bool.and_false, Bool.not_false] at this
      exact this
    rw [e1, e2, e3, List.map_nil, List.nil_append, List.map_map]
    congr 1
    · refine List.map_congr_left (fun j hj => ?_)
      have hj := List.mem_range.mp hj
      unfold sIx
      rw [if_neg (fun q => by omega)]
    · refine List.map_congr_left (fun j _ => ?_)
      unfold sIx
      show _ = _ + (if sMove p m ≠ [] ∧ _ ≤ (sAhead (p.getD m 4)).length + j then (sAhead (p.getD m 4)).length + j + 1 else _)
      rw [if_pos ⟨hmv, by omega⟩]
      show (sMendsTo p m).length + ((sAhead (p.getD m 4)).length + (1 + j)) = _
      omega
end PU
