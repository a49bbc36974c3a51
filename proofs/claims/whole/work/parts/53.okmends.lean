/-! Mends make lines as the text could: programs stay programs. -/
section OK
variable {l v : Int32} {p q : List Int32}
theorem atom_rg2 (h : sAtom v) : sIn v (-1) (128 - 2) := sAtom_rg h
theorem fl_First (hl : sOk l) (hv : sIn v (-1) (128 - 2)) : sKind (sWithFirst l v) = sKind l ∧ sMade (sWithFirst l v) = sMade l ∧ sFirst (sWithFirst l v) = v ∧ sSign (sWithFirst l v) = sSign l ∧ sSecond (sWithFirst l v) = sSecond l ∧ sCount (sWithFirst l v) = sCount l := by
  have s := same_first hl hv
  exact ⟨s 0 (by decide), s 1 (by decide), s 2 (by decide), s 3 (by decide), s 4 (by decide), s 5 (by decide)⟩
theorem fl_Second (hl : sOk l) (hv : sIn v (-1) (128 - 2)) : sKind (sWithSecond l v) = sKind l ∧ sMade (sWithSecond l v) = sMade l ∧ sFirst (sWithSecond l v) = sFirst l ∧ sSign (sWithSecond l v) = sSign l ∧ sSecond (sWithSecond l v) = v ∧ sCount (sWithSecond l v) = sCount l := by
  have s := same_second hl hv
  exact ⟨s 0 (by decide), s 1 (by decide), s 2 (by decide), s 3 (by decide), s 4 (by decide), s 5 (by decide)⟩
theorem fl_Made (hl : sOk l) (hv : sIn v (-1) (8 - 2)) : sKind (sWithMade l v) = sKind l ∧ sMade (sWithMade l v) = v ∧ sFirst (sWithMade l v) = sFirst l ∧ sSign (sWithMade l v) = sSign l ∧ sSecond (sWithMade l v) = sSecond l ∧ sCount (sWithMade l v) = sCount l := by
  have s := same_made hl hv
  exact ⟨s 0 (by decide), s 1 (by decide), s 2 (by decide), s 3 (by decide), s 4 (by decide), s 5 (by decide)⟩
theorem fl_Sign (hl : sOk l) (hv : sIn v 0 (16 - 1)) : sKind (sWithSign l v) = sKind l ∧ sMade (sWithSign l v) = sMade l ∧ sFirst (sWithSign l v) = sFirst l ∧ sSign (sWithSign l v) = v ∧ sSecond (sWithSign l v) = sSecond l ∧ sCount (sWithSign l v) = sCount l := by
  have s := same_sign hl hv
  exact ⟨s 0 (by decide), s 1 (by decide), s 2 (by decide), s 3 (by decide), s 4 (by decide), s 5 (by decide)⟩
theorem fl_Count (hl : sOk l) (hv : sIn v 0 (16 - 1)) : sKind (sWithCount l v) = sKind l ∧ sMade (sWithCount l v) = sMade l ∧ sFirst (sWithCount l v) = sFirst l ∧ sSign (sWithCount l v) = sSign l ∧ sSecond (sWithCount l v) = sSecond l ∧ sCount (sWithCount l v) = v := by
  have s := same_count hl hv
  exact ⟨s 0 (by decide), s 1 (by decide), s 2 (by decide), s 3 (by decide), s 4 (by decide), s 5 (by decide)⟩
theorem ok_parts (hl : sOk l) (h4 : l ≠ 4) : sAtom (sFirst l) ∧ (((sKind l = 0 ∧ sIn (sMade l) 0 3 ∨ sKind l = 3 ∧ sMade l = -1) ∧ (sSign l = 0 ∧ sSecond l = -1 ∨ sIn (sSign l) 1 5 ∧ sAtom (sSecond l)) ∧ sCount l = 0) ∨ ((sKind l = 1 ∨ sKind l = 2) ∧ sMade l = -1 ∧ sIn (sSign l) 6 8 ∧ sAtom (sSecond l) ∧ sIn (sCount l) 1 9)) := by
  rcases hl with h | ⟨-, a, b⟩
  · exact absurd h h4
  · exact ⟨a, b⟩
theorem ok_First (hl : sOk l) (h4 : l ≠ 4) (hv : sAtom v) : sOk (sWithFirst l v) := by
  obtain ⟨e0, e1, e2, e3, e4, e5⟩ := fl_First hl (atom_rg2 hv)
  refine Or.inr ⟨(with_pack hl).1 v (atom_rg2 hv), by rw [e2]; exact hv, ?_⟩
  rw [e0, e1, e3, e4, e5]; exact (ok_parts hl h4).2
theorem ok_Second (hl : sOk l) (h4 : l ≠ 4) (hn : sSecond l ≠ -1) (hv : sAtom v) : sOk (sWithSecond l v) := by
  obtain ⟨e0, e1, e2, e3, e4, e5⟩ := fl_Second hl (atom_rg2 hv)
  obtain ⟨a, b⟩ := ok_parts hl h4
  refine Or.inr ⟨(with_pack hl).2.1 v (atom_rg2 hv), by rw [e2]; exact a, ?_⟩
  rw [e0, e1, e3, e4, e5]
  rcases b with ⟨b1, b2, b3⟩ | ⟨b1, b2, b3, b4, b5⟩
  · exact Or.inl ⟨b1, Or.inr ⟨(b2.resolve_left (fun z => hn z.2)).1, hv⟩, b3⟩
  · exact Or.inr ⟨b1, b2, b3, hv, b5⟩
theorem ok_Made (hl : sOk l) (hk : sKind l = 0) (hv : sIn v 0 3) : sOk (sWithMade l v) := by
  have h4 : l ≠ 4 := fun z => by rw [z] at hk; exact absurd hk (by decide)
  have rg : sIn v (-1) (8 - 2) := ⟨by have := hv.1; omega, by have := hv.2; omega⟩
  obtain ⟨e0, e1, e2, e3, e4, e5⟩ := fl_Made hl rg
  obtain ⟨a, b⟩ := ok_parts hl h4
  refine Or.inr ⟨(with_pack hl).2.2.1 v rg, by rw [e2]; exact a, ?_⟩
  rw [e0, e1, e3, e4, e5]
  rcases b with ⟨b1, b2, b3⟩ | ⟨b1, -⟩
  · exact Or.inl ⟨Or.inl ⟨hk, hv⟩, b2, b3⟩
  · rcases b1 with b1 | b1 <;> rw [hk] at b1 <;> exact absurd b1 (by decide)
theorem ok_Sign (hl : sOk l) (h4 : l ≠ 4) (hv : (sIn (sSign l) 1 5 ∧ sIn v 1 5) ∨ (sIn (sSign l) 6 8 ∧ sIn v 6 8)) : sOk (sWithSign l v) := by
  have rg : sIn v 0 (16 - 1) := by rcases hv with ⟨-, hv⟩ | ⟨-, hv⟩ <;> exact ⟨by have := hv.1; omega, by have := hv.2; omega⟩
  obtain ⟨e0, e1, e2, e3, e4, e5⟩ := fl_Sign hl rg
  obtain ⟨a, b⟩ := ok_parts hl h4
  refine Or.inr ⟨(with_pack hl).2.2.2.1 v rg, by rw [e2]; exact a, ?_⟩
  rw [e0, e1, e3, e4, e5]
  rcases b with ⟨b1, b2, b3⟩ | ⟨b1, b2, b3, b4, b5⟩
  · rcases hv with ⟨s, hv⟩ | ⟨s, hv⟩
    · rcases b2 with ⟨b2, -⟩ | ⟨-, b2⟩
      · rw [b2] at s; exact absurd s.1 (by decide)
      · exact Or.inl ⟨b1, Or.inr ⟨hv, b2⟩, b3⟩
    · rcases b2 with ⟨b2, -⟩ | ⟨b2, -⟩
      · rw [b2] at s; exact absurd s.1 (by decide)
      · have := s.1; have := b2.2; omega
  · rcases hv with ⟨s, hv⟩ | ⟨s, hv⟩
    · have := s.2; have := b3.1; omega
    · exact Or.inr ⟨b1, b2, hv, b4, b5⟩
theorem ok_Count (hl : sOk l) (hc : 0 < sCount l) (hv : sIn v 1 9) : sOk (sWithCount l v) := by
  have h4 : l ≠ 4 := fun z => by rw [z] at hc; exact absurd hc (by decide)
  have rg : sIn v 0 (16 - 1) := ⟨by have := hv.1; omega, by have := hv.2; omega⟩
  obtain ⟨e0, e1, e2, e3, e4, e5⟩ := fl_Count hl rg
  obtain ⟨a, b⟩ := ok_parts hl h4
  refine Or.inr ⟨(with_pack hl).2.2.2.2 v rg, by rw [e2]; exact a, ?_⟩
  rw [e0, e1, e3, e4, e5]
  rcases b with ⟨-, -, b3⟩ | ⟨b1, b2, b3, b4, b5⟩
  · rw [b3] at hc; exact absurd hc (by decide)
  · exact Or.inr ⟨b1, b2, b3, b4, hv⟩
theorem mem_each {lo x : Int32} {n : Nat} (h : v ∈ sEach lo n x) : ∃ i, i < n ∧ v = lo + nI i := by
  unfold sEach at h
  obtain ⟨i, hi, e⟩ := List.mem_map.mp (List.mem_filter.mp h).1
  exact ⟨i, List.mem_range.mp hi, e.symm⟩
theorem mem_beside {lo hi x : Int32} (h : v ∈ sBeside lo hi x) : (lo < x ∧ v = x - 1) ∨ (x < hi ∧ v = x + 1) := by
  unfold sBeside at h
  rcases List.mem_append.mp h with h | h
  · split at h
    · next c => exact Or.inl ⟨c, List.mem_singleton.mp h⟩
    · cases h
  · split at h
    · next c => exact Or.inr ⟨c, List.mem_singleton.mp h⟩
    · cases h
theorem num_beside {x : Int32} (hx : sIn x 10 109) (h : v ∈ sBeside 10 109 x) : sIn v 10 109 := by
  obtain ⟨h1, h2⟩ := hx
  have e1 : (1 : Int32).toInt = 1 := rfl
  have e10 : (10 : Int32).toInt = 10 := rfl
  have e109 : (109 : Int32).toInt = 109 := rfl
  rcases mem_beside h with ⟨c, rfl⟩ | ⟨c, rfl⟩
  · rw [toInt_lt_iff] at c
    have e := toInt_sub' (x := x) (y := 1) (by omega) (by omega)
    exact ⟨by omega, by omega⟩
  · rw [toInt_lt_iff] at c
    have e := toInt_add' (x := x) (y := 1) (by omega) (by omega)
    exact ⟨by omega, by omega⟩
theorem cnt_beside {x : Int32} (hx : sIn x 1 9) (h : v ∈ sBeside 1 9 x) : sIn v 1 9 := by
  obtain ⟨h1, h2⟩ := hx
  have e1 : (1 : Int32).toInt = 1 := rfl
  have e9 : (9 : Int32).toInt = 9 := rfl
  rcases mem_beside h with ⟨c, rfl⟩ | ⟨c, rfl⟩
  · rw [toInt_lt_iff] at c
    have e := toInt_sub' (x := x) (y := 1) (by omega) (by omega)
    exact ⟨by omega, by omega⟩
  · rw [toInt_lt_iff] at c
    have e := toInt_add' (x := x) (y := 1) (by omega) (by omega)
    exact ⟨by omega, by omega⟩
theorem sAhead_ok (hl : sOk l) {z : Int32 × Int32} (h : z ∈ sAhead l) : sOk z.2 := by
  have ab := sOk_ab hl
  simp only [sAhead, List.mem_append, List.mem_map] at h
  rcases h with ((((((( ⟨y, h, rfl⟩ | ⟨y, h, rfl⟩) | ⟨y, h, rfl⟩) | ⟨y, h, rfl⟩) | ⟨y, h, rfl⟩) | ⟨y, h, rfl⟩) | ⟨y, h, rfl⟩) | h)
  · unfold sNamesF at h
    split at h
    · next c =>
      obtain ⟨u, hu, rfl⟩ := List.mem_map.mp h
      obtain ⟨i, hi, rfl⟩ := mem_each hu
      rw [z_add]
      exact ok_First hl (fun e => by rw [e] at c; exact c.1 (by decide)) (Or.inl (nI_rg (by omega) (by omega) (by omega)))
    · cases h
  · unfold sNamesS at h
    split at h
    · next c =>
      obtain ⟨u, hu, rfl⟩ := List.mem_map.mp h
      obtain ⟨i, hi, rfl⟩ := mem_each hu
      rw [z_add]
      exact ok_Second hl (fun e => by rw [e] at c; exact c.1 (by decide)) (fun e => by rw [e] at c; exact c.1 (by decide)) (Or.inl (nI_rg (by omega) (by omega) (by omega)))
    · cases h
  · unfold sNamesM at h
    split at h
    · next c =>
      obtain ⟨u, hu, rfl⟩ := List.mem_map.mp h
      obtain ⟨i, hi, rfl⟩ := mem_each hu
      rw [z_add]
      exact ok_Made hl c (nI_rg (by omega) (by omega) (by omega))
    · cases h
  · unfold sSigns at h
    split at h
    · cases h
    · next c0 =>
      have h4 : l ≠ 4 := fun e => by rw [e] at c0; exact c0 (by decide)
      have rgs : sIn (sSign l) 1 5 ∨ sIn (sSign l) 6 8 := by
        rcases (ok_parts hl h4).2 with ⟨-, b2, -⟩ | ⟨-, -, b3, -, -⟩
        · rcases b2 with ⟨b2, -⟩ | ⟨b2, -⟩
          · exact absurd b2 c0
          · exact Or.inl b2
        · exact Or.inr b3
      have e6 : (6 : Int32).toInt = 6 := rfl
      split at h
      · next c =>
        obtain ⟨u, hu, rfl⟩ := List.mem_map.mp h
        obtain ⟨i, hi, rfl⟩ := mem_each hu
        rw [toInt_lt_iff] at c
        have r : sIn (sSign l) 1 5 := rgs.resolve_right (fun z => by have := z.1; omega)
        refine ok_Sign hl h4 (Or.inl ⟨r, ?_⟩)
        rw [show (1 : Int32) = nI 1 from rfl, nI_add]
        exact nI_rg (by omega) (by omega) (by omega)
      · next c =>
        obtain ⟨u, hu, rfl⟩ := List.mem_map.mp h
        obtain ⟨i, hi, rfl⟩ := mem_each hu
        rw [toInt_lt_iff] at c
        have r : sIn (sSign l) 6 8 := rgs.resolve_left (fun z => by have := z.2; omega)
        refine ok_Sign hl h4 (Or.inr ⟨r, ?_⟩)
        rw [show (6 : Int32) = nI 6 from rfl, nI_add]
        exact nI_rg (by omega) (by omega) (by omega)
  · unfold sBoundF at h
    split at h
    · cases h
    · next c =>
      obtain ⟨u, hu, rfl⟩ := List.mem_map.mp h
      have r := (atom_10 ab.1).resolve_left c
      exact ok_First hl (fun e => by rw [e] at c; exact c (by decide)) (Or.inr (num_beside r hu))
  · unfold sBoundS at h
    split at h
    · cases h
    · next c =>
      obtain ⟨u, hu, rfl⟩ := List.mem_map.mp h
      have r := (atom_10 ab.2.1).resolve_left c
      exact ok_Second hl (fun e => by rw [e] at c; exact c (by decide)) (fun e => by rw [e] at c; exact c (by decide)) (Or.inr (num_beside r hu))
  · unfold sBoundC at h
    split at h
    · next c =>
      obtain ⟨u, hu, rfl⟩ := List.mem_map.mp h
      have r := ab.2.2.resolve_left (fun z => by rw [z] at c; exact absurd c (by decide))
      exact ok_Count hl c (cnt_beside r hu)
    · cases h
  · split at h
    · cases h
    · rw [List.mem_singleton] at h; rw [h]; exact Or.inl rfl
theorem sMends_ok (hs : sProg p) {m : sMd} (h : m ∈ sMends p) : sOk m.2.2 := by
  obtain ⟨i, hi, h2⟩ := List.mem_flatMap.mp h
  have hi := List.mem_range.mp hi
  obtain ⟨z, hz, e⟩ := List.mem_map.mp h2
  rw [← e]
  have hl : sOk (p.getD i 4) := hs.2 _ (getD_mem hi)
  simp only [List.mem_append] at hz
  rcases hz with (hz | hz) | hz
  · exact sAhead_ok hl hz
  · unfold sMove at hz
    split at hz
    · rw [List.mem_singleton] at hz; rw [hz]; exact hl
    · cases hz
  · unfold sGraft at hz
    obtain ⟨y, hy, rfl⟩ := List.mem_map.mp hz
    exact hs.2 _ (List.mem_filter.mp hy).1
theorem sProg_set (hq : sProg q) {i : Nat} {x : Int32} (hx : sOk x) : sProg (q.set i x) := by
  refine ⟨by rw [List.length_set]; exact hq.1, fun y hy => ?_⟩
  rcases List.mem_or_eq_of_mem_set hy with h | h
  · exact hq.2 _ h
  · rw [h]; exact hx
theorem sOk_getD (hp : sProg p) (i : Nat) : sOk (p.getD i 4) := by
  by_cases h : i < p.length
  · exact hp.2 _ (getD_mem h)
  · rw [getD_out (by omega)]; exact Or.inl rfl
theorem sProg_change (hp : sProg p) (hq : sProg q) {m : sMd} (hm : sOk m.2.2) : sProg (sChange p m q) := by
  unfold sChange
  split
  · exact sProg_set (sProg_set hq (sOk_getD hp _)) (sOk_getD hp _)
  · exact sProg_set hq hm
theorem sMd_okD (hp : sProg p) (n : Nat) : sOk ((sMends p).getD n sMd0).2.2 ∨ (sMends p).length ≤ n := by
  by_cases h : n < (sMends p).length
  · exact Or.inl (sMends_ok hp (getD_mem h))
  · exact Or.inr (by omega)
theorem sProg_by (hp : sProg p) {z : Nat × Option Nat} (h1 : z.1 < (sMends p).length) (h2 : ∀ d, z.2 = some d → d < (sMends p).length) : sProg (sBy p z) := by
  obtain ⟨u, o⟩ := z
  have e1 := sProg_change hp hp (sMends_ok hp (getD_mem (d := sMd0) h1))
  cases o with
  | none => exact e1
  | some d => exact sProg_change hp e1 (sMends_ok hp (getD_mem (d := sMd0) (h2 d rfl)))
theorem sProg_byO (hp : sProg p) (k : Nat) : sProg (sByO p ((sAll (sMends p))[k]?)) := by
  cases e : (sAll (sMends p))[k]? with
  | none => exact hp
  | some z => exact sProg_by hp (sAll_lt e).1 (sAll_lt e).2
theorem sBy_len {z : Nat × Option Nat} : (sBy p z).length = p.length := by
  obtain ⟨u, o⟩ := z
  cases o with
  | none => exact sChange_len
  | some d => exact (sChange_len).trans sChange_len
end OK
