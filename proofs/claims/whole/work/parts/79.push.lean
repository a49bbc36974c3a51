/-! For make: the class pushes the body. -/
section PSH
variable {sc : Nat × (Nat → Int32)} {h : jH} {p : List Int32} {ms : List (List Int32)}
def sPush (ms : List (List Int32)) (p : List Int32) : List (List Int32) := (if ms.length = 6 then ms.drop 1 else ms) ++ [p]
theorem getD_ap1P {xs : List (List Int32)} {x d : List Int32} {i : Nat} : (xs ++ [x]).getD i d = if i < xs.length then xs.getD i d else if i = xs.length then x else d := getD_ap1
theorem isMade.snoc {h h' : jH} {m : Nat} (hl : ms.length = m) (hm : m < 6) (k : ∀ i, i < m → isP h' (27 + 2 * i) (ms.getD i [])) (e : isP h' (27 + 2 * m) p) (e7 : h' 9 7 = nI (m + 1)) : isMade h' 9 (ms ++ [p]) := by
  refine ⟨by rw [e7, List.length_append, List.length_singleton, hl], fun i hi => ?_⟩
  rw [List.length_append, List.length_singleton, hl] at hi
  rw [getD_ap1P, hl]
  by_cases z : i = m
  · subst z; rw [if_neg (Nat.lt_irrefl _), if_pos rfl]; exact e
  · rw [if_pos (show i < m by omega)]; exact k i (by omega)
theorem tX6_pushBody (hp : isP h 10 p) (hm : isMade h 9 ms) (h6 : ms.length ≤ 6) : JM mX6_pushBody [.ref 9] (jG0 sc) h (jvoid sc (fun h' => isMade h' 9 (sPush ms p) ∧ jfr ([(27, 38)], [(9, 7, 7)]) h h')) := by
  have t6 : jI6 9 := by unfold jI6; decide
  have a4 : jI4 10 := by unfold jI4; decide
  have rt : ∀ i, i < 6 → (jRt.getD 26 []).getD i none = some (27 + 2 * i) := by decide
  have ri : ∀ i, i < 6 → jI4 (27 + 2 * i) := by unfold jI4; decide
  obtain ⟨m1, m2⟩ := hm
  have m2 : ∀ i, i < ms.length → isP h (27 + 2 * i) (ms.getD i []) := m2
  have wr : ∀ {h1 h2 : jH} {i : Nat}, i < 6 → jfr ([(27 + 2 * i + 1, 27 + 2 * i + 1)], [(27 + 2 * i, 1, 1)]) h1 h2 → jfr ([(27, 38)], [(9, 7, 7)]) h1 h2 := fun hi f c j hcj => f c j (by rw [jin_f] at hcj ⊢; simp at hcj ⊢; omega)
  have oth : ∀ {h1 h2 : jH} {i j : Nat} {q : List Int32}, i ≠ j → isP h1 (27 + 2 * j) q → jfr ([(27 + 2 * i + 1, 27 + 2 * i + 1)], [(27 + 2 * i, 1, 1)]) h1 h2 → isP h2 (27 + 2 * j) q := fun hij k f => k.fr f (by rw [jin_f]; simp; omega) (fun x => by rw [jin_f]; simp; omega)
  have pu : ∀ {h1 : jH} {j : Nat} {q : List Int32} {x : Int32}, isP h1 (27 + 2 * j) q → isP (jput h1 9 7 x) (27 + 2 * j) q := fun k => ⟨by rw [jput_ne (by omega)]; exact k.1, k.2.1, fun i hi => by rw [jput_ne (by omega)]; exact k.2.2 i hi⟩
  by_cases z : ms.length = 6
  · have eS : sPush ms p = ms.drop 1 ++ [p] := by unfold sPush; rw [if_pos z]
    rw [eS]
    have e7 : h 9 7 = 6 := by rw [m1, z]; rfl
    refine jM_of rfl (Nat.le_of_ble_eq_true rfl) (by decide +kernel) rfl (rX6_pushBody_0 (q1 := 0) t6 (fun c => absurd e7 c) (fun c => absurd e7 c) (fun c => absurd e7 c) (fun c => absurd e7 c) (fun c => absurd e7 c) (P1 := fun _ => True) (fun c => absurd e7 c) (fun c => absurd e7 c) (fun _ => ?_))
    refine jloop (fun i h1 => WP mX6_pushBody _ 11 [some (.ref 9), some (.int (nI (i + 1)))] [] (jG0 sc) h1 (0, 0)) (fun i h1 => jfr ([(27, 38)], [(9, 7, 7)]) h h1 ∧ h1 9 7 = 6 ∧ isP h1 10 p ∧ (∀ j, j < i → isP h1 (27 + 2 * j) (ms.getD (j + 1) [])) ∧ ∀ j, i ≤ j → j < 6 → isP h1 (27 + 2 * j) (ms.getD j [])) 5 ?_ ?_ 0 h (by omega) ⟨jfr.rf, e7, hp, fun j hj => absurd hj (by omega), fun j _ hj => m2 j (by omega)⟩
    · rintro h1 ⟨f, i7, ip, i2, i3⟩
      have e5 : jput h1 9 7 (h1 9 7 - 1) 9 7 = nI 5 := by rw [jput_at, i7]; decide
      refine rX6_pushBody_11 (q1 := 27 + 2 * 5) (q3 := 0) (q4 := 0) t6 (fun _ c => absurd c (by rw [e5]; decide)) (fun _ _ c => absurd c (by rw [e5]; decide)) (fun _ _ _ => by rw [e5]; exact vp_in_nI (by decide) (by decide)) (fun _ _ _ => by rw [e5]; exact rt 5 (by decide)) (fun _ _ _ => ri 5 (by decide))
        (fun _ _ _ => tX4_copyOf (ri 5 (by decide)) a4 (ip.fr (jfr.rf.put (by rfl : jin ([], [(9, 7, 7)]) 9 7 = true)) rfl (fun _ => rfl)) (by omega)) (fun _ _ _ h2 y => jvoid_i ?_) (fun c => absurd (by decide) c) (fun c => absurd (by decide) c) (fun c => absurd (by decide) c) (fun c => absurd (by decide) c) (fun c => absurd (by decide) c) (fun c => absurd (by decide) c) (P2 := fun _ => True) (fun c => absurd (by decide) c) (fun c => absurd (by decide) c)
      have e27 : h2 9 7 = nI 5 := (y.2 9 7 rfl).trans e5
      refine ⟨isMade.snoc (h := h) (m := 5) (by rw [List.length_drop, z]) (by decide) (fun i hi => ?_) (pu y.1) (by rw [jput_at, e27]; rfl), ((f.put rfl).tr2 (wr (i := 5) (by decide) y.2)).put rfl⟩
      rw [show (ms.drop 1).getD i [] = ms.getD (i + 1) [] from getD_drop1]
      exact pu (oth (i := 5) (by omega) (pu (i2 i hi)) y.2)
    · rintro i h1 hi ⟨f, i7, ip, i2, i3⟩ kk
      have no : ¬ (6 : Int32) ≤ nI (i + 1) := fun c => by have := (jn_le (a := 6) (by decide) (by omega)).mp c; omega
      have em : nI (i + 1) - 1 = nI i := by rw [nI_succ]; exact Int32.add_sub_cancel _ _
      refine rX6_pushBody_11 (q1 := 0) (q3 := 27 + 2 * i) (q4 := 27 + 2 * (i + 1)) t6 (fun c => absurd c no) (fun c => absurd c no) (fun c => absurd c no) (fun c => absurd c no) (fun c => absurd c no) (P1 := fun _ => True) (fun c => absurd c no) (fun c => absurd c no) (fun _ => by rw [em]; exact vp_in_nI (by omega) (by decide)) (fun _ => by rw [em, nI_clamp (by omega)]; exact rt i (by omega)) (fun _ => ri i (by omega)) (fun _ => vp_in_nI (by omega) (by decide)) (fun _ => by rw [nI_clamp (by omega)]; exact rt (i + 1) (by omega)) (fun _ => ri (i + 1) (by omega))
        (fun _ => tX4_copyOf (ri i (by omega)) (ri (i + 1) (by omega)) (i3 (i + 1) (by omega) (by omega)) (by omega)) (fun _ h2 y => ?_)
      rw [← nI_succ]
      refine kk h2 ⟨f.tr2 (wr (by omega) y.2), (y.2 9 7 (by rw [jin_f]; simp; omega)).trans i7, ip.fr y.2 (by rw [jin_f]; simp; omega) (fun x => by rw [jin_f]; simp; omega), fun j hj => ?_, fun j a b => oth (by omega) (i3 j (by omega) b) y.2⟩
      by_cases w : j = i
      · subst w; exact y.1
      · exact oth (by omega) (i2 j (by omega)) y.2
  · have eS : sPush ms p = ms ++ [p] := by unfold sPush; rw [if_neg z]
    rw [eS]
    generalize hL : ms.length = m at *
    have n6 : ¬ h 9 7 = 6 := by rw [m1, show (6 : Int32) = nI 6 from rfl, jn_eq (by omega) (by decide)]; exact z
    have n6' : ¬ (6 : Int32) ≤ h 9 7 := by rw [m1, show (6 : Int32) = nI 6 from rfl, jn_le (by decide) (by omega)]; omega
    refine jM_of rfl (Nat.le_of_ble_eq_true rfl) (by decide +kernel) rfl (rX6_pushBody_0 (q1 := 27 + 2 * m) t6 (fun _ c => absurd c (by rw [m1]; exact nI_pos (by omega))) (fun _ _ c => absurd c n6') (fun _ _ _ => by rw [m1]; exact vp_in_nI (by omega) (by decide)) (fun _ _ _ => by rw [m1, nI_clamp (by omega)]; exact rt m (by omega)) (fun _ _ _ => ri m (by omega)) (fun _ _ _ => tX4_copyOf (ri m (by omega)) a4 hp (by omega)) (fun _ _ _ h2 y => jvoid_i ?_) (fun c => absurd c n6))
    have e27 : h2 9 7 = nI m := (y.2 9 7 (by rw [jin_f]; simp; omega)).trans m1
    refine ⟨isMade.snoc (h := h) hL (by omega) (fun i hi => pu (oth (by omega) (m2 i (by omega)) y.2)) (pu y.1) (by rw [jput_at, e27, nI_succ]), (wr (by omega) y.2).put rfl⟩
end PSH
