/-! Operation takeBack; another BODY. -/
section OP17
variable {sc : Nat × (Nat → Int32)} {h : jH} {A : aA} {n : Nat} {p q : List Int32} {rs : List aRun} {T : aT}
def tNone : aT := ([], 0, 0, 0, 0, [])
def uBody (S : aS) (p : List Int32) (T : aT) (ms : List (List Int32)) : aS := (p, aSecond S, aRuns S, aLaw S, T, aTaught S, ms, aBox S)
theorem sTrOk_none : sTrOk p tNone := ⟨Nat.zero_le _, fun k hk => absurd hk List.not_mem_nil, Nat.zero_le _, Nat.zero_le _⟩
theorem tX9_forget : JM mX9_forget [.ref 20] (jG0 sc) h (jvoid sc (fun h' => isTries h' 20 tNone ∧ jfr ([], [(20, 1, 9)]) h h')) := by
  have t_h : jI9 20 := by unfold jI9; decide
  refine jM_of rfl (Nat.le_of_ble_eq_true rfl) (by decide +kernel) rfl (rX9_forget_0 t_h (jvoid_i ⟨⟨rfl, fun i hi => absurd hi (Nat.not_lt_zero _), rfl, rfl, rfl, rfl, rfl, fun i hi => absurd hi (Nat.not_lt_zero _)⟩, ?_⟩))
  exact (((((jfr.rf.put rfl).put rfl).put rfl).put rfl).put rfl).put rfl
abbrev fAnew : jF := ([(76, 81)], [(20, 1, 9), (75, 6, 8)])
theorem tX11_beginAnew (hp : isP h 10 p) (hs : sProg p) : JM mX11_beginAnew [.ref 0] (jG0 sc) h (jvoid sc (fun h' => isTries h' 20 tNone ∧ isMends h' 75 p ∧ jfr fAnew h h')) := by
  have a_h : jI4 10 := by unfold jI4; decide
  have t_h : jI3 75 := by unfold jI3; decide
  refine jM_of rfl (Nat.le_of_ble_eq_true rfl) (by decide +kernel) rfl (rX11_beginAnew_0 tX9_forget (P2 := fun h' => isTries h' 20 tNone ∧ isMends h' 75 p ∧ jfr fAnew h h') (fun h1 z => ?_) (fun _ _ _ z => jvoid_i z))
  refine jM_void (tX3_of t_h a_h (Or.inl (by decide)) (hp.fr z.2 rfl (fun _ => rfl)) hs) (fun h' y => ?_)
  have f : jfr ([(76, 81)], [(75, 6, 8)]) h1 h' := y.2.mono rfl
  exact ⟨z.1.fr f rfl rfl rfl rfl rfl rfl (fun _ => rfl) (fun _ => rfl) (fun _ => rfl) (fun _ => rfl), y.1, (z.2.mono rfl).tr2 (f.mono rfl)⟩
def oTakeBack (A : aA) : aO := if (aMade (xS A)).length = 0 then (0, 0, A) else (0, 1, uS A (uBody (xS A) ((aMade (xS A)).getD ((aMade (xS A)).length - 1) []) tNone ((aMade (xS A)).take ((aMade (xS A)).length - 1))))
theorem okBody {ms : List (List Int32)} (ok : aOk n A) (hs : sProg p) (hm : ms.length ≤ 6) (hm2 : ∀ p ∈ ms, sProg p) : aOk n (uS A (uBody (xS A) p tNone ms)) := ⟨⟨hs, ok.1.2.1, ok.1.2.2.1, ok.1.2.2.2.1, sTrOk_none, ok.1.2.2.2.2.2.1, ⟨hm, hm2⟩, ok.1.2.2.2.2.2.2.2⟩, ok.2⟩
theorem made_ok {i : Nat} (ok : aOk n A) (hi : i < (aMade (xS A)).length) : sProg ((aMade (xS A)).getD i []) := ok.1.2.2.2.2.2.2.1.2 _ (getD_mem hi)
theorem okTakeBack (ok : aOk n A) : aOk n (oTakeBack A).2.2 := by
  have h6 := ok.1.2.2.2.2.2.2.1.1
  unfold oTakeBack
  split
  · exact ok
  · exact okBody ok (made_ok ok (by omega)) (by rw [List.length_take]; omega) (fun p hp => ok.1.2.2.2.2.2.2.1.2 p (List.mem_of_mem_take hp))
theorem getD_takeP {ps : List (List Int32)} {m i : Nat} (h : i < m) : (ps.take m).getD i [] = ps.getD i [] := by
  simp only [List.getD_eq_getElem?_getD, List.getElem?_take, h, if_pos]
/-- the class holds another body, and nothing is tried -/
theorem RC_body {h' : jH} {ms : List (List Int32)} (k : RC h A) (ok : aOk n A) (f : jfr ([(11, 11), (27, 38), (3, 8), (70, 74), (76, 81), (82, 158)], [(0, 1, 1), (1, 1, 5), (9, 7, 7), (10, 1, 1), (20, 1, 9), (75, 6, 8), (69, 2, 4), (69, 6, 11)]) h h') (hp : isP h' 10 p) (ht : isTries h' 20 tNone) (hd : isMends h' 75 p) (hm : isMade h' 9 ms) (T2 : List Int32) (x2 : Int32) (ht2 : isTape h' T2) (hx2 : h' 0 1 = x2) : RC h' (uBody (xS A) p tNone ms, xI A, T2, x2) := by
  obtain ⟨k1, k2, k3, k4, k5, k6, k7, k8⟩ := k.1
  refine ⟨⟨hp, k2.fr f rfl (fun _ => rfl), k3.fr f rfl (fun _ => rfl) (fun _ => rfl) (fun _ => rfl), k4.fr f rfl (fun _ => rfl), ht, fun i hi => (f 25 i rfl).trans (k6 i hi), hm, (f 9 8 rfl).trans k8⟩, k.2.1.eq (f 0 6 rfl) (k.img ok (g_img f ⟨rfl, rfl⟩)), ht2, hx2, (f 69 5 rfl).trans k.2.2.2.2.1, hd⟩
theorem ccTakeBack (ok : aOk n A) (k : RC h A) : JM mX11_takeBack [.ref 0] (jG0 sc) h (cQ sc [] (oTakeBack A) h) := by
  have h6 := ok.1.2.2.2.2.2.2.1.1
  have t6 : jI6 9 := by unfold jI6; decide
  have a4 : jI4 10 := by unfold jI4; decide
  obtain ⟨m1, m2⟩ := k.1.2.2.2.2.2.2.1
  generalize hL : (aMade (xS A)).length = L at *
  by_cases z : L = 0
  · have eo : oTakeBack A = (0, 0, A) := if_pos (by rw [hL]; exact z)
    rw [eo]
    have pop : JM mX6_popBody [.ref 9] (jG0 sc) h (jgets sc 0 h) := jM_of rfl (Nat.le_of_ble_eq_true rfl) (by decide +kernel) rfl (rX6_popBody_0 (q1 := 0) t6 (fun _ => jgets_i rfl) (fun c => absurd (by rw [m1, z]; decide) c) (fun c => absurd (by rw [m1, z]; decide) c) (fun c => absurd (by rw [m1, z]; decide) c) (P1 := fun _ => True) (fun c => absurd (by rw [m1, z]; decide) c) (fun c => absurd (by rw [m1, z]; decide) c) (fun c => absurd (by rw [m1, z]; decide) c))
    refine jM_of rfl (Nat.le_of_ble_eq_true rfl) (by decide +kernel) rfl (rX11_takeBack_0 pop (P2 := fun _ => True) ?_ ?_ ?_)
    · rintro _ _ ⟨rfl, -⟩ c; exact absurd rfl c
    · rintro _ _ ⟨rfl, -⟩ c; exact absurd rfl c
    · rintro _ _ ⟨rfl, rfl⟩ -; exact cQ_v k (fun _ _ => rfl)
  · obtain ⟨m, rfl⟩ : ∃ m, L = m + 1 := ⟨L - 1, by omega⟩
    have eo : oTakeBack A = (0, 1, uS A (uBody (xS A) ((aMade (xS A)).getD m []) tNone ((aMade (xS A)).take m))) := by unfold oTakeBack; rw [if_neg (by rw [hL]; exact z), hL]; rfl
    rw [eo]
    have hs := made_ok ok (show m < (aMade (xS A)).length by omega)
    have e1 : nI (m + 1) - 1 = nI m := by rw [nI_succ]; exact Int32.add_sub_cancel _ _
    have gt : ¬ h 9 7 ≤ 0 := by rw [m1]; rw [show (0 : Int32) = nI 0 from rfl, jn_le (by omega) (by omega)]; omega
    have le6 : h 9 7 ≤ 6 := by rw [m1]; exact nI_le (b := 6) (by omega) (by omega)
    have ej : ∀ u, jput h 9 7 u 9 7 = u := fun u => jput_at
    have rt : ∀ i, i < 6 → (jRt.getD 26 []).getD i none = some (27 + 2 * i) := by decide
    have ri : ∀ i, i < 6 → jI4 (27 + 2 * i) := by unfold jI4; decide
    have pop : JM mX6_popBody [.ref 9] (jG0 sc) h (jint sc (fun x h' => x = 1 ∧ isP h' 10 ((aMade (xS A)).getD m []) ∧ h' 9 7 = nI m ∧ jfr ([(11, 11)], [(9, 7, 7), (10, 1, 1)]) h h')) := by
      refine jM_of rfl (Nat.le_of_ble_eq_true rfl) (by decide +kernel) rfl (rX6_popBody_0 (q1 := 27 + 2 * m) t6 (fun c => absurd c gt) (fun _ _ => by rw [ej, m1, e1]; exact vp_in_nI (by omega) (by decide)) (fun _ _ => by rw [ej, m1, e1, nI_clamp (by omega)]; exact rt m (by omega)) (fun _ _ => ri m (by omega)) (P1 := fun h' => isP h' 10 ((aMade (xS A)).getD m []) ∧ h' 9 7 = nI m ∧ jfr ([(11, 11)], [(9, 7, 7), (10, 1, 1)]) h h') (fun _ _ => ?_) (fun _ _ h2 z => jint_i ⟨rfl, z⟩) (fun _ c => absurd le6 c))
      rw [m1, e1]
      have hm := m2 m (by omega)
      have hm' : isP (jput h 9 7 (nI m)) (27 + 2 * m) ((aMade (xS A)).getD m []) := ⟨by rw [jput_ne (by omega)]; exact hm.1, hm.2.1, fun j hj => by rw [jput_ne (by omega)]; exact hm.2.2 j hj⟩
      exact jM_void (tX4_copyOf a4 (ri m (by omega)) hm' (by omega)) (fun h' z => ⟨z.1, (z.2 9 7 rfl).trans jput_at, (jfr.rf.put rfl).tr (A := ([], [(9, 7, 7)])) z.2 rfl rfl⟩)
    refine jM_of rfl (Nat.le_of_ble_eq_true rfl) (by decide +kernel) rfl (rX11_takeBack_0 pop (P2 := fun h' => isP h' 10 ((aMade (xS A)).getD m []) ∧ isTries h' 20 tNone ∧ isMends h' 75 ((aMade (xS A)).getD m []) ∧ h' 9 7 = nI m ∧ jfr ([(11, 11), (76, 81)], [(9, 7, 7), (10, 1, 1), (20, 1, 9), (75, 6, 8)]) h h') ?_ ?_ ?_)
    · rintro x1 h1 ⟨-, y1, y2, y3⟩ -
      exact jM_void (tX11_beginAnew y1 hs) (fun h' z => ⟨y1.fr z.2.2 rfl (fun _ => rfl), z.1, z.2.1, (z.2.2 9 7 rfl).trans y2, (y3.mono rfl).tr2 (z.2.2.mono rfl)⟩)
    · rintro x1 h1 - - h2 ⟨y1, y2, y3, y4, f⟩
      refine cQ_v (RC_body k ok (f.mono rfl) y1 y2 y3 ⟨?_, fun i hi => ?_⟩ (xT A) (xF A) ⟨(f 1 1 rfl).trans k.2.2.1.1, fun i hi => (f 2 i rfl).trans (k.2.2.1.2 i hi)⟩ ((f 0 1 rfl).trans k.2.2.2.1)) (fC.of f ⟨rfl, rfl⟩)
      · rw [y4, List.length_take, hL, Nat.min_eq_left (by omega)]
      · rw [List.length_take, hL] at hi
        rw [getD_takeP (by omega)]
        exact (m2 i (by omega)).fr f (by rw [jin_f]; simp; omega) (fun j => by rw [jin_f]; simp; omega)
    · rintro x1 h1 ⟨rfl, -⟩ c; exact absurd c (by decide)
end OP17
