/-! The class: a state's copy. -/
section CP
variable {sc : Nat × (Nat → Int32)} {h : jH} {A : aA} {n : Nat} {p q : List Int32} {rs : List aRun} {T : aT} {t a : Nat} {ls : List Int32}
theorem tX5_copyOf (t_h : jI5 t) (a_h : jI5 a) (hr : isRuns h a rs) (h12 : rs.length ≤ 12) (hap : a + 3 < t ∨ t + 3 < a) : JM mX5_copyOf [.ref t, .ref a] (jG0 sc) h (jvoid sc (fun h' => isRuns h' t rs ∧ jfr ([(t + 1, t + 3)], [(t, 3, 3)]) h h')) := by
  refine jM_of rfl (Nat.le_of_ble_eq_true rfl) (by decide +kernel) rfl (rX5_copyOf_0 a_h t_h ?_)
  refine jloop (fun i h1 => WP mX5_copyOf _ 2 [some (.ref t), some (.ref a), some (.int (nI i))] [] (jG0 sc) h1 (0, 0)) (fun i h1 => (∀ j, j < i → h1 (t + 1) j = h (a + 1) j ∧ h1 (t + 2) j = h (a + 2) j ∧ h1 (t + 3) j = h (a + 3) j) ∧ jfr ([(t + 1, t + 3)], []) h h1) 12 ?_ ?_ 0 h (by omega) ⟨fun j hj => absurd hj (by omega), jfr.rf⟩
  · rintro h1 ⟨i1, i2⟩
    refine rX5_copyOf_2 a_h t_h (fun _ => ?_) (fun c => absurd (by decide) c) (fun c => absurd (by decide) c)
    refine jvoid_i ⟨⟨?_, fun j hj => ?_⟩, (i2.mono (by simp [jsub])).put (by simp [jin])⟩
    · rw [jput_at, i2 a 3 (by rw [jin_f]; simp; omega)]; exact hr.1
    · obtain ⟨g1, g2, g3⟩ := i1 j (by omega)
      rw [jput_ne (by omega), jput_ne (by omega), jput_ne (by omega), g1, g2, g3]; exact hr.2 j hj
  · rintro i h1 hi ⟨i1, i2⟩ k
    have hi' : i < 2 ^ 31 := Nat.lt_trans hi (by decide)
    refine rX5_copyOf_2 a_h t_h (fun c => absurd ((jn_le (a := 12) (by decide) hi').mp c) (by omega)) (fun _ => vp_in_nI hi (by decide)) (fun _ => ?_)
    have e : ∀ c j, 1 ≤ c → c ≤ 3 → h1 (a + c) j = h (a + c) j := fun c j x y => i2 _ _ (by rw [jin_f]; simp; omega)
    rw [← nI_succ, nI_clamp hi', jput_ne (show a + 2 ≠ t + 1 by omega), jput_ne (show a + 3 ≠ t + 2 by omega), jput_ne (show a + 3 ≠ t + 1 by omega), e 1 _ (by omega) (by omega), e 2 _ (by omega) (by omega), e 3 _ (by omega) (by omega)]
    refine k _ ⟨fun j hj => ?_, ((i2.put (by rw [jin_iff]; simp)).put (by rw [jin_iff]; simp)).put (by rw [jin_iff]; simp)⟩
    simp only [jput_get]
    by_cases z : j = i
    · subst z; simp
    · have := i1 j (by omega)
      simp [z, this]
theorem tX1_copyOf (t_h : jI1 t) (a_h : jI1 a) (hr : isLaw h a ls) (h400 : ls.length ≤ 400) (hap : a + 1 < t ∨ t + 1 < a) : JM mX1_copyOf [.ref t, .ref a] (jG0 sc) h (jvoid sc (fun h' => isLaw h' t ls ∧ jfr ([(t + 1, t + 1)], [(t, 1, 1)]) h h')) := by
  refine jM_of rfl (Nat.le_of_ble_eq_true rfl) (by decide +kernel) rfl (rX1_copyOf_0 a_h t_h ?_)
  refine jloop (fun i h1 => WP mX1_copyOf _ 2 [some (.ref t), some (.ref a), some (.int (nI i))] [] (jG0 sc) h1 (0, 0)) (fun i h1 => (∀ j, j < i → h1 (t + 1) j = h (a + 1) j) ∧ jfr ([(t + 1, t + 1)], []) h h1) 400 ?_ ?_ 0 h (by omega) ⟨fun j hj => absurd hj (by omega), jfr.rf⟩
  · rintro h1 ⟨i1, i2⟩
    refine rX1_copyOf_2 a_h t_h (fun _ => ?_) (fun c => absurd (by decide) c) (fun c => absurd (by decide) c)
    refine jvoid_i ⟨⟨?_, fun j hj => ?_⟩, (i2.mono (by simp [jsub])).put (by simp [jin])⟩
    · rw [jput_at, i2 a 1 (by rw [jin_f]; simp; omega)]; exact hr.1
    · rw [jput_ne (by omega), i1 j (by omega)]; exact hr.2 j hj
  · rintro i h1 hi ⟨i1, i2⟩ k
    have hi' : i < 2 ^ 31 := Nat.lt_trans hi (by decide)
    refine rX1_copyOf_2 a_h t_h (fun c => absurd ((jn_le (a := 400) (by decide) hi').mp c) (by omega)) (fun _ => vp_in_nI hi (by decide)) (fun _ => ?_)
    rw [← nI_succ, nI_clamp hi', show h1 (a + 1) i = h (a + 1) i from i2 _ _ (by rw [jin_f]; simp; omega)]
    refine k _ ⟨fun j hj => ?_, i2.put (by rw [jin_iff]; simp)⟩
    by_cases z : j = i
    · subst z; rw [jput_at]
    · rw [jput_sl z]; exact i1 j (by omega)
theorem tX9_copyOf (t_h : jI9 t) (a_h : jI9 a) (hr : isTries h a T) (h30 : (tKept T).length ≤ 30) (h8 : (tRows T).length ≤ 8) (hap : a + 4 < t ∨ t + 4 < a) : JM mX9_copyOf [.ref t, .ref a] (jG0 sc) h (jvoid sc (fun h' => isTries h' t T ∧ jfr ([(t + 1, t + 4)], [(t, 1, 9)]) h h')) := by
  obtain ⟨e1, e2, e3, e4, e5, e6, e7, e8⟩ := hr
  refine jM_of rfl (Nat.le_of_ble_eq_true rfl) (by decide +kernel) rfl (rX9_copyOf_0 a_h t_h ?_)
  refine jloop (fun i h1 => WP mX9_copyOf _ 2 [some (.ref t), some (.ref a), some (.int (nI i))] [] (jG0 sc) h1 (0, 0)) (fun i h1 => (∀ j, j < i → h1 (t + 1) j = h (a + 1) j) ∧ jfr ([(t + 1, t + 4)], []) h h1) 30 ?_ ?_ 0 h (by omega) ⟨fun j hj => absurd hj (by omega), jfr.rf⟩
  · rintro h1 ⟨i1, i2⟩
    refine rX9_copyOf_2 a_h t_h (fun _ => ?_) (fun c => absurd (by decide) c) (fun c => absurd (by decide) c)
    refine jloop (fun i h1 => WP mX9_copyOf _ 28 [some (.ref t), some (.ref a), some (.int (nI i))] [] (jG0 sc) h1 (0, 0)) (fun i h1 => (∀ j, j < 30 → h1 (t + 1) j = h (a + 1) j) ∧ (∀ j, j < i → h1 (t + 2) j = h (a + 2) j ∧ h1 (t + 3) j = h (a + 3) j ∧ h1 (t + 4) j = h (a + 4) j) ∧ jfr ([(t + 1, t + 4)], []) h h1) 8 ?_ ?_ 0 h1 (by omega) ⟨i1, fun j hj => absurd hj (by omega), i2⟩
    · rintro h2 ⟨k1, k2, k3⟩
      refine rX9_copyOf_28 a_h t_h (fun _ => ?_) (fun c => absurd (by decide) c) (fun c => absurd (by decide) c)
      have ea : ∀ j, h2 a j = h a j := fun j => k3 _ _ (by rw [jin_f]; simp; omega)
      have na : ∀ {g : jH} {j : Nat} {x : Int32}, jput g t j x a = g a := jput_ne (by omega)
      simp only [na, ea]
      refine jvoid_i ⟨⟨?_, fun j hj => ?_, ?_, ?_, ?_, ?_, ?_, fun j hj => ?_⟩, ((((((k3.mono (by simp [jsub])).put (by rw [jin_iff]; simp)).put (by rw [jin_iff]; simp)).put (by rw [jin_iff]; simp)).put (by rw [jin_iff]; simp)).put (by rw [jin_iff]; simp)).put (by rw [jin_iff]; simp)⟩
      · simp [jput_get]; exact e1
      · rw [jput_ne (by omega), jput_ne (by omega), jput_ne (by omega), jput_ne (by omega), jput_ne (by omega), jput_ne (by omega), k1 j (by omega)]; exact e2 j hj
      · simp [jput_get]; exact e3
      · simp [jput_get]; exact e4
      · simp [jput_get]; exact e5
      · simp [jput_get]; exact e6
      · simp [jput_get]; exact e7
      · have nt : ∀ {g : jH} {c j : Nat} {x : Int32}, c ≠ t → jput g t j x c = g c := fun q => jput_ne q
        rw [nt (by omega), nt (by omega), nt (by omega), nt (by omega), nt (by omega), nt (by omega), nt (by omega), nt (by omega), nt (by omega), nt (by omega), nt (by omega), nt (by omega), nt (by omega), nt (by omega), nt (by omega), nt (by omega), nt (by omega), nt (by omega)]
        obtain ⟨g1, g2, g3⟩ := k2 j (by omega)
        rw [g1, g2, g3]; exact e8 j hj
    · rintro i h2 hi ⟨k1, k2, k3⟩ k
      have hi' : i < 2 ^ 31 := Nat.lt_trans hi (by decide)
      refine rX9_copyOf_28 a_h t_h (fun c => absurd ((jn_le (a := 8) (by decide) hi').mp c) (by omega)) (fun _ => vp_in_nI hi (by decide)) (fun _ => ?_)
      have e : ∀ c j, 1 ≤ c → c ≤ 4 → h2 (a + c) j = h (a + c) j := fun c j x y => k3 _ _ (by rw [jin_f]; simp; omega)
      rw [← nI_succ, nI_clamp hi', jput_ne (show a + 3 ≠ t + 2 by omega), jput_ne (show a + 4 ≠ t + 3 by omega), jput_ne (show a + 4 ≠ t + 2 by omega), e 2 _ (by omega) (by omega), e 3 _ (by omega) (by omega), e 4 _ (by omega) (by omega)]
      refine k _ ⟨fun j hj => ?_, fun j hj => ?_, ((k3.put (by rw [jin_iff]; simp)).put (by rw [jin_iff]; simp)).put (by rw [jin_iff]; simp)⟩
      · rw [jput_ne (by omega), jput_ne (by omega), jput_ne (by omega)]; exact k1 j hj
      · simp only [jput_get]
        by_cases z : j = i
        · subst z; simp
        · have := k2 j (by omega)
          simp [z, this]
  · rintro i h1 hi ⟨i1, i2⟩ k
    have hi' : i < 2 ^ 31 := Nat.lt_trans hi (by decide)
    refine rX9_copyOf_2 a_h t_h (fun c => absurd ((jn_le (a := 30) (by decide) hi').mp c) (by omega)) (fun _ => vp_in_nI hi (by decide)) (fun _ => ?_)
    rw [← nI_succ, nI_clamp hi', show h1 (a + 1) i = h (a + 1) i from i2 _ _ (by rw [jin_f]; simp; omega)]
    refine k _ ⟨fun j hj => ?_, i2.put (by rw [jin_iff]; simp)⟩
    by_cases z : j = i
    · subst z; rw [jput_at]
    · rw [jput_sl z]; exact i1 j (by omega)
/-- a program's cells, as they are -/
theorem tX4_raw (t_h : jI4 t) (a_h : jI4 a) (hap : a + 1 < t ∨ t + 1 < a) : JM mX4_copyOf [.ref t, .ref a] (jG0 sc) h (jvoid sc (fun h' => (∀ q, isP h a q → isP h' t q) ∧ jfr ([(t + 1, t + 1)], [(t, 1, 1)]) h h')) := by
  refine jM_of rfl (Nat.le_of_ble_eq_true rfl) (by decide +kernel) rfl (rX4_copyOf_0 a_h t_h ?_)
  refine jloop (fun i h1 => WP mX4_copyOf _ 2 [some (.ref t), some (.ref a), some (.int (nI i))] [] (jG0 sc) h1 (0, 0)) (fun i h1 => (∀ j, j < i → h1 (t + 1) j = h (a + 1) j) ∧ jfr ([(t + 1, t + 1)], []) h h1) 10 ?_ ?_ 0 h (by omega) ⟨fun j hj => absurd hj (by omega), jfr.rf⟩
  · rintro h1 ⟨i1, i2⟩
    refine rX4_copyOf_2 a_h t_h (fun _ => ?_) (fun c => absurd (by decide) c) (fun c => absurd (by decide) c)
    refine jvoid_i ⟨fun q hp => ⟨?_, hp.2.1, fun j hj => ?_⟩, (i2.mono (by simp [jsub])).put (by simp [jin])⟩
    · rw [jput_at, i2 a 1 (by rw [jin_f]; simp; omega)]; exact hp.1
    · have := hp.2.1
      rw [jput_ne (by omega), i1 j (by omega)]; exact hp.2.2 j hj
  · rintro i h1 hi ⟨i1, i2⟩ k
    have hi' : i < 2 ^ 31 := Nat.lt_trans hi (by decide)
    refine rX4_copyOf_2 a_h t_h (fun c => absurd ((jn_le (a := 10) (by decide) hi').mp c) (by omega)) (fun _ => vp_in_nI hi (by decide)) (fun _ => ?_)
    rw [← nI_succ, nI_clamp hi', show h1 (a + 1) i = h (a + 1) i from i2 _ _ (by rw [jin_f]; simp; omega)]
    refine k _ ⟨fun j hj => ?_, i2.put (by rw [jin_iff]; simp)⟩
    by_cases z : j = i
    · subst z; rw [jput_at]
    · rw [jput_sl z]; exact i1 j (by omega)
abbrev fImg : jF := ([(40, 68)], [(39, 7, 8)])
theorem tX6_image {S : aS} (k : rC h 9 S) (ok : sStOk n S) : JM mX6_copyOf [.ref 39, .ref 9] (jG0 sc) h (jvoid sc (fun h' => rC h' 39 S ∧ jfr fImg h h')) := by
  have t_h : jI6 39 := by unfold jI6; decide
  have a_h : jI6 9 := by unfold jI6; decide
  obtain ⟨k1, k2, k3, k4, k5, k6, k7, k8⟩ := k
  obtain ⟨o1, o2, o3, o4, o5, o6, o7, o8⟩ := ok
  have p4 : ∀ c, (c = 40 ∨ c = 42 ∨ c = 10 ∨ c = 12) → jI4 c := by rintro c (rfl | rfl | rfl | rfl) <;> (unfold jI4; decide)
  have p5 : jI5 44 ∧ jI5 14 := by constructor <;> (unfold jI5; decide)
  have p1 : jI1 48 ∧ jI1 18 := by constructor <;> (unfold jI1; decide)
  have p9 : jI9 50 ∧ jI9 20 := by constructor <;> (unfold jI9; decide)
  refine jM_of rfl (Nat.le_of_ble_eq_true rfl) (by decide +kernel) rfl (rX6_copyOf_0 a_h t_h
    (P1 := fun h' => isP h' 40 (aBody S) ∧ jfr fImg h h') (jM_void (tX4_copyOf (p4 _ (by omega)) (p4 _ (by omega)) k1 (by omega)) (fun h' z => ⟨z.1, z.2.mono rfl⟩))
    (P2 := fun h' => isP h' 40 (aBody S) ∧ isP h' 42 (aSecond S) ∧ jfr fImg h h') (fun h1 y => jM_void (tX4_copyOf (p4 _ (by omega)) (p4 _ (by omega)) (k2.fr y.2 rfl (fun _ => rfl)) (by omega)) (fun h' z => ⟨y.1.fr z.2 rfl (fun _ => rfl), z.1, y.2.tr2 (z.2.mono rfl)⟩))
    (P3 := fun h' => isP h' 40 (aBody S) ∧ isP h' 42 (aSecond S) ∧ isRuns h' 44 (aRuns S) ∧ jfr fImg h h') (fun h0 _ h1 y => jM_void (tX5_copyOf p5.1 p5.2 (k3.fr y.2.2 rfl (fun _ => rfl) (fun _ => rfl) (fun _ => rfl)) o3.1 (by omega)) (fun h' z => ⟨y.1.fr z.2 rfl (fun _ => rfl), y.2.1.fr z.2 rfl (fun _ => rfl), z.1, y.2.2.tr2 (z.2.mono rfl)⟩))
    (P4 := fun h' => isP h' 40 (aBody S) ∧ isP h' 42 (aSecond S) ∧ isRuns h' 44 (aRuns S) ∧ isLaw h' 48 (aLaw S) ∧ jfr fImg h h') (fun h0 _ h00 _ h1 y => jM_void (tX1_copyOf p1.1 p1.2 (k4.fr y.2.2.2 rfl (fun _ => rfl)) o4.2.2.1 (by omega)) (fun h' z => ⟨y.1.fr z.2 rfl (fun _ => rfl), y.2.1.fr z.2 rfl (fun _ => rfl), y.2.2.1.fr z.2 rfl (fun _ => rfl) (fun _ => rfl) (fun _ => rfl), z.1, y.2.2.2.tr2 (z.2.mono rfl)⟩))
    (P5 := fun h' => isP h' 40 (aBody S) ∧ isP h' 42 (aSecond S) ∧ isRuns h' 44 (aRuns S) ∧ isLaw h' 48 (aLaw S) ∧ isTries h' 50 (aTr S) ∧ jfr fImg h h') (fun h0 _ h00 _ h000 _ h1 y => jM_void (tX9_copyOf p9.1 p9.2 (k5.fr y.2.2.2.2 rfl rfl rfl rfl rfl rfl (fun _ => rfl) (fun _ => rfl) (fun _ => rfl) (fun _ => rfl)) o5.1 o5.2.2.2 (by omega)) (fun h' z => ⟨y.1.fr z.2 rfl (fun _ => rfl), y.2.1.fr z.2 rfl (fun _ => rfl), y.2.2.1.fr z.2 rfl (fun _ => rfl) (fun _ => rfl) (fun _ => rfl), y.2.2.2.1.fr z.2 rfl (fun _ => rfl), z.1, y.2.2.2.2.tr2 (z.2.mono rfl)⟩)) ?_)
  rintro _ - _ - _ - _ - h5 ⟨y1, y2, y3, y4, y5, yf⟩
  refine jloop (fun i h1 => WP mX6_copyOf _ 57 [some (.ref 39), some (.ref 9), some (.int (nI i))] [] (jG0 sc) h1 (0, 0)) (fun i h1 => (∀ j, j < i → h1 55 j = h 25 j) ∧ jfr ([(55, 55)], []) h5 h1) 6 ?_ ?_ 0 h5 (by omega) ⟨fun j hj => absurd hj (by omega), jfr.rf⟩
  · rintro h6 ⟨i1, i2⟩
    have mid : jfr fImg h h6 := yf.tr2 (i2.mono rfl)
    refine rX6_copyOf_57 a_h t_h (fun _ => ?_) (fun c => absurd (by decide) c) (fun c => absurd (by decide) c)
    refine jloop (fun i h1 => WP mX6_copyOf _ 83 [some (.ref 39), some (.ref 9), some (.int (nI i))] [] (jG0 sc) h1 (0, 0)) (fun i h1 => (∀ j, j < i → ∀ q, isP h (27 + 2 * j) q → isP h1 (57 + 2 * j) q) ∧ jfr ([(57, 68)], []) h6 h1) 6 ?_ ?_ 0 h6 (by omega) ⟨fun j hj => absurd hj (by omega), jfr.rf⟩
    · rintro h7 ⟨j1, j2⟩
      have end7 : jfr fImg h h7 := mid.tr2 (j2.mono rfl)
      refine rX6_copyOf_83 (q1 := 0) (q2 := 0) a_h t_h (fun _ => ?_) (fun c => absurd (by decide) c) (fun c => absurd (by decide) c) (fun c => absurd (by decide) c) (fun c => absurd (by decide) c) (fun c => absurd (by decide) c) (P1 := fun _ => True) (fun c => absurd (by decide) c) (fun c => absurd (by decide) c)
      have ea7 : h7 9 7 = h 9 7 := end7 9 7 rfl
      have ea8 : h7 9 8 = h 9 8 := end7 9 8 rfl
      rw [jput_ne (show (9 : Nat) ≠ 39 by decide), ea7, ea8]
      have fz : jfr ([(55, 68)], [(39, 7, 8)]) h5 (jput (jput h7 39 7 (h 9 7)) 39 8 (h 9 8)) := (((i2.mono rfl).tr2 (j2.mono rfl)).put rfl).put rfl
      refine jvoid_i ⟨⟨y1.fr fz rfl (fun _ => rfl), y2.fr fz rfl (fun _ => rfl), y3.fr fz rfl (fun _ => rfl) (fun _ => rfl) (fun _ => rfl), y4.fr fz rfl (fun _ => rfl), y5.fr fz rfl rfl rfl rfl rfl rfl (fun _ => rfl) (fun _ => rfl) (fun _ => rfl) (fun _ => rfl), fun i hi => ?_, ⟨?_, fun i hi => ?_⟩, ?_⟩, (end7.put rfl).put rfl⟩
      · show h7 55 i = _
        rw [show h7 55 i = h6 55 i from j2 55 i rfl, i1 i hi]; exact k6 i hi
      · rw [jput_sl (by decide), jput_at]; exact k7.1
      · have z := j1 i (by omega) _ (k7.2 i hi)
        exact ⟨by show jput _ _ _ _ (57 + 2 * i) 1 = _; rw [jput_ne (by omega), jput_ne (by omega)]; exact z.1, z.2.1, fun j hj => by show jput _ _ _ _ (57 + 2 * i + 1) j = _; rw [jput_ne (by omega), jput_ne (by omega)]; exact z.2.2 j hj⟩
      · rw [jput_at]; exact k8
    · rintro i h7 hi ⟨j1, j2⟩ kk
      have hi' : i < 2 ^ 31 := Nat.lt_trans hi (by decide)
      have end7 : jfr fImg h h7 := mid.tr2 (j2.mono rfl)
      have rt : ∀ i, i < 6 → (jRt.getD 56 []).getD i none = some (57 + 2 * i) ∧ (jRt.getD 26 []).getD i none = some (27 + 2 * i) := by decide
      have ri : ∀ i, i < 6 → jI4 (57 + 2 * i) ∧ jI4 (27 + 2 * i) := by unfold jI4; decide
      refine rX6_copyOf_83 (q1 := 57 + 2 * i) (q2 := 27 + 2 * i) a_h t_h (fun c => absurd ((jn_le (a := 6) (by decide) hi').mp c) (by omega)) (fun _ => vp_in_nI hi (by decide)) (fun _ => by rw [nI_clamp hi']; exact (rt i hi).1) (fun _ => (ri i hi).1) (fun _ => by rw [nI_clamp hi']; exact (rt i hi).2) (fun _ => (ri i hi).2) (fun _ => tX4_raw (ri i hi).1 (ri i hi).2 (by omega)) (fun _ h8 z => ?_)
      rw [← nI_succ]
      have f8 : jfr ([(57, 68)], []) h7 h8 := fun c j hcj => z.2 c j (by rw [jin_f] at hcj ⊢; simp at hcj ⊢; omega)
      refine kk h8 ⟨fun j hj q hq => ?_, j2.tr2 f8⟩
      by_cases e : j = i
      · subst e
        refine z.1 q (hq.fr end7 ?_ (fun j => ?_)) <;> (rw [jin_f]; simp; omega)
      · exact (j1 j (by omega) q hq).fr z.2 (by rw [jin_f]; simp; omega) (fun x => by rw [jin_f]; simp; omega)
  · rintro i h6 hi ⟨i1, i2⟩ kk
    have hi' : i < 2 ^ 31 := Nat.lt_trans hi (by decide)
    refine rX6_copyOf_57 a_h t_h (fun c => absurd ((jn_le (a := 6) (by decide) hi').mp c) (by omega)) (fun _ => vp_in_nI hi (by decide)) (fun _ => ?_)
    rw [← nI_succ, nI_clamp hi', show h6 (9 + 16) i = h 25 i from (i2 25 i rfl).trans (yf 25 i rfl)]
    refine kk _ ⟨fun j hj => ?_, i2.put (by rw [jin_iff]; simp)⟩
    by_cases z : j = i
    · subst z; rw [show (39 + 16 : Nat) = 55 from rfl, jput_at]
    · rw [show (39 + 16 : Nat) = 55 from rfl, jput_sl z]; exact i1 j (by omega)
abbrev fBack : jF := ([(10, 38)], [(9, 7, 8)])
theorem tX6_back {S : aS} (k : rC h 39 S) (ok : sStOk n S) : JM mX6_copyOf [.ref 9, .ref 39] (jG0 sc) h (jvoid sc (fun h' => rC h' 9 S ∧ jfr fBack h h')) := by
  have t_h : jI6 9 := by unfold jI6; decide
  have a_h : jI6 39 := by unfold jI6; decide
  obtain ⟨k1, k2, k3, k4, k5, k6, k7, k8⟩ := k
  obtain ⟨o1, o2, o3, o4, o5, o6, o7, o8⟩ := ok
  have p4 : ∀ c, (c = 10 ∨ c = 12 ∨ c = 40 ∨ c = 42) → jI4 c := by rintro c (rfl | rfl | rfl | rfl) <;> (unfold jI4; decide)
  have p5 : jI5 14 ∧ jI5 44 := by constructor <;> (unfold jI5; decide)
  have p1 : jI1 18 ∧ jI1 48 := by constructor <;> (unfold jI1; decide)
  have p9 : jI9 20 ∧ jI9 50 := by constructor <;> (unfold jI9; decide)
  refine jM_of rfl (Nat.le_of_ble_eq_true rfl) (by decide +kernel) rfl (rX6_copyOf_0 a_h t_h
    (P1 := fun h' => isP h' 10 (aBody S) ∧ jfr fBack h h') (jM_void (tX4_copyOf (p4 _ (by omega)) (p4 _ (by omega)) k1 (by omega)) (fun h' z => ⟨z.1, z.2.mono rfl⟩))
    (P2 := fun h' => isP h' 10 (aBody S) ∧ isP h' 12 (aSecond S) ∧ jfr fBack h h') (fun h1 y => jM_void (tX4_copyOf (p4 _ (by omega)) (p4 _ (by omega)) (k2.fr y.2 rfl (fun _ => rfl)) (by omega)) (fun h' z => ⟨y.1.fr z.2 rfl (fun _ => rfl), z.1, y.2.tr2 (z.2.mono rfl)⟩))
    (P3 := fun h' => isP h' 10 (aBody S) ∧ isP h' 12 (aSecond S) ∧ isRuns h' 14 (aRuns S) ∧ jfr fBack h h') (fun h0 _ h1 y => jM_void (tX5_copyOf p5.1 p5.2 (k3.fr y.2.2 rfl (fun _ => rfl) (fun _ => rfl) (fun _ => rfl)) o3.1 (by omega)) (fun h' z => ⟨y.1.fr z.2 rfl (fun _ => rfl), y.2.1.fr z.2 rfl (fun _ => rfl), z.1, y.2.2.tr2 (z.2.mono rfl)⟩))
    (P4 := fun h' => isP h' 10 (aBody S) ∧ isP h' 12 (aSecond S) ∧ isRuns h' 14 (aRuns S) ∧ isLaw h' 18 (aLaw S) ∧ jfr fBack h h') (fun h0 _ h00 _ h1 y => jM_void (tX1_copyOf p1.1 p1.2 (k4.fr y.2.2.2 rfl (fun _ => rfl)) o4.2.2.1 (by omega)) (fun h' z => ⟨y.1.fr z.2 rfl (fun _ => rfl), y.2.1.fr z.2 rfl (fun _ => rfl), y.2.2.1.fr z.2 rfl (fun _ => rfl) (fun _ => rfl) (fun _ => rfl), z.1, y.2.2.2.tr2 (z.2.mono rfl)⟩))
    (P5 := fun h' => isP h' 10 (aBody S) ∧ isP h' 12 (aSecond S) ∧ isRuns h' 14 (aRuns S) ∧ isLaw h' 18 (aLaw S) ∧ isTries h' 20 (aTr S) ∧ jfr fBack h h') (fun h0 _ h00 _ h000 _ h1 y => jM_void (tX9_copyOf p9.1 p9.2 (k5.fr y.2.2.2.2 rfl rfl rfl rfl rfl rfl (fun _ => rfl) (fun _ => rfl) (fun _ => rfl) (fun _ => rfl)) o5.1 o5.2.2.2 (by omega)) (fun h' z => ⟨y.1.fr z.2 rfl (fun _ => rfl), y.2.1.fr z.2 rfl (fun _ => rfl), y.2.2.1.fr z.2 rfl (fun _ => rfl) (fun _ => rfl) (fun _ => rfl), y.2.2.2.1.fr z.2 rfl (fun _ => rfl), z.1, y.2.2.2.2.tr2 (z.2.mono rfl)⟩)) ?_)
  rintro _ - _ - _ - _ - h5 ⟨y1, y2, y3, y4, y5, yf⟩
  refine jloop (fun i h1 => WP mX6_copyOf _ 57 [some (.ref 9), some (.ref 39), some (.int (nI i))] [] (jG0 sc) h1 (0, 0)) (fun i h1 => (∀ j, j < i → h1 25 j = h 55 j) ∧ jfr ([(25, 25)], []) h5 h1) 6 ?_ ?_ 0 h5 (by omega) ⟨fun j hj => absurd hj (by omega), jfr.rf⟩
  · rintro h6 ⟨i1, i2⟩
    have mid : jfr fBack h h6 := yf.tr2 (i2.mono rfl)
    refine rX6_copyOf_57 a_h t_h (fun _ => ?_) (fun c => absurd (by decide) c) (fun c => absurd (by decide) c)
    refine jloop (fun i h1 => WP mX6_copyOf _ 83 [some (.ref 9), some (.ref 39), some (.int (nI i))] [] (jG0 sc) h1 (0, 0)) (fun i h1 => (∀ j, j < i → ∀ q, isP h (57 + 2 * j) q → isP h1 (27 + 2 * j) q) ∧ jfr ([(27, 38)], []) h6 h1) 6 ?_ ?_ 0 h6 (by omega) ⟨fun j hj => absurd hj (by omega), jfr.rf⟩
    · rintro h7 ⟨j1, j2⟩
      have end7 : jfr fBack h h7 := mid.tr2 (j2.mono rfl)
      refine rX6_copyOf_83 (q1 := 0) (q2 := 0) a_h t_h (fun _ => ?_) (fun c => absurd (by decide) c) (fun c => absurd (by decide) c) (fun c => absurd (by decide) c) (fun c => absurd (by decide) c) (fun c => absurd (by decide) c) (P1 := fun _ => True) (fun c => absurd (by decide) c) (fun c => absurd (by decide) c)
      have ea7 : h7 39 7 = h 39 7 := end7 39 7 rfl
      have ea8 : h7 39 8 = h 39 8 := end7 39 8 rfl
      rw [jput_ne (show (39 : Nat) ≠ 9 by decide), ea7, ea8]
      have fz : jfr ([(25, 38)], [(9, 7, 8)]) h5 (jput (jput h7 9 7 (h 39 7)) 9 8 (h 39 8)) := (((i2.mono rfl).tr2 (j2.mono rfl)).put rfl).put rfl
      refine jvoid_i ⟨⟨y1.fr fz rfl (fun _ => rfl), y2.fr fz rfl (fun _ => rfl), y3.fr fz rfl (fun _ => rfl) (fun _ => rfl) (fun _ => rfl), y4.fr fz rfl (fun _ => rfl), y5.fr fz rfl rfl rfl rfl rfl rfl (fun _ => rfl) (fun _ => rfl) (fun _ => rfl) (fun _ => rfl), fun i hi => ?_, ⟨?_, fun i hi => ?_⟩, ?_⟩, (end7.put rfl).put rfl⟩
      · show h7 25 i = _
        rw [show h7 25 i = h6 25 i from j2 25 i rfl, i1 i hi]; exact k6 i hi
      · rw [jput_sl (by decide), jput_at]; exact k7.1
      · have z := j1 i (by omega) _ (k7.2 i hi)
        exact ⟨by show jput _ _ _ _ (27 + 2 * i) 1 = _; rw [jput_ne (by omega), jput_ne (by omega)]; exact z.1, z.2.1, fun j hj => by show jput _ _ _ _ (27 + 2 * i + 1) j = _; rw [jput_ne (by omega), jput_ne (by omega)]; exact z.2.2 j hj⟩
      · rw [jput_at]; exact k8
    · rintro i h7 hi ⟨j1, j2⟩ kk
      have hi' : i < 2 ^ 31 := Nat.lt_trans hi (by decide)
      have end7 : jfr fBack h h7 := mid.tr2 (j2.mono rfl)
      have rt : ∀ i, i < 6 → (jRt.getD 26 []).getD i none = some (27 + 2 * i) ∧ (jRt.getD 56 []).getD i none = some (57 + 2 * i) := by decide
      have ri : ∀ i, i < 6 → jI4 (27 + 2 * i) ∧ jI4 (57 + 2 * i) := by unfold jI4; decide
      refine rX6_copyOf_83 (q1 := 27 + 2 * i) (q2 := 57 + 2 * i) a_h t_h (fun c => absurd ((jn_le (a := 6) (by decide) hi').mp c) (by omega)) (fun _ => vp_in_nI hi (by decide)) (fun _ => by rw [nI_clamp hi']; exact (rt i hi).1) (fun _ => (ri i hi).1) (fun _ => by rw [nI_clamp hi']; exact (rt i hi).2) (fun _ => (ri i hi).2) (fun _ => tX4_raw (ri i hi).1 (ri i hi).2 (by omega)) (fun _ h8 z => ?_)
      rw [← nI_succ]
      have f8 : jfr ([(27, 38)], []) h7 h8 := fun c j hcj => z.2 c j (by rw [jin_f] at hcj ⊢; simp at hcj ⊢; omega)
      refine kk h8 ⟨fun j hj q hq => ?_, j2.tr2 f8⟩
      by_cases e : j = i
      · subst e
        refine z.1 q (hq.fr end7 ?_ (fun j => ?_)) <;> (rw [jin_f]; simp; omega)
      · exact (j1 j (by omega) q hq).fr z.2 (by rw [jin_f]; simp; omega) (fun x => by rw [jin_f]; simp; omega)
  · rintro i h6 hi ⟨i1, i2⟩ kk
    have hi' : i < 2 ^ 31 := Nat.lt_trans hi (by decide)
    refine rX6_copyOf_57 a_h t_h (fun c => absurd ((jn_le (a := 6) (by decide) hi').mp c) (by omega)) (fun _ => vp_in_nI hi (by decide)) (fun _ => ?_)
    rw [← nI_succ, nI_clamp hi', show h6 (39 + 16) i = h 55 i from (i2 55 i rfl).trans (yf 55 i rfl)]
    refine kk _ ⟨fun j hj => ?_, i2.put (by rw [jin_iff]; simp)⟩
    by_cases z : j = i
    · subst z; rw [show (9 + 16 : Nat) = 25 from rfl, jput_at]
    · rw [show (9 + 16 : Nat) = 25 from rfl, jput_sl z]; exact i1 j (by omega)
end CP
