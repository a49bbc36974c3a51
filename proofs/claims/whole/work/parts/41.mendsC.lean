/-! The class's list of mends. -/
section MC
variable {sc : Nat × (Nat → Int32)} {h : jH} {t at' : Nat} {ms : List sMd} {l : Int32}
def isMs (h : jH) (t : Nat) (ms : List sMd) : Prop := h t 6 = nI ms.length ∧ ∀ i, i < ms.length → h (t + 1) i = (ms.getD i sMd0).1 ∧ h (t + 2) i = nI (ms.getD i sMd0).2.1 ∧ h (t + 3) i = (ms.getD i sMd0).2.2
abbrev fMd (t : Nat) : jF := ([(t + 1, t + 3)], [(t, 6, 6)])
theorem isMs.fr {F : jF} {h h' : jH} (k : isMs h t ms) (f : jfr F h h') (h1 : jin F t 6 = false) (h2 : ∀ j, jin F (t + 1) j = false) (h3 : ∀ j, jin F (t + 2) j = false) (h4 : ∀ j, jin F (t + 3) j = false) : isMs h' t ms := by
  refine ⟨(f _ _ h1).trans k.1, fun i hi => ?_⟩
  obtain ⟨a, b, c⟩ := k.2 i hi
  exact ⟨(f _ _ (h2 i)).trans a, (f _ _ (h3 i)).trans b, (f _ _ (h4 i)).trans c⟩
theorem getD_app1 {α : Type} {p : List α} {x d : α} {j : Nat} (hj : j < (p ++ [x]).length) : (p ++ [x]).getD j d = if j = p.length then x else p.getD j d := by
  simp only [List.length_append, List.length_singleton] at hj
  simp only [List.getD_eq_getElem?_getD]
  by_cases h : j = p.length
  · subst h; simp
  · rw [if_neg h, List.getElem?_append_left (by omega)]
theorem tX3_add {f : Int32} (t_h : jI3 t) (hm : isMs h t ms) (hl : ms.length < 300) : JM mX3_add [.ref t, .int f, .int (nI at'), .int l] (jG0 sc) h (jvoid sc (fun h' => isMs h' t (ms ++ [(f, at', l)]) ∧ jfr (fMd t) h h')) := by
  have n31 : ms.length < 2 ^ 31 := by omega
  refine jM_of rfl (Nat.le_of_ble_eq_true rfl) (by decide +kernel) rfl (rX3_add_0 t_h ?_ ?_ ?_ ?_ ?_ ?_)
  · intro c; rw [hm.1] at c; exact absurd c (nI_pos n31)
  · intro c1 c2; rw [hm.1] at c2; have := (jn_le (a := 300) (by decide) n31).mp c2; omega
  · intro _ _; rw [hm.1]; exact vp_in_nI hl (by decide)
  · intro _ _; rw [jput_ne (by omega), hm.1]; exact vp_in_nI hl (by decide)
  · intro _ _; rw [jput_ne (by omega), jput_ne (by omega), hm.1]; exact vp_in_nI hl (by decide)
  · intro _ _
    refine jvoid_i ?_
    have e : ∀ (a b c : Int32) (i j k : Nat), jput (jput (jput h (t + 1) i a) (t + 2) j b) (t + 3) k c t = h t := fun a b c i j k => by rw [jput_ne (by omega), jput_ne (by omega), jput_ne (by omega)]
    have e1 : ∀ (a : Int32) (i : Nat), jput h (t + 1) i a t = h t := fun a i => jput_ne (by omega)
    have e2 : ∀ (a b : Int32) (i j : Nat), jput (jput h (t + 1) i a) (t + 2) j b t = h t := fun a b i j => by rw [jput_ne (by omega), jput_ne (by omega)]
    rw [e, e2, e1, hm.1, nI_clamp n31]
    refine ⟨⟨?_, fun j hj => ?_⟩, (((jfr.rf.put ?_).put ?_).put ?_).put ?_⟩
    · rw [jput_at, List.length_append]; exact (nI_succ _).symm
    · rw [getD_app1 hj]
      have e4 : ∀ k, k ≠ t → ∀ (a b c d : Int32) (i j m n : Nat), jput (jput (jput (jput h (t + 1) i a) (t + 2) j b) (t + 3) m c) t n d k = jput (jput (jput h (t + 1) i a) (t + 2) j b) (t + 3) m c k := fun k hk a b c d i j m n => jput_ne hk
      rw [e4 _ (by omega), e4 _ (by omega), e4 _ (by omega)]
      by_cases hji : j = ms.length
      · subst hji
        simp [jput]
      · have := hm.2 j (by simp at hj; omega)
        rw [if_neg hji]
        simp [jput, hji, this]
    all_goals rw [jin_iff]; simp
theorem sEach_succ {lo x : Int32} {n : Nat} : sEach lo (n + 1) x = if lo + nI n = x then sEach lo n x else sEach lo n x ++ [lo + nI n] := by
  unfold sEach
  rw [List.range_succ, List.map_append, List.filter_append]
  by_cases h : lo + nI n = x
  · rw [if_pos h]; simp [h]
  · rw [if_neg h]; simp [h]
theorem sEach_len {lo x : Int32} {n : Nat} : (sEach lo n x).length ≤ n := by
  unfold sEach
  refine Nat.le_trans (List.length_filter_le _ _) ?_
  simp
/-- mends of one form on one line, behind others -/
def sPut (ms : List sMd) (f : Int32) (n : Nat) (ls : List Int32) : List sMd := ms ++ ls.map (fun z => (f, n, z))
theorem sPut_len {f : Int32} {n : Nat} {ls : List Int32} : (sPut ms f n ls).length = ms.length + ls.length := by simp [sPut]
theorem sPut_nil {f : Int32} {n : Nat} : sPut ms f n [] = ms := by simp [sPut]
theorem sPut_app {f : Int32} {n : Nat} {ls : List Int32} {z : Int32} : sPut ms f n ls ++ [(f, n, z)] = sPut ms f n (ls ++ [z]) := by simp [sPut]
theorem sPut_put {f : Int32} {n : Nat} {a b : List Int32} : sPut (sPut ms f n a) f n b = sPut ms f n (a ++ b) := by simp [sPut]
theorem tX11_withFirst {v : Int32} : JM mX11_withFirst [.int l, .int v] (jG0 sc) h (jgets sc (sWithFirst l v) h) := jM_of rfl (Nat.le_of_ble_eq_true rfl) (by decide +kernel) rfl (rX11_withFirst_0 (jgets_i rfl))
theorem tX11_withSecond {v : Int32} : JM mX11_withSecond [.int l, .int v] (jG0 sc) h (jgets sc (sWithSecond l v) h) := jM_of rfl (Nat.le_of_ble_eq_true rfl) (by decide +kernel) rfl (rX11_withSecond_0 (jgets_i rfl))
theorem tX11_withMade {v : Int32} : JM mX11_withMade [.int l, .int v] (jG0 sc) h (jgets sc (sWithMade l v) h) := jM_of rfl (Nat.le_of_ble_eq_true rfl) (by decide +kernel) rfl (rX11_withMade_0 (jgets_i rfl))
theorem tX11_withSign {v : Int32} : JM mX11_withSign [.int l, .int v] (jG0 sc) h (jgets sc (sWithSign l v) h) := jM_of rfl (Nat.le_of_ble_eq_true rfl) (by decide +kernel) rfl (rX11_withSign_0 (jgets_i rfl))
theorem tX11_withCount {v : Int32} : JM mX11_withCount [.int l, .int v] (jG0 sc) h (jgets sc (sWithCount l v) h) := jM_of rfl (Nat.le_of_ble_eq_true rfl) (by decide +kernel) rfl (rX11_withCount_0 (jgets_i rfl))
theorem z_add (n : Nat) : (0 : Int32) + nI n = nI n := Int32.zero_add _
/-- the names of a place: 0 to n - 1, each that is not x, if x is one of them -/
def sNm (w : Int32 → Int32) (n : Nat) (x : Int32) : List Int32 := if ¬ x < 0 ∧ x < nI n then (sEach 0 n x).map w else []
abbrev nLv (t : Nat) (a l x y k : Int32) : List (Option Value) := [some (.ref t), some (.int a), some (.int l), some (.int x), some (.int y), some (.int k)]
theorem tX3_addNames (t_h : jI3 t) (hm : isMs h t ms) (hl : ms.length + 16 ≤ 300) : JM mX3_addNames [.ref t, .int (nI at'), .int l] (jG0 sc) h (jvoid sc (fun h' => isMs h' t (sPut ms 0 at' (sNamesF l ++ sNamesS l ++ sNamesM l)) ∧ jfr (fMd t) h h')) := by
  have lF : (sNamesF l).length ≤ 6 := by
    unfold sNamesF
    split
    · rw [List.length_map]; exact sEach_len
    · simp
  have lS : (sNamesS l).length ≤ 6 := by
    unfold sNamesS
    split
    · rw [List.length_map]; exact sEach_len
    · simp
  have lM : (sNamesM l).length ≤ 4 := by
    unfold sNamesM
    split
    · rw [List.length_map]; exact sEach_len
    · simp
  -- the third loop
  have L3 : ∀ h1, jfr (fMd t) h h1 → isMs h1 t (sPut ms 0 at' (sNamesF l ++ sNamesS l)) → WP mX3_addNames (jvoid sc (fun h' => isMs h' t (sPut ms 0 at' (sNamesF l ++ sNamesS l ++ sNamesM l)) ∧ jfr (fMd t) h h')) 105 (nLv t (nI at') l (sFirst l) (sSecond l) 0) [] (jG0 sc) h1 (0, 0) := by
    intro h0 f0 m0
    refine jloop (fun i (h1 : jH) => WP mX3_addNames _ 105 (nLv t (nI at') l (sFirst l) (sSecond l) (nI i)) [] (jG0 sc) h1 (0, 0))
      (fun i h1 => jfr (fMd t) h h1 ∧ isMs h1 t (sPut ms 0 at' (sNamesF l ++ sNamesS l ++ if sKind l = 0 then (sEach 0 i (sMade l)).map (sWithMade l) else []))) 4 ?_ ?_ 0 h0 (by omega) ⟨f0, (by rw [show (if sKind l = 0 then (sEach 0 0 (sMade l)).map (sWithMade l) else []) = [] from by split <;> rfl, List.append_nil]; exact m0)⟩
    · rintro h1 ⟨i1, i2⟩
      exact rX3_addNames_105 t_h (fun _ => jvoid_i ⟨i2, i1⟩) (P1 := fun _ _ => True) (P2 := fun _ _ => True) (P3 := fun _ _ => True) (P4 := fun _ => True) (fun c => absurd (by decide) c) (fun c => absurd (by decide) c) (fun c => absurd (by decide) c) (fun c => absurd (by decide) c) (fun c => absurd (by decide) c) (fun c => absurd (by decide) c) (fun c => absurd (by decide) c)
    · rintro i h1 hi ⟨i1, i2⟩ k
      have hi31 : i < 2 ^ 31 := by omega
      have no : ¬ (4 : Int32) ≤ nI i := fun c => by have := (jn_le (a := 4) (by decide) hi31).mp c; omega
      refine rX3_addNames_105 t_h (P4 := fun h' => isMs h' t (sPut ms 0 at' (sNamesF l ++ sNamesS l ++ (sEach 0 i (sMade l)).map (sWithMade l)) ++ [(0, at', sWithMade l (nI i))]) ∧ jfr (fMd t) h1 h') (fun c => absurd c no) (fun _ => tX11_kindOf) (fun _ => ?_) (fun _ _ _ p _ => by rw [← p.2]; exact tX11_madeOf) (fun _ => ?_) (fun _ _ _ p _ _ _ q _ => by rw [← q.2]; exact tX11_withMade) (fun _ x1 h2 p c x2 h3 q c2 x3 h4 r => ?_) (fun _ => ?_)
      · rintro _ _ ⟨rfl, rfl⟩ c
        rw [← nI_succ]
        exact k _ ⟨i1, by rw [if_neg c] at i2 ⊢; exact i2⟩
      · rintro _ _ ⟨rfl, rfl⟩ c _ _ ⟨rfl, rfl⟩ c2
        rw [← nI_succ]
        refine k _ ⟨i1, ?_⟩
        rw [if_pos c] at i2 ⊢
        rw [sEach_succ, z_add, if_pos c2]; exact i2
      · rw [← r.2, r.1]
        rw [p.1] at c
        rw [if_pos c] at i2
        exact tX3_add t_h i2 (by rw [sPut_len, List.length_append, List.length_append, List.length_map]; have := @sEach_len 0 (sMade l) i; omega)
      · rintro _ _ ⟨rfl, rfl⟩ c _ _ ⟨rfl, rfl⟩ c2 _ _ ⟨rfl, rfl⟩ h5 ⟨g1, g2⟩
        rw [← nI_succ]
        refine k _ ⟨i1.tr2 g2, ?_⟩
        rw [if_pos c]
        rw [sPut_app] at g1
        rw [sEach_succ, z_add, if_neg c2, List.map_append, List.map_singleton, ← List.append_assoc]
        exact g1
  have L2 : ∀ h1, jfr (fMd t) h h1 → isMs h1 t (sPut ms 0 at' (sNamesF l)) → WP mX3_addNames (jvoid sc (fun h' => isMs h' t (sPut ms 0 at' (sNamesF l ++ sNamesS l ++ sNamesM l)) ∧ jfr (fMd t) h h')) 58 (nLv t (nI at') l (sFirst l) (sSecond l) 0) [] (jG0 sc) h1 (0, 0) := by
    intro h0 f0 m0
    refine jloop (fun i (h1 : jH) => WP mX3_addNames _ 58 (nLv t (nI at') l (sFirst l) (sSecond l) (nI i)) [] (jG0 sc) h1 (0, 0))
      (fun i h1 => jfr (fMd t) h h1 ∧ isMs h1 t (sPut ms 0 at' (sNamesF l ++ if ¬ sSecond l < 0 ∧ sSecond l < 6 then (sEach 0 i (sSecond l)).map (sWithSecond l) else []))) 6 ?_ ?_ 0 h0 (by omega) ⟨f0, (by rw [show (if ¬ sSecond l < 0 ∧ sSecond l < 6 then (sEach 0 0 (sSecond l)).map (sWithSecond l) else []) = [] from by split <;> rfl, List.append_nil]; exact m0)⟩
    · rintro h1 ⟨i1, i2⟩
      exact rX3_addNames_58 t_h (fun _ => L3 h1 i1 i2) (P1 := fun _ _ => True) (P2 := fun _ => True) (fun c => absurd (by decide) c) (fun c => absurd (by decide) c) (fun c => absurd (by decide) c) (fun c => absurd (by decide) c) (fun c => absurd (by decide) c) (fun c => absurd (by decide) c)
    · rintro i h1 hi ⟨i1, i2⟩ k
      have hi31 : i < 2 ^ 31 := by omega
      have no : ¬ (6 : Int32) ≤ nI i := fun c => by have := (jn_le (a := 6) (by decide) hi31).mp c; omega
      refine rX3_addNames_58 t_h (P2 := fun h' => isMs h' t (sPut ms 0 at' (sNamesF l ++ (sEach 0 i (sSecond l)).map (sWithSecond l)) ++ [(0, at', sWithSecond l (nI i))]) ∧ jfr (fMd t) h1 h') (fun c => absurd c no) (fun _ c => ?_) (fun _ c c2 => ?_) (fun _ c c2 c3 => ?_) (fun _ _ _ _ => tX11_withSecond) (fun _ c c2 c3 x1 h2 p => ?_) (fun _ c c2 c3 => ?_)
      · rw [← nI_succ]; exact k _ ⟨i1, by rw [if_neg (fun q => q.1 c)] at i2 ⊢; exact i2⟩
      · rw [← nI_succ]; exact k _ ⟨i1, by rw [if_neg (fun q => i_nlt.mpr c2 q.2)] at i2 ⊢; exact i2⟩
      · rw [← nI_succ]
        refine k _ ⟨i1, ?_⟩
        rw [if_pos ⟨c, i_nle.mp c2⟩] at i2 ⊢
        rw [sEach_succ, z_add, if_pos c3]; exact i2
      · rw [← p.2, p.1]
        rw [if_pos ⟨c, i_nle.mp c2⟩] at i2
        exact tX3_add t_h i2 (by rw [sPut_len, List.length_append, List.length_map]; have := @sEach_len 0 (sSecond l) i; omega)
      · rintro _ _ ⟨rfl, rfl⟩ h5 ⟨g1, g2⟩
        rw [← nI_succ]
        refine k _ ⟨i1.tr2 g2, ?_⟩
        rw [if_pos ⟨c, i_nle.mp c2⟩]
        rw [sPut_app] at g1
        rw [sEach_succ, z_add, if_neg c3, List.map_append, List.map_singleton, ← List.append_assoc]
        exact g1
  refine jM_of rfl (Nat.le_of_ble_eq_true rfl) (by decide +kernel) rfl (rX3_addNames_0 t_h tX11_firstOf (fun _ _ p => by rw [← p.2]; exact tX11_secondOf) ?_)
  rintro _ _ ⟨rfl, rfl⟩ _ _ ⟨rfl, rfl⟩
  refine jloop (fun i (h1 : jH) => WP mX3_addNames _ 14 (nLv t (nI at') l (sFirst l) (sSecond l) (nI i)) [] (jG0 sc) h1 (0, 0))
    (fun i h1 => jfr (fMd t) h h1 ∧ isMs h1 t (sPut ms 0 at' (if ¬ sFirst l < 0 ∧ sFirst l < 6 then (sEach 0 i (sFirst l)).map (sWithFirst l) else []))) 6 ?_ ?_ 0 h (by omega) ⟨jfr.rf, (by rw [show (if ¬ sFirst l < 0 ∧ sFirst l < 6 then (sEach 0 0 (sFirst l)).map (sWithFirst l) else []) = [] from by split <;> rfl, sPut_nil]; exact hm)⟩
  · rintro h1 ⟨i1, i2⟩
    exact rX3_addNames_14 t_h (fun _ => L2 h1 i1 i2) (P1 := fun _ _ => True) (P2 := fun _ => True) (fun c => absurd (by decide) c) (fun c => absurd (by decide) c) (fun c => absurd (by decide) c) (fun c => absurd (by decide) c) (fun c => absurd (by decide) c) (fun c => absurd (by decide) c)
  · rintro i h1 hi ⟨i1, i2⟩ k
    have hi31 : i < 2 ^ 31 := by omega
    have no : ¬ (6 : Int32) ≤ nI i := fun c => by have := (jn_le (a := 6) (by decide) hi31).mp c; omega
    refine rX3_addNames_14 t_h (P2 := fun h' => isMs h' t (sPut ms 0 at' ((sEach 0 i (sFirst l)).map (sWithFirst l)) ++ [(0, at', sWithFirst l (nI i))]) ∧ jfr (fMd t) h1 h') (fun c => absurd c no) (fun _ c => ?_) (fun _ c c2 => ?_) (fun _ c c2 c3 => ?_) (fun _ _ _ _ => tX11_withFirst) (fun _ c c2 c3 x1 h2 p => ?_) (fun _ c c2 c3 => ?_)
    · rw [← nI_succ]; exact k _ ⟨i1, by rw [if_neg (fun q => q.1 c)] at i2 ⊢; exact i2⟩
    · rw [← nI_succ]; exact k _ ⟨i1, by rw [if_neg (fun q => i_nlt.mpr c2 q.2)] at i2 ⊢; exact i2⟩
    · rw [← nI_succ]
      refine k _ ⟨i1, ?_⟩
      rw [if_pos ⟨c, i_nle.mp c2⟩] at i2 ⊢
      rw [sEach_succ, z_add, if_pos c3]; exact i2
    · rw [← p.2, p.1]
      rw [if_pos ⟨c, i_nle.mp c2⟩] at i2
      exact tX3_add t_h i2 (by rw [sPut_len, List.length_map]; have := @sEach_len 0 (sFirst l) i; omega)
    · rintro _ _ ⟨rfl, rfl⟩ h5 ⟨g1, g2⟩
      rw [← nI_succ]
      refine k _ ⟨i1.tr2 g2, ?_⟩
      rw [if_pos ⟨c, i_nle.mp c2⟩]
      rw [sPut_app] at g1
      rw [sEach_succ, z_add, if_neg c3, List.map_append, List.map_singleton]
      exact g1
end MC
