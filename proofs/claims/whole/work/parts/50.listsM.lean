/-! The reference's list of mends. -/
section LM
variable {sc : Nat × (Nat → Int32)} {h : jH} {p : List Int32} {ms : List sMd} {n as : Nat}
def mLine (p : List Int32) (m : sMd) : Int32 := if m.1 = 4 then p.getD (m.2.1 + 1) 4 else m.2.2
def mML (h : jH) (p : List Int32) (ms : List sMd) : Prop := h 159 26 = nI ms.length ∧ ∀ i, i < ms.length → h 171 i = (ms.getD i sMd0).1 ∧ h 172 i = nI (ms.getD i sMd0).2.1 ∧ ∀ j, j < 6 → h 173 (6 * i + j) = sFld (mLine p (ms.getD i sMd0)) j
abbrev fLs : jF := ([(171, 173)], [(159, 26, 26)])
theorem isMP.ls {F : jF} {h h' : jH} (k : isMP (h 170) 0 p) (f : jfr F h h') (hF : ∀ j, jin F 170 j = false) : isMP (h' 170) 0 p := by rw [f.cell hF]; exact k
abbrev eLv (f n as w v : Int32) (k : Option Value) : List (Option Value) := [some (.ref 159), some (.int f), some (.int n), some (.int as), some (.int w), some (.int v), k]
theorem six_ix {i j : Nat} : (6 : Int32) * nI i + nI j = nI (6 * i + j) := by rw [show (6 : Int32) = nI 6 from rfl, pk_mul, nI_add]
theorem one_six {i j : Nat} : (1 : Int32) + 6 * nI i + nI j = nI (1 + 6 * i + j) := by rw [show (6 : Int32) = nI 6 from rfl, show (1 : Int32) = nI 1 from rfl, pk_mul, nI_add, nI_add]
theorem tX12_mends {f w v z : Int32} (hp : isMP (h 170) 0 p) (hm : mML h p ms) (hl : ms.length < 400) (has : as < p.length) (hz : ∀ j, j < 6 → sFld (mLine p (f, n, z)) j = if nI j = w then v else sFld (p.getD as 4) j) :
    JM mX12_mends [.ref 159, .int f, .int (nI n), .int (nI as), .int w, .int v] (jG0 sc) h (jvoid sc (fun h' => mML h' p (ms ++ [(f, n, z)]) ∧ jfr fLs h h')) := by
  have hp10 := hp.2.1
  have hl31 : ms.length < 2 ^ 31 := by omega
  refine jM_of rfl (Nat.le_of_ble_eq_true rfl) (by decide +kernel) rfl (bX12_mends_0 (by rw [hm.1]; exact vp_in_nI hl (by decide)) (by rw [jput_ne (by decide), hm.1]; exact vp_in_nI hl (by decide)) ?_)
  rw [jput_ne (h := h) (k := 159) (by decide), hm.1, nI_clamp hl31]
  refine jloop (fun i (h1 : jH) => WP mX12_mends _ 23 (eLv f (nI n) (nI as) w v (some (.int (nI i)))) [] (jG0 sc) h1 (0, 0))
    (fun i h1 => jfr fLs h h1 ∧ h1 159 26 = nI ms.length ∧ (∀ j, j < ms.length → h1 171 j = h 171 j ∧ h1 172 j = h 172 j) ∧ h1 171 ms.length = f ∧ h1 172 ms.length = nI n ∧ (∀ j, j < 6 * ms.length → h1 173 j = h 173 j) ∧ ∀ j, j < i → h1 173 (6 * ms.length + j) = sFld (mLine p (f, n, z)) j) 6 ?_ ?_ 0 _ (by omega) ⟨(jfr.rf.put rfl).put rfl, by simp [jput]; exact hm.1, fun j hj => by simp [jput, show ¬ j = ms.length by omega], by simp [jput], by simp [jput], fun j hj => by simp [jput], fun j hj => absurd hj (by omega)⟩
  · rintro h1 ⟨i1, i2, i3, i4, i5, i6, i7⟩
    refine bX12_mends_23 (fun _ => bX12_mends_77 (jvoid_i ⟨⟨?_, fun j hj => ?_⟩, i1.put rfl⟩)) (fun c => absurd (by decide) c)
    · rw [jput_at, i2, List.length_append]; exact (nI_succ _).symm
    · rw [getD_app1 hj, jput_ne (by decide), jput_ne (by decide), jput_ne (by decide)]
      by_cases q : j = ms.length
      · rw [if_pos q, q]; exact ⟨i4, i5, i7⟩
      · have hj2 : j < ms.length := by simp at hj; omega
        rw [if_neg q, (i3 j hj2).1, (i3 j hj2).2]
        obtain ⟨g1, g2, g3⟩ := hm.2 j hj2
        exact ⟨g1, g2, fun u hu => by rw [i6 _ (by omega)]; exact g3 u hu⟩
  · rintro i h1 hi ⟨i1, i2, i3, i4, i5, i6, i7⟩ k
    have hi31 : i < 2 ^ 31 := by omega
    have hp1 := hp.ls i1 (fun _ => rfl)
    have done : ∀ s0 : Int32, s0 = sFld (mLine p (f, n, z)) i → WP mX12_mends (jvoid sc (fun h' => mML h' p (ms ++ [(f, n, z)]) ∧ jfr fLs h h')) 70 (eLv f (nI n) (nI as) w v (some (.int (nI i)))) [.int s0, .int (6 * h1 159 26 + nI i), .ref 173] (jG0 sc) h1 (0, 0) := by
      intro s0 e
      rw [i2, six_ix]
      refine bX12_mends_70 (vp_in_nI (by omega) (by decide)) ?_
      rw [nI_clamp (by omega), ← nI_succ]
      refine k _ ⟨i1.put rfl, by rw [jput_ne (by decide)]; exact i2, fun j hj => by rw [jput_ne (by decide), jput_ne (by decide)]; exact i3 j hj, by rw [jput_ne (by decide)]; exact i4, by rw [jput_ne (by decide)]; exact i5, fun j hj => by rw [jput_sl (by omega)]; exact i6 j hj, fun j hj => ?_⟩
      by_cases q : j = i
      · rw [q, jput_at]; exact e
      · rw [jput_sl (by omega)]; exact i7 j (by omega)
    refine bX12_mends_23 (fun c => absurd ((jn_le (a := 6) (by decide) hi31).mp c) (by omega)) (fun _ => ?_)
    refine bX12_mends_30 (fun c => ?_) (fun c => ?_)
    · refine bX12_mends_56 (by rw [one_six]; exact vp_in_nI (by omega) (by decide)) (done _ ?_)
      rw [one_six, nI_clamp (by omega), hp1.at has hi, hz i hi, if_neg c]
    · exact bX12_mends_51 (done _ (by rw [hz i hi, if_pos c]))
theorem tX12_isUnlike {a b : Nat} (hp : isMP (h 170) 0 p) (hs : sProg p) (ha : a < p.length) (hb : b < p.length) : JM mX12_isUnlike [.ref 159, .int (nI a), .int (nI b)] (jG0 sc) h (jgets sc (sB (¬ p.getD a 4 = p.getD b 4)) h) := by
  have hp10 := hp.2.1
  refine jM_of rfl (Nat.le_of_ble_eq_true rfl) (by decide +kernel) rfl (rX12_isUnlike_0 ?_)
  refine jloop (fun i (b' : Int32) => WP mX12_isUnlike _ 5 [some (.ref 159), some (.int (nI a)), some (.int (nI b)), some (.int b'), some (.int (nI i))] [] (jG0 sc) h (0, 0))
    (fun i b' => b' = sB (¬ ∀ j, j < i → sFld (p.getD a 4) j = sFld (p.getD b 4) j)) 6 ?_ ?_ 0 0 (by omega) ((sB_f (fun q => q (fun j hj => absurd hj (by omega)))).symm)
  · rintro b' rfl
    have e : (¬ ∀ j, j < 6 → sFld (p.getD a 4) j = sFld (p.getD b 4) j) ↔ ¬ p.getD a 4 = p.getD b 4 := by
      refine not_congr ⟨fun q => fld_inj (hs.2 _ (getD_mem ha)) (hs.2 _ (getD_mem hb)) q, fun q j _ => by rw [q]⟩
    refine rX12_isUnlike_5 (fun _ => sB_01) (fun _ => jgets_i ?_) (fun c => absurd (by decide) c) (fun c => absurd (by decide) c) (fun c => absurd (by decide) c) (fun c => absurd (by decide) c) (fun c => absurd (by decide) c)
    by_cases q : p.getD a 4 = p.getD b 4
    · rw [sB_f (fun z => e.mp z q), sB_f (fun z => z q)]
    · rw [sB_t (e.mpr q), sB_t q]
  · rintro i b' hi rfl k
    have hi31 : i < 2 ^ 31 := by omega
    have no : ¬ (6 : Int32) ≤ nI i := fun c => by have := (jn_le (a := 6) (by decide) hi31).mp c; omega
    have all : (∀ j, j < i + 1 → sFld (p.getD a 4) j = sFld (p.getD b 4) j) ↔ (∀ j, j < i → sFld (p.getD a 4) j = sFld (p.getD b 4) j) ∧ sFld (p.getD a 4) i = sFld (p.getD b 4) i := by
      constructor
      · intro q; exact ⟨fun j hj => q j (by omega), q i (by omega)⟩
      · rintro ⟨q1, q2⟩ j hj
        by_cases z : j = i
        · rw [z]; exact q2
        · exact q1 j (by omega)
    refine rX12_isUnlike_5 (fun c => absurd c no) (fun c => absurd c no) (fun _ c => ?_) (fun _ _ => by rw [one_six]; exact vp_in_nI (by omega) (by decide)) (fun _ _ => by rw [one_six]; exact vp_in_nI (by omega) (by decide)) (fun _ c c2 => ?_) (fun _ c c2 => ?_)
    all_goals rw [← nI_succ]
    · rw [sB_ne] at c
      exact k _ (sB_t (fun q => c (fun j hj => q j (by omega)))).symm
    all_goals
      rw [sB_eq] at c
      have c := Classical.byContradiction c
      rw [one_six, one_six, nI_clamp (by omega), nI_clamp (by omega), hp.at ha hi, hp.at hb hi] at c2
    · exact k _ (sB_f (fun q => q (all.mpr ⟨c, c2⟩))).symm
    · exact k _ (sB_t (fun q => c2 (all.mp q).2)).symm
/-- each of some numbers, for one field -/
theorem tX12_each {f : Int32} {w lo cnt : Nat} {W : Int32 → Int32} (hf : f ≠ 4) (hp : isMP (h 170) 0 p) (hm : mML h p ms) (hn : n < p.length) (hw : w < 6) (hc : 1 ≤ lo + cnt) (hc2 : lo + cnt < 100) (hl : ms.length + cnt < 400)
    (hW : ∀ i, i < cnt → sSame (p.getD n 4) (W (nI (lo + i))) w (nI (lo + i))) :
    JM mX12_each [.ref 159, .int f, .int (nI n), .int (nI w), .int (nI lo), .int (nI (lo + cnt - 1))] (jG0 sc) h (jvoid sc (fun h' => mML h' p (sPut ms f n ((sEach (nI lo) cnt (sFld (p.getD n 4) w)).map W)) ∧ jfr fLs h h')) := by
  have hp10 := hp.2.1
  refine jM_of rfl (Nat.le_of_ble_eq_true rfl) (by decide +kernel) rfl (bX12_each_0 ?_)
  refine jloop (fun i (h1 : jH) => WP mX12_each _ 4 (eLv f (nI n) (nI w) (nI lo) (nI (lo + cnt - 1)) (some (.int (nI (lo + i))))) [] (jG0 sc) h1 (0, 0))
    (fun i h1 => jfr fLs h h1 ∧ mML h1 p (sPut ms f n ((sEach (nI lo) i (sFld (p.getD n 4) w)).map W))) cnt ?_ ?_ 0 h (by omega) ⟨jfr.rf, by rw [show sEach (nI lo) 0 (sFld (p.getD n 4) w) = [] from rfl, List.map_nil, sPut_nil]; exact hm⟩
  · rintro h1 ⟨i1, i2⟩
    exact bX12_each_4 (fun _ => bX12_each_45 (jvoid_i ⟨i2, i1⟩)) (fun c => absurd (nI_lt (by omega) (by omega)) c)
  · rintro i h1 hi ⟨i1, i2⟩ k
    have hp1 := hp.ls i1 (fun _ => rfl)
    have ea : nI (lo + i) = nI lo + nI i := (nI_add _ _).symm
    have es : nI (lo + i) + 1 = nI (lo + (i + 1)) := (nI_succ _).symm
    refine bX12_each_4 (fun c => absurd c (by rw [jn_lt (by omega) (by omega)]; omega)) (fun _ => ?_)
    refine bX12_each_11 (by rw [one_six]; exact vp_in_nI (by omega) (by decide)) (fun c => ?_) (fun c => ?_)
    all_goals rw [one_six, nI_clamp (by omega), hp1.at hn hw] at c
    · refine bX12_each_39 ?_
      rw [es]
      refine k _ ⟨i1, ?_⟩
      rw [sEach_succ, if_pos (by rw [← ea]; exact c.symm)]; exact i2
    · refine bX12_each_29 (tX12_mends (z := W (nI (lo + i))) hp1 i2 (by rw [sPut_len, List.length_map]; have := @sEach_len (nI lo) (sFld (p.getD n 4) w) i; omega) hn (fun j hj => ?_)) ?_
      · rw [mLine, if_neg hf, hW i hi j hj]
        by_cases q : j = w
        · rw [if_pos q, if_pos (by rw [q])]
        · rw [if_neg q, if_neg (fun z => q ((jn_eq (by omega) (by omega)).mp z))]
      · rintro h5 ⟨g1, g2⟩
        refine bX12_each_39 ?_
        rw [es]
        refine k _ ⟨i1.tr2 g2, ?_⟩
        rw [sPut_app] at g1
        rw [sEach_succ, if_neg (by rw [← ea]; exact fun z => c z.symm), List.map_append, List.map_singleton, ← ea]
        exact g1
theorem tX12_beside {w : Nat} {lo hi : Int32} {W : Int32 → Int32} (hp : isMP (h 170) 0 p) (hm : mML h p ms) (hn : n < p.length) (hw : w < 6) (hl : ms.length + 2 < 400)
    (h1 : lo < sFld (p.getD n 4) w → sSame (p.getD n 4) (W (sFld (p.getD n 4) w - 1)) w (sFld (p.getD n 4) w - 1)) (h2 : sFld (p.getD n 4) w < hi → sSame (p.getD n 4) (W (sFld (p.getD n 4) w + 1)) w (sFld (p.getD n 4) w + 1)) :
    JM mX12_beside [.ref 159, .int (nI n), .int (nI w), .int lo, .int hi] (jG0 sc) h (jvoid sc (fun h' => mML h' p (sPut ms 2 n ((sBeside lo hi (sFld (p.getD n 4) w)).map W)) ∧ jfr fLs h h')) := by
  have hp10 := hp.2.1
  have two : (2 : Int32) ≠ 4 := by decide
  have ev : h 170 ((1 + 6 * nI n + nI w).toNatClampNeg) = sFld (p.getD n 4) w := by rw [one_six, nI_clamp (by omega)]; exact hp.at hn hw
  have same : ∀ (l' v : Int32), sSame (p.getD n 4) l' w v → ∀ j, j < 6 → sFld (mLine p (2, n, l')) j = if nI j = nI w then v else sFld (p.getD n 4) j := by
    intro l' v q j hj
    rw [mLine, if_neg two, q j hj]
    by_cases z : j = w
    · rw [if_pos z, if_pos (by rw [z])]
    · rw [if_neg z, if_neg (fun y => z ((jn_eq (by omega) (by omega)).mp y))]
  generalize hx : sFld (p.getD n 4) w = x at *
  have J33 : ∀ h1 (M : List sMd), jfr fLs h h1 → M = sPut ms 2 n ((if lo < x then [x - 1] else []).map W) → mML h1 p M → WP mX12_beside (jvoid sc (fun h' => mML h' p (sPut ms 2 n ((sBeside lo hi x).map W)) ∧ jfr fLs h h')) 33 (eLv (nI n) (nI w) lo hi x none |>.take 6) [] (jG0 sc) h1 (0, 0) := by
    intro h1 M f1 eM m1
    subst eM
    refine bX12_beside_33 (fun c => bX12_beside_52 (jvoid_i ⟨?_, f1⟩)) (fun c => ?_)
    · unfold sBeside; rw [if_neg (i_nlt.mpr c), List.append_nil]; exact m1
    · have c' := i_nle.mp c
      refine bX12_beside_40 (tX12_mends (z := W (x + 1)) (hp.ls f1 (fun _ => rfl)) m1 (by rw [sPut_len, List.length_map]; split <;> simp <;> omega) hn (same _ _ (h2 c'))) ?_
      rintro h5 ⟨g1, g2⟩
      refine bX12_beside_52 (jvoid_i ⟨?_, f1.tr2 g2⟩)
      rw [sPut_app] at g1
      unfold sBeside; rw [if_pos c', List.map_append, List.map_singleton]; exact g1
  refine jM_of rfl (Nat.le_of_ble_eq_true rfl) (by decide +kernel) rfl (bX12_beside_0 (by rw [one_six]; exact vp_in_nI (by omega) (by decide)) (fun c => ?_) (fun c => ?_))
  all_goals rw [ev] at c ⊢
  · exact J33 h ms jfr.rf (by rw [if_neg (i_nlt.mpr c), List.map_nil, sPut_nil]) hm
  · have c' := i_nle.mp c
    refine bX12_beside_21 (tX12_mends (z := W (x - 1)) hp hm (by omega) hn (same _ _ (h1 c'))) ?_
    rintro h5 ⟨g1, g2⟩
    exact J33 h5 _ g2 (by rw [if_pos c', List.map_singleton]; rfl) g1
theorem tX12_clears {k : Nat} (hk : k + 6 ≤ 2400) : JM mX12_clears [.ref 173, .int (nI k)] (jG0 sc) h (jvoid sc (fun h' => (∀ j, j < 6 → h' 173 (k + j) = sFld 4 j) ∧ (∀ j, (j < k ∨ k + 6 ≤ j) → h' 173 j = h 173 j) ∧ jfr ([(173, 173)], []) h h')) := by
  have a_h : jIA 173 2400 := by unfold jIA; decide
  have e : ∀ (j : Nat) (x : Int32), x = nI j → j < 6 → vp_in (nI k + x) 2400 ∧ (nI k + x).toNatClampNeg = k + j := by
    intro j x hx hj
    rw [hx, nI_add]
    exact ⟨vp_in_nI (by omega) (by decide), nI_clamp (by omega)⟩
  obtain ⟨v0, c0⟩ := e 0 0 rfl (by decide)
  obtain ⟨v1, c1⟩ := e 1 1 rfl (by decide)
  obtain ⟨v2, c2⟩ := e 2 2 rfl (by decide)
  obtain ⟨v3, c3⟩ := e 3 3 rfl (by decide)
  obtain ⟨v4, c4⟩ := e 4 4 rfl (by decide)
  obtain ⟨v5, c5⟩ := e 5 5 rfl (by decide)
  refine jM_of rfl (Nat.le_of_ble_eq_true rfl) (by decide +kernel) rfl (bX12_clears_0 a_h v0 v1 v2 (bX12_clears_23 a_h v3 v4 v5 (jvoid_i ⟨?_, ?_, ?_⟩)))
  all_goals rw [c0, c1, c2, c3, c4, c5]
  · refine six ?_ ?_ ?_ ?_ ?_ ?_ <;> simp [jput_get] <;> decide
  · intro j hj
    simp only [jput_get]
    rw [if_neg (by omega), if_neg (by omega), if_neg (by omega), if_neg (by omega), if_neg (by omega), if_neg (by omega)]
  · exact (((((jfr.rf.put rfl).put rfl).put rfl).put rfl).put rfl).put rfl
end LM
