/-! Operation first: the reference. -/
section FSM
variable {sc : Nat × (Nat → Int32)} {h : jH} {A : aA} {n : Nat} {p : List Int32} {rs : List aRun} {T : Nat → Int32}
theorem tX12_isAhead {a b : Nat} (ha : a < 6) (hb : b < 6) (hT : ∀ i, i < 6 → h 160 (279 + i) = T i) : JM mX12_isAhead [.ref 159, .int (nI a), .int (nI b)] (jG0 sc) h (jgets sc (sB (fAhead T a b)) h) := by
  have ea : (279 : Int32) + nI a = nI (279 + a) := by rw [show (279 : Int32) = nI 279 from rfl, nI_add]
  have eb : (279 : Int32) + nI b = nI (279 + b) := by rw [show (279 : Int32) = nI 279 from rfl, nI_add]
  have va : vp_in (279 + nI a) 1454 := by rw [ea]; exact vp_in_nI (by omega) (by decide)
  have vb : vp_in (279 + nI b) 1454 := by rw [eb]; exact vp_in_nI (by omega) (by decide)
  have ga : h 160 ((279 + nI a).toNatClampNeg) = T a := by rw [ea, nI_clamp (by omega)]; exact hT a ha
  have gb : h 160 ((279 + nI b).toNatClampNeg) = T b := by rw [eb, nI_clamp (by omega)]; exact hT b hb
  refine jM_of rfl (Nat.le_of_ble_eq_true rfl) (by decide +kernel) rfl (rX12_isAhead_0 va vb (fun c => ?_) (fun _ => va) (fun _ => vb) (fun c d => ?_) (fun c d e => ?_) (fun c d e => ?_))
  all_goals rw [ga, gb] at c
  · exact jgets_i (sB_t (Or.inl c)).symm
  all_goals rw [ga, gb] at d
  · exact jgets_i (sB_f (fun q => q.elim c (fun q => d q.1))).symm
  all_goals rw [jn_le (by omega) (by omega)] at e
  · exact jgets_i (sB_f (fun q => q.elim c (fun q => by omega))).symm
  · exact jgets_i (sB_t (Or.inr ⟨d, by omega⟩)).symm
theorem mmFirst {z : Int32} {o : Bool} (hz : z = if o then 1 else 0) (ok : aOk n A) (k : RM h A) : JM mX12_first [.ref 159, .int z] (jG0 sc) h (mQ sc (oFirst A o) h) := by
  have h12 := ok.1.2.2.1.1
  have hs := ok.1.1
  have hr : isMRuns (h 160) (aRuns (xS A)) := k.1.2.2.1
  have hp : isMP (h 160) 0 (aBody (xS A)) := k.1.1
  have h280 := sMends_280 hs
  have hT : ∀ i, i < 6 → h 160 (279 + i) = aTaught (xS A) i := k.1.2.2.2.2.2.1
  have f0 : jfr fMs h (jput h 159 0 0) := jfr.rf.put rfl
  have e0 : jput h 159 0 0 160 0 = nI (aBody (xS A)).length := hp.1
  generalize hM : (sMends (aBody (xS A))).length = M at *
  have zo : (z = 0 ↔ o = false) := by subst hz; cases o <;> decide
  have last : ¬ aBody (xS A) = [] → WP mX12_first (mQ sc (oFirst A o) h) 27 [some (.ref 159), some (.int z), none, none, none] [] (jG0 sc) (jput h 159 0 0) (0, 0) := fun q1 => by
    refine bX12_first_27 (P1 := fun h' => isML h' (aBody (xS A)) ∧ jfr fMs h h' ∧ h' 159 0 = 0) (jM_void (tX12_listed hp hs) (fun h' y => ⟨y.1, f0.tr2 (y.2.mono rfl), (y.2 159 0 rfl).trans rfl⟩)) (fun h0 y0 => ?_)
    obtain ⟨l0, g0, z0⟩ := y0
    have e160 : ∀ {h1 : jH}, jfr fTurn h0 h1 → h1 160 = h 160 := fun f => (f.cell (fun _ => rfl)).trans (g0.cell (fun _ => rfl))
    have lt : ∀ {h1 : jH}, jfr fTurn h0 h1 → isML h1 (aBody (xS A)) := fun f => l0.fr f rfl (fun _ => rfl) (fun _ => rfl) (fun _ => rfl) (fun _ => rfl)
    have e26 : ∀ {h1 : jH}, jfr fTurn h0 h1 → h1 159 26 = nI M := fun f => by rw [← hM]; exact (lt f).2.1
    have fm : ∀ {h1 : jH} {m : Nat}, jfr fTurn h0 h1 → m < M → h1 171 (nI m).toNatClampNeg = nI (sForm (aBody (xS A)) m) := fun {h1 m} f hm => by
      rw [nI_clamp (by omega), ← (sForm_ok (by omega)).2]
      exact ((lt f).2.2 m (by omega)).1
    have hd : ∀ {h1 : jH} {a b : Nat}, jfr fTurn h0 h1 → a < M → b < M → JM mX12_isAhead [.ref 159, .int (h1 171 (nI a).toNatClampNeg), .int (h1 171 (nI b).toNatClampNeg)] (jG0 sc) h1 (jgets sc (sB (fAhead (aTaught (xS A)) (sForm (aBody (xS A)) a) (sForm (aBody (xS A)) b))) h1) := fun {h1 a b} f ha hb => by
      rw [fm f ha, fm f hb]
      exact tX12_isAhead (sForm_ok (by omega)).1 (sForm_ok (by omega)).1 (fun i hi => by rw [e160 f]; exact hT i hi)
    have fin : ∀ {v : Int32} {h2 : jH}, isFirst (aTaught (xS A)) (aBody (xS A)) (aRuns (xS A)) o v → jfr fTurn h0 h2 → mQ sc (oFirst A o) h (.inl (some (.int v))) (jG0 sc) h2 := fun b f => by
      rw [oFirst, sIf_f q1, sFirstV_e b]; exact mQ_q k (g0.tr2 (f.mono rfl)) ((f 159 0 rfl).trans z0)
    -- the second loop
    have two : ∀ (b : Nat) (h1 : jH) (x : Int32), b < M → sMendGood (aBody (xS A)) (aRuns (xS A)) b → (∀ m, m < M → sMendGood (aBody (xS A)) (aRuns (xS A)) m → ¬ sPre (aTaught (xS A)) (aBody (xS A)) o m b) → jfr fTurn h0 h1 → WP mX12_first (mQ sc (oFirst A o) h) 100 [some (.ref 159), some (.int z), some (.int (nI b)), some (.int x), none] [] (jG0 sc) h1 (0, 0) := by
      intro b h1 x hb gb mb f
      refine bX12_first_100 ?_
      refine jloop (fun i (t : Nat) => WP mX12_first _ 105 [some (.ref 159), some (.int z), some (.int (nI b)), some (.int (nI t)), some (.int (nI i))] [] (jG0 sc) h1 (0, 0))
        (fun i t => t = 1 + sCnt (fun m => sPre (aTaught (xS A)) (aBody (xS A)) o m b) i) M ?_ ?_ 0 1 (by omega) rfl
      · rintro t e
        refine bX12_first_105 (fun _ => bX12_first_188 (fin (Or.inr ⟨b, by omega, gb, by rw [hM]; exact mb, by rw [hM, e]⟩) f)) (fun c => absurd (by rw [e26 f]; exact nI_le (Nat.le_refl _) (by omega)) c)
      · rintro i t hi e kk
        have yes : sPre (aTaught (xS A)) (aBody (xS A)) o i b → WP mX12_first (mQ sc (oFirst A o) h) 180 [some (.ref 159), some (.int z), some (.int (nI b)), some (.int (nI t)), some (.int (nI i))] [.int 1, .int (nI t)] (jG0 sc) h1 (0, 0) := fun q => by
          refine bX12_first_180 ?_
          rw [← nI_succ i, ← nI_succ t]
          exact kk (t + 1) (by rw [e, sCnt_t (P := fun m => sPre (aTaught (xS A)) (aBody (xS A)) o m b) q]; omega)
        have nay : ¬ sPre (aTaught (xS A)) (aBody (xS A)) o i b → WP mX12_first (mQ sc (oFirst A o) h) 180 [some (.ref 159), some (.int z), some (.int (nI b)), some (.int (nI t)), some (.int (nI i))] [.int 0, .int (nI t)] (jG0 sc) h1 (0, 0) := fun q => by
          refine bX12_first_180 ?_
          rw [← nI_succ i, Int32.add_zero]
          exact kk t (by rw [e, sCnt_f (P := fun m => sPre (aTaught (xS A)) (aBody (xS A)) o m b) q])
        refine bX12_first_105 (fun c => absurd c (by rw [e26 f, jn_le (by omega) (by omega)]; omega)) (fun _ => bX12_first_114 (fun c => ?_) (fun c => ?_))
        · rw [zo] at c
          subst c
          refine bX12_first_169 (fun c => bX12_first_179 (nay ?_)) (fun c => bX12_first_175 (yes ?_))
          all_goals rw [jn_le (by omega) (by omega)] at c
          · show ¬ i < b; omega
          · show i < b; omega
        · rw [zo] at c
          have ot : o = true := by cases o <;> simp_all
          subst ot
          refine bX12_first_119 (vp_in_nI (by omega) (by decide)) (vp_in_nI (by omega) (by decide)) (hd f hi hb) ?_ ?_
          · rintro _ _ ⟨rfl, rfl⟩ d
            rw [sB_ne] at d
            exact bX12_first_161 (yes (Or.inl d))
          · rintro _ _ ⟨rfl, rfl⟩ d
            rw [sB_eq] at d
            have i6 := (sForm_ok (p := aBody (xS A)) (m := i) (by omega)).1
            have b6 := (sForm_ok (p := aBody (xS A)) (m := b) (by omega)).1
            refine bX12_first_139 (vp_in_nI (by omega) (by decide)) (vp_in_nI (by omega) (by decide)) (fun g => ?_) (fun g => ?_)
            all_goals rw [fm f hi, fm f hb, jn_eq (by omega) (by omega)] at g
            · exact bX12_first_165 (nay (fun q => q.elim d (fun q => g q.1)))
            · refine bX12_first_155 (fun c => bX12_first_165 (nay ?_)) (fun c => bX12_first_161 (yes ?_))
              all_goals rw [jn_le (by omega) (by omega)] at c
              · exact fun q => q.elim d (fun q => by omega)
              · exact Or.inr ⟨g, by omega⟩
    refine jloop2 (fun i (h1 : jH) (b : Int32) => WP mX12_first _ 35 [some (.ref 159), some (.int z), some (.int b), some (.int (nI i)), none] [] (jG0 sc) h1 (0, 0))
      (fun i h1 b => ((b = -1 ∧ ∀ m, m < i → ¬ sMendGood (aBody (xS A)) (aRuns (xS A)) m) ∨ ∃ d, d < i ∧ b = nI d ∧ sMendGood (aBody (xS A)) (aRuns (xS A)) d ∧ ∀ m, m < i → sMendGood (aBody (xS A)) (aRuns (xS A)) m → ¬ sPre (aTaught (xS A)) (aBody (xS A)) o m d) ∧ jfr fTurn h0 h1) M ?_ ?_ 0 h0 (-1) (by omega) ⟨Or.inl ⟨rfl, fun m hm => absurd hm (Nat.not_lt_zero _)⟩, jfr.rf⟩
    · rintro h1 b ⟨inv, f⟩
      refine bX12_first_35 (fun _ => ?_) (fun c => absurd (by rw [e26 f]; exact nI_le (Nat.le_refl _) (by omega)) c)
      rcases inv with ⟨rfl, q⟩ | ⟨d, h1', rfl, gd, md⟩
      · exact bX12_first_94 (fun c => absurd c (by decide)) (fun _ => bX12_first_98 (fin (Or.inl ⟨rfl, by rw [hM]; exact q⟩) f))
      · exact bX12_first_94 (fun _ => two d _ _ h1' gd md f) (fun c => absurd (nI_le (a := 0) (by omega) (by omega)) c)
    · rintro i h1 b hi ⟨inv, f⟩ kk
      refine bX12_first_35 (fun c => absurd c (by rw [e26 f, jn_le (by omega) (by omega)]; omega)) (fun _ => bX12_first_43 (P1 := fun h' => isMP (h' 167) 0 (sBy (aBody (xS A)) (i, none)) ∧ jfr fTurn h0 h') (P2 := fun x h' => x = sFirstWrong (sBy (aBody (xS A)) (i, none)) (aRuns (xS A)) ∧ jfr fTurn h0 h') (jM_void (tX12_lays1 (lt f) hs (by omega)) (fun h' y => ⟨y.1, f.tr2 (y.2.mono rfl)⟩)) (fun h2 y => jM_int (tX12_allRight y.1 (sProg_1 hs (by omega)) (by rw [e160 y.2]; exact hr) h12) (fun x h' w => ⟨w.1, y.2.tr2 (w.2.mono rfl)⟩)) (fun h2 _ x h3 y c => ?_) (fun h2 _ x h3 y c => ?_))
      · rw [y.1, fw_neg h12] at c
        have good : sMendGood (aBody (xS A)) (aRuns (xS A)) i := c
        -- i is taken
        have take : (∀ m, m < i → sMendGood (aBody (xS A)) (aRuns (xS A)) m → ¬ sPre (aTaught (xS A)) (aBody (xS A)) o m i) → ∀ x, WP mX12_first (mQ sc (oFirst A o) h) 86 [some (.ref 159), some (.int z), some (.int x), some (.int (nI i)), none] [] (jG0 sc) h3 (0, 0) := fun q x => by
          refine bX12_first_86 (bX12_first_88 ?_)
          rw [← nI_succ i]
          refine kk h3 (nI i) ⟨Or.inr ⟨i, by omega, rfl, good, fun m hm gm => ?_⟩, y.2⟩
          by_cases w : m = i
          · subst w
            cases o with
            | false => exact Nat.lt_irrefl _
            | true => exact fun q => q.elim fAhead_ir (fun q => Nat.lt_irrefl _ q.2)
          · exact q m (by omega) gm
        refine bX12_first_59 (fun cb => ?_) (fun cb => ?_)
        · rcases inv with ⟨-, q⟩ | ⟨d, h1', rfl, gd, md⟩
          · exact take (fun m hm gm => absurd gm (q m hm)) b
          · exact absurd cb (nI_pos (by omega))
        · rcases inv with ⟨rfl, q⟩ | ⟨d, h1', rfl, gd, md⟩
          · exact absurd (by decide) cb
          · have stay : ¬ sPre (aTaught (xS A)) (aBody (xS A)) o i d → WP mX12_first (mQ sc (oFirst A o) h) 88 [some (.ref 159), some (.int z), some (.int (nI d)), some (.int (nI i)), none] [] (jG0 sc) h3 (0, 0) := fun q => by
              refine bX12_first_88 ?_
              rw [← nI_succ i]
              refine kk h3 (nI d) ⟨Or.inr ⟨d, by omega, rfl, gd, fun m hm gm => ?_⟩, y.2⟩
              by_cases w : m = i
              · subst w; exact q
              · exact md m (by omega) gm
            refine bX12_first_63 (fun c2 => stay ?_) (fun c2 => ?_)
            · rw [zo] at c2; subst c2; show ¬ i < d; omega
            · rw [zo] at c2
              have ot : o = true := by cases o <;> simp_all
              subst ot
              refine bX12_first_67 (vp_in_nI (by omega) (by decide)) (vp_in_nI (by omega) (by decide)) (hd y.2 hi (by omega)) ?_ ?_
              · rintro _ _ ⟨rfl, rfl⟩ c3
                rw [sB_eq] at c3
                exact stay (fun q => q.elim c3 (fun q => by omega))
              · rintro _ _ ⟨rfl, rfl⟩ c3
                rw [sB_ne] at c3
                exact take (fun m hm gm q => md m hm gm (sPre_tr (o := true) q (Or.inl c3))) _
      · rw [y.1, fw_neg h12] at c
        refine bX12_first_56 (bX12_first_88 ?_)
        rw [← nI_succ i]
        refine kk h3 b ⟨?_, y.2⟩
        rcases inv with ⟨e, q⟩ | ⟨d, h1', e, gd, md⟩
        · refine Or.inl ⟨e, fun m hm => ?_⟩
          by_cases w : m = i
          · subst w; exact c
          · exact q m (by omega)
        · refine Or.inr ⟨d, by omega, e, gd, fun m hm gm => ?_⟩
          by_cases w : m = i
          · subst w; exact absurd gm c
          · exact md m (by omega) gm
  refine jM_of rfl (Nat.le_of_ble_eq_true rfl) (by decide +kernel) rfl (bX12_first_0 tX12_lines ?_ ?_)
  · rintro _ _ ⟨rfl, rfl⟩ c
    have q1 : ¬ aBody (xS A) = [] := fun q => c (hp.nil.mpr q)
    refine bX12_first_17 (bX12_first_18 tX12_throws0 ?_ ?_)
    · rintro _ _ ⟨rfl, rfl⟩ -; exact last q1
    · rintro _ _ ⟨rfl, -⟩ c; exact absurd rfl c
  · rintro _ _ ⟨rfl, rfl⟩ c
    have q1 : aBody (xS A) = [] := hp.nil.mp c
    refine bX12_first_13 (bX12_first_18 tX12_throws1 ?_ ?_)
    · rintro _ _ ⟨rfl, -⟩ c; exact absurd c (by decide)
    · rintro _ _ ⟨rfl, rfl⟩ -
      refine bX12_first_25 ?_
      rw [oFirst, sIf_t q1]
      exact mQ_qx k (f0.put rfl) (by simp [jput]; rfl)
end FSM
