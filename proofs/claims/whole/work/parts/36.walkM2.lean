/-! The reference's walk: all of it. -/
section WN
variable {sc : Nat × (Nat → Int32)} {h : jH} {x y fl fv T : Int32} {n : Nat} {V R : Nat → Int32}
abbrev fGoes : jF := ([(168, 169)], [(159, 19, 21)])
def goPost (W : sRes) (h : jH) (r : Int32) (h' : jH) : Prop := r = W.1 ∧ h' 159 19 = W.2.1 ∧ h' 159 20 = W.2.2.1 ∧ h' 159 21 = W.2.2.2 ∧ jfr fGoes h h'
abbrev mLv (x y fl fv T n : Int32) (a b c d : Option Value) : List (Option Value) := [some (.ref 159), some (.int x), some (.int y), some (.int fl), some (.int fv), some (.int T), some (.int n), a, b, c, d]
theorem sOk_sum {l : Int32} (hl : sOk l) (hk : sKind l = 0 ∨ sKind l = 3) : sSumLine l := by
  rcases hl with rfl | ⟨-, a, ⟨-, c, -⟩ | ⟨c, -⟩⟩
  · exact absurd hk (by decide)
  · exact ⟨a, c.imp (fun q => q.1) id⟩
  · rcases c with c | c <;> rcases hk with k | k <;> rw [c] at k <;> exact absurd k (by decide)
theorem sOk_test {l : Int32} (hl : sOk l) (hk : sKind l = 1 ∨ sKind l = 2) : sAtom (sFirst l) ∧ sAtom (sSecond l) ∧ sIn (sCount l) 0 15 := by
  rcases hl with rfl | ⟨-, a, ⟨c, -⟩ | ⟨-, -, -, d, e⟩⟩
  · exact absurd hk (by decide)
  · rcases c with ⟨c, -⟩ | ⟨c, -⟩ <;> rcases hk with k | k <;> rw [c] at k <;> exact absurd k (by decide)
  · exact ⟨a, d, by have := e.1; omega, by have := e.2; omega⟩
theorem sOk_kind {l : Int32} (hl : sOk l) : sKind l = 0 ∨ sKind l = 1 ∨ sKind l = 2 ∨ sKind l = 3 ∨ sKind l = 4 := by
  rcases hl with rfl | ⟨-, -, ⟨c, -⟩ | ⟨c, -⟩⟩
  · exact Or.inr (Or.inr (Or.inr (Or.inr (by decide))))
  · rcases c with ⟨c, -⟩ | ⟨c, -⟩
    · exact Or.inl c
    · exact Or.inr (Or.inr (Or.inr (Or.inl c)))
  · rcases c with c | c
    · exact Or.inr (Or.inl c)
    · exact Or.inr (Or.inr (Or.inl c))
theorem goStep {h0 : jH} {p : List Int32} {W : sRes} {m : Nat} {d k : Int32} (hp : isMP (h0 167) 0 p) (hs : sProg p) (hn : n < p.length) (f : jfr fGoes h h0) (hV : sRel4 (h0 168) V) (hR : sRel4 (h0 169) R)
    (hd : h0 159 19 = d ||| ((1 : Int32) <<< (nI n &&& 31))) (hk : h0 159 20 = k + 1)
    (hW : W = let z := sStep x y fl fv (p.getD n 4) n V R T; if z.1 = true then (z.2.1, d ||| ((1 : Int32) <<< (nI n &&& 31)), k + 1, z.2.2.1)
      else sRun p x y fl fv m z.2.2.2.1 z.2.2.2.2.1 z.2.2.2.2.2.1 z.2.2.2.2.2.2 (d ||| ((1 : Int32) <<< (nI n &&& 31))) (k + 1))
    (kk : ∀ (h' : jH) (n' : Nat) (V' R' : Nat → Int32) (T' : Int32), n' < 2 ^ 30 → jfr fGoes h h' → sRel4 (h' 168) V' → sRel4 (h' 169) R' → h' 159 20 = k + 1 → W = sRun p x y fl fv m n' V' R' T' (h' 159 19) (h' 159 20) →
      WP mX12_goes (jint sc (goPost W h)) 47 (mLv x y fl fv T' (nI n') none none none none) [] (jG0 sc) h' (0, 0)) :
    WP mX12_goes (jint sc (goPost W h)) 112 (mLv x y fl fv T (nI n) (some (.int (nI (1 + 6 * n)))) none none none) [.int ((1 : Int32) <<< (nI n &&& 31))] (jG0 sc) h0 (0, 0) := by
  have hn10 : n < 10 := Nat.lt_of_lt_of_le hn hp.2.1
  have hn30 : n < 2 ^ 30 := Nat.lt_trans hn10 (by decide)
  obtain ⟨-, v1, e1⟩ := mk_ix (j := 1) hn10 (by decide)
  obtain ⟨-, v2, e2⟩ := mk_ix (j := 2) hn10 (by decide)
  obtain ⟨-, v4, e4⟩ := mk_ix (j := 4) hn10 (by decide)
  obtain ⟨-, v5, e5⟩ := mk_ix (j := 5) hn10 (by decide)
  obtain ⟨v0, e0, -⟩ := mk_0 hn10
  have hl : sOk (p.getD n 4) := hs.2 _ (getD_mem hn)
  have f0 : h0 167 ((nI (1 + 6 * n)).toNatClampNeg) = sKind (p.getD n 4) := by rw [e0]; exact hp.at0 hn
  have f1 : h0 167 ((nI (1 + 6 * n) + 1).toNatClampNeg) = sMade (p.getD n 4) := by rw [show (1 : Int32) = nI 1 from rfl, e1]; exact hp.at hn (j := 1) (by decide)
  have f2 : h0 167 ((nI (1 + 6 * n) + 2).toNatClampNeg) = sFirst (p.getD n 4) := by rw [show (2 : Int32) = nI 2 from rfl, e2]; exact hp.at hn (j := 2) (by decide)
  have f4 : h0 167 ((nI (1 + 6 * n) + 4).toNatClampNeg) = sSecond (p.getD n 4) := by rw [show (4 : Int32) = nI 4 from rfl, e4]; exact hp.at hn (j := 4) (by decide)
  have f5 : h0 167 ((nI (1 + 6 * n) + 5).toNatClampNeg) = sCount (p.getD n 4) := by rw [show (5 : Int32) = nI 5 from rfl, e5]; exact hp.at hn (j := 5) (by decide)
  refine bX12_goes_112 v2 tX12_restOf (fun _ _ _ => v4) (fun _ _ q => by first | (rw [q.1, ← q.2]; exact tX12_restOf) | (rw [← q.2]; exact tX12_restOf)) ?_
  rintro _ _ ⟨rfl, rfl⟩ _ _ ⟨rfl, rfl⟩
  rw [f2, f4]
  have hu : ((1 : Int32) <<< (nI n &&& 31) ||| sRest (h0 169) (sFirst (p.getD n 4))) ||| sRest (h0 169) (sSecond (p.getD n 4)) = sUnder R n (p.getD n 4) := sUnder_rel hR n _
  rw [hu]
  have eV : ∀ a, sVal (h0 168) x y a = sVal V x y a := sVal_rel hV x y
  have eV' : ∀ (t a : Int32), sVal (jput h0 159 21 t 168) x y a = sVal V x y a := fun t a => by rw [jput_ne (by decide)]; exact eV a
  -- set and end
  have SUM : ∀ (s : Int32), ¬ sKind (p.getD n 4) = 4 → ¬ sKind (p.getD n 4) = 1 → ¬ sKind (p.getD n 4) = 2 → sKind (p.getD n 4) = 0 →
      ((sKind (p.getD n 4) = 0 ∧ nI n = fl ∧ s = fv) ∨ (¬ (sKind (p.getD n 4) = 0 ∧ nI n = fl) ∧ s = sSum (sVal V x y (sFirst (p.getD n 4))) (sSign (p.getD n 4)) (sVal V x y (sSecond (p.getD n 4))))) →
      WP mX12_goes (jint sc (goPost W h)) 204 (mLv x y fl fv T (nI n) (some (.int (nI (1 + 6 * n)))) (some (.int (sUnder R n (p.getD n 4)))) none none) [.long s.toInt64] (jG0 sc) h0 (0, 0) := by
    intro s k4 k1 k2 k0 hs'
    have k3 : ¬ sKind (p.getD n 4) = 3 := by rw [k0]; decide
    refine bX12_goes_204 (fun c => ?_) (fun c => ?_)
    · rw [lg_cmp_le] at c
      have c' : ¬ 999999 < s := by
        rw [← toI64_lt]; exact l_nlt.mpr c
      rw [(sStep_s k4 k1 k2 hs').2 (fun q => q.elim k3 c')] at hW
      simp only [Bool.false_eq_true, if_false] at hW
      obtain ⟨-, m1, m2⟩ := sOk_made hl k4 k1 k2 k3
      have em : sMade (p.getD n 4) = nI (sMade (p.getD n 4)).toInt.toNat := toInt_nn m1
      have vm : vp_in (sMade (p.getD n 4)) 4 := by rw [em]; exact vp_in_nI (by omega) (by decide)
      have g1 : ∀ t : Int32, jput h0 159 21 t 167 ((nI (1 + 6 * n) + 1).toNatClampNeg) = sMade (p.getD n 4) := fun t => by rw [jput_ne (by decide)]; exact f1
      refine bX12_goes_228 v1 (by rw [g1]; exact vm) v1 (by rw [jput_ne (by decide), g1]; exact vm) (bX12_goes_264 (bX12_goes_366 ?_))
      rw [jput_ne (h := jput h0 159 21 (T ||| sUnder R n (p.getD n 4))) (by decide), g1, toI64_toI32, ← nI_succ]
      have hW' := hW
      refine kk _ _ (sUp V (sMade (p.getD n 4)) s) (sUp R (sMade (p.getD n 4)) (sUnder R n (p.getD n 4) ||| T)) T (by omega) (((f.put rfl).put rfl).put rfl) ?_ ?_ ?_ ?_
      · intro i hi
        have := hV i hi
        simp [jput, sUp, this]
      · intro i hi
        have := hR i hi
        simp [jput, sUp, this]
      · simpa [jput] using hk
      · rw [hW']
        congr 1
        · simpa [jput] using hd.symm
        · simpa [jput] using hk.symm
    · rw [lg_cmp_le, l_nle] at c
      have c' : 999999 < s := by rw [← toI64_lt]; exact c
      rw [(sStep_s k4 k1 k2 hs').1 (Or.inr c')] at hW
      simp only [if_true] at hW
      refine bX12_goes_224 (jint_i ?_)
      rw [toI64_toI32, hW]
      exact ⟨rfl, by simpa [jput] using hd, by simpa [jput] using hk, by simp [jput], f.put rfl⟩
  have JUMP : (sKind (p.getD n 4) = 1 ∨ sKind (p.getD n 4) = 2) → WP mX12_goes (jint sc (goPost W h)) 295 (mLv x y fl fv T (nI n) (some (.int (nI (1 + 6 * n)))) (some (.int (sUnder R n (p.getD n 4)))) none none) [] (jG0 sc) h0 (0, 0) := by
    intro hkk
    obtain ⟨a1, a2, a3⟩ := sOk_test hl hkk
    have em : sCount (p.getD n 4) = nI (sCount (p.getD n 4)).toInt.toNat := toInt_nn a3.1
    have hm16 : (sCount (p.getD n 4)).toInt.toNat < 16 := by have := a3.2; omega
    have eclamp : (sCount (p.getD n 4)).toNatClampNeg = (sCount (p.getD n 4)).toInt.toNat := by rw [em, nI_clamp (by omega), nI_toInt (by omega)]; omega
    refine bX12_goes_295 (tX12_meets hp hn a1 a2) ?_ ?_
    · rintro _ _ ⟨rfl, rfl⟩ c
      rw [sB_ne, eV, eV] at c
      refine bX12_goes_320 v0 (fun c1 => ?_) (fun c1 => ?_)
      · rw [f0] at c1
        rw [(sStep_j hkk).2.2 c c1] at hW
        simp only [Bool.false_eq_true, if_false] at hW
        refine bX12_goes_348 v5 (bX12_goes_364 (bX12_goes_366 ?_))
        rw [f5]
        have ej : (if 0 < nI n - sCount (p.getD n 4) then nI n - sCount (p.getD n 4) else 0) = nI (n - (sCount (p.getD n 4)).toNatClampNeg) := by
          rw [eclamp, em]
          generalize (sCount (p.getD n 4)).toInt.toNat = mm at *
          rw [nI_toInt (by omega), Int.toNat_natCast]
          by_cases hmn : mm ≤ n
          · rw [pk_sub hmn]
            by_cases h00 : n - mm = 0
            · rw [h00]; rfl
            · exact if_pos (nI_lt (a := 0) (b := n - mm) (by omega) (by omega))
          · rw [if_neg, show n - mm = 0 by omega]
            · rfl
            · have := pk_sneg (a := n) (b := mm) (by omega) (by omega)
              rw [toInt_lt_iff] at this ⊢
              have e00 : (0 : Int32).toInt = 0 := rfl
              omega
        rw [ej]
        exact kk _ _ V R _ (by omega) f hV hR hk (by rw [hd, hk]; exact hW)
      · rw [f0] at c1
        rw [(sStep_j hkk).2.1 c c1] at hW
        simp only [Bool.false_eq_true, if_false] at hW
        refine bX12_goes_331 v5 (bX12_goes_364 (bX12_goes_366 ?_))
        have ej : (nI n + 1) + h0 167 ((nI (1 + 6 * n) + 5).toNatClampNeg) = nI (n + 1 + (sCount (p.getD n 4)).toNatClampNeg) := by
          rw [f5, eclamp, ← nI_succ, ← nI_add (n + 1), ← em]
        rw [ej]
        exact kk _ _ V R _ (by omega) f hV hR hk (by rw [hd, hk]; exact hW)
    · rintro _ _ ⟨rfl, rfl⟩ c
      rw [sB_eq, eV, eV] at c
      rw [(sStep_j hkk).1 c] at hW
      simp only [Bool.false_eq_true, if_false] at hW
      refine bX12_goes_313 (bX12_goes_364 (bX12_goes_366 ?_))
      rw [← nI_succ]
      exact kk _ _ V R _ (by omega) f hV hR hk (by rw [hd, hk]; exact hW)
  refine bX12_goes_140 v0 (fun c => ?_) (fun c => ?_) (fun c => ?_) (fun c => ?_) (fun c => ?_) (fun c => ?_)
  all_goals rw [f0] at c
  · rcases sOk_kind hl with q | q | q | q | q <;> rw [q] at c <;> exact absurd c (by decide)
  · have k0 : sKind (p.getD n 4) = 0 := toInt_eq_iff.mpr c
    have k4 : ¬ sKind (p.getD n 4) = 4 := by rw [k0]; decide
    have k1 : ¬ sKind (p.getD n 4) = 1 := by rw [k0]; decide
    have k2 : ¬ sKind (p.getD n 4) = 2 := by rw [k0]; decide
    refine bX12_goes_184 (fun c1 => ?_) (fun c1 => ?_)
    · refine bX12_goes_196 (tX12_sumOf hp hn (sOk_sum hl (Or.inl k0))) ?_
      rintro _ _ ⟨rfl, rfl⟩
      rw [eV, eV]
      exact SUM _ k4 k1 k2 k0 (Or.inr ⟨fun q => c1 q.2, rfl⟩)
    · exact bX12_goes_190 (SUM _ k4 k1 k2 k0 (Or.inl ⟨k0, c1, rfl⟩))
  · exact JUMP (Or.inl (toInt_eq_iff.mpr c))
  · exact JUMP (Or.inr (toInt_eq_iff.mpr c))
  · have k3 : sKind (p.getD n 4) = 3 := toInt_eq_iff.mpr c
    have k4 : ¬ sKind (p.getD n 4) = 4 := by rw [k3]; decide
    have k1 : ¬ sKind (p.getD n 4) = 1 := by rw [k3]; decide
    have k2 : ¬ sKind (p.getD n 4) = 2 := by rw [k3]; decide
    refine bX12_goes_270 (tX12_sumOf (h := jput h0 159 21 (T ||| sUnder R n (p.getD n 4))) (p := p) (by rw [jput_ne (by decide)]; exact hp) hn (sOk_sum hl (Or.inr k3))) ?_
    rintro _ _ ⟨rfl, rfl⟩
    rw [eV', eV', toI64_toI32]
    refine jint_i ?_
    rw [(sStep_s k4 k1 k2 (Or.inr ⟨fun q => absurd (k3.symm.trans q.1) (by decide), rfl⟩)).1 (Or.inl k3)] at hW
    simp only [if_true] at hW
    rw [hW]
    exact ⟨rfl, by simpa [jput] using hd, by simpa [jput] using hk, by simp [jput], f.put rfl⟩
  · have k4 : sKind (p.getD n 4) = 4 := toInt_eq_iff.mpr c
    rw [sStep_4 k4] at hW
    simp only [Bool.false_eq_true, if_false] at hW
    refine bX12_goes_289 (bX12_goes_366 ?_)
    rw [← nI_succ]
    exact kk _ _ V R _ (by omega) f hV hR hk (by rw [hd, hk]; exact hW)
theorem isMP.go {h h1 : jH} {p : List Int32} (hp : isMP (h 167) 0 p) (f : jfr fGoes h h1) : isMP (h1 167) 0 p := by
  rw [f.cell (fun j => rfl)]; exact hp
theorem tX12_goes {p : List Int32} (hp : isMP (h 167) 0 p) (hs : sProg p) :
    JM mX12_goes [.ref 159, .int x, .int y, .int fl, .int fv] (jG0 sc) h (jint sc (goPost (sGo p x y fl fv) h)) := by
  refine jM_of rfl (Nat.le_of_ble_eq_true rfl) (by decide +kernel) rfl (bX12_goes_0 ?_)
  refine jloop (fun i h1 => WP mX12_goes _ 3 [some (.ref 159), some (.int x), some (.int y), some (.int fl), some (.int fv), some (.int (nI i)), none, none, none, none, none] [] (jG0 sc) h1 (0, 0)) (fun i h1 => (∀ j, j < i → h1 168 j = 0 ∧ h1 169 j = 0) ∧ jfr fGoes h h1) 4 ?_ ?_ 0 h (by omega) ⟨fun j hj => absurd hj (by omega), jfr.rf⟩
  · rintro h1 ⟨i1, i2⟩
    refine bX12_goes_3 (fun _ => bX12_goes_31 ?_) (fun c => absurd (by decide) c)
    have key : ∀ (m : Nat) (h2 : jH) (n : Nat) (V R : Nat → Int32) (T : Int32), n < 2 ^ 30 → m ≤ 100 → jfr fGoes h h2 → sRel4 (h2 168) V → sRel4 (h2 169) R → h2 159 20 = nI (100 - m) → sGo p x y fl fv = sRun p x y fl fv m n V R T (h2 159 19) (h2 159 20) →
        WP mX12_goes (jint sc (goPost (sGo p x y fl fv) h)) 47 (mLv x y fl fv T (nI n) none none none none) [] (jG0 sc) h2 (0, 0) := by
      intro m
      induction m with
      | zero =>
        intro h2 n V R T hn _ f hV hR h20 hW
        have hp2 := hp.go f
        have h10 : p.length < 2 ^ 31 := Nat.lt_of_le_of_lt hp.2.1 (by decide)
        refine bX12_goes_47 (fun c => ?_) (fun c => ?_)
        all_goals rw [hp2.1, jn_le h10 (by omega)] at c
        · refine bX12_goes_369 (jint_i ?_)
          rw [hW, sRun, if_neg (by omega)]
          have q0 := hV 0 (by decide)
          have q1 := hR 0 (by decide)
          exact ⟨by simpa [jput] using q0, by simp [jput], by simp [jput], by simp [jput, q1], f.put rfl⟩
        · refine bX12_goes_58 (fun c1 => ?_) (fun _ => ?_)
          · exact absurd (by rw [jput_sl (by decide), h20]; rfl) c1
          · refine bX12_goes_73 (jint_i ?_)
            rw [hW, sRun, if_pos (by omega)]
            exact ⟨rfl, by simp [jput], by simp [jput], by simp [jput], f.put rfl⟩
      | succ m ih =>
        intro h2 n V R T hn hm f hV hR h20 hW
        have hp2 := hp.go f
        have h10 : p.length < 2 ^ 31 := Nat.lt_of_le_of_lt hp.2.1 (by decide)
        refine bX12_goes_47 (fun c => ?_) (fun c => ?_)
        all_goals rw [hp2.1, jn_le h10 (by omega)] at c
        · refine bX12_goes_369 (jint_i ?_)
          rw [hW, sRun, if_neg (by omega)]
          have q0 := hV 0 (by decide)
          have q1 := hR 0 (by decide)
          exact ⟨by simpa [jput] using q0, by simp [jput], by simp [jput], by simp [jput, q1], f.put rfl⟩
        · refine bX12_goes_58 (fun c1 => ?_) (fun c1 => ?_)
          · refine bX12_goes_76 ?_
            rw [(mk_0 (n := n) (by have := hp.2.1; omega)).2.2]
            refine goStep (V := V) (R := R) (m := m) (d := h2 159 19) (k := h2 159 20) ?_ hs (by omega) (((f.put rfl).put rfl).put rfl) ?_ ?_ ?_ ?_ ?_ ?_
            · rw [jput_ne (by decide), jput_ne (by decide), jput_ne (by decide)]; exact hp2
            · rw [jput_ne (by decide), jput_ne (by decide), jput_ne (by decide)]; exact hV
            · rw [jput_ne (by decide), jput_ne (by decide), jput_ne (by decide)]; exact hR
            · simp [jput]
            · simp [jput]
            · rw [hW, sRun, if_pos (by omega)]
            · intro h' n' V' R' T' b1 b2 b3 b4 b5 b6
              refine ih h' n' V' R' T' b1 (by omega) b2 b3 b4 ?_ b6
              rw [b5, h20, ← nI_succ, show 100 - (m + 1) + 1 = 100 - m by omega]
          · rw [jput_sl (by decide), h20] at c1
            have := (jn_eq (a := 100 - (m + 1)) (b := 100) (by omega) (by decide)).mp c1
            omega
    refine key 100 _ 0 (fun _ => 0) (fun _ => 0) 0 (by decide) (Nat.le_refl _) ((i2.put rfl).put rfl) ?_ ?_ ?_ ?_
    · intro i hi; rw [jput_ne (by decide), jput_ne (by decide)]; exact (i1 i hi).1
    · intro i hi; rw [jput_ne (by decide), jput_ne (by decide)]; exact (i1 i hi).2
    · simp [jput]; rfl
    · simp [jput]; rfl
  · rintro i h1 hi ⟨i1, i2⟩ k
    have hi' : i < 2 ^ 31 := Nat.lt_trans hi (by decide)
    refine bX12_goes_3 (fun c => absurd ((jn_le (a := 4) (by decide) hi').mp c) (by omega)) (fun _ => bX12_goes_9 (vp_in_nI hi (by decide)) (vp_in_nI hi (by decide)) ?_)
    rw [← nI_succ]
    refine k _ ⟨?_, (i2.put rfl).put rfl⟩
    intro j hj
    rw [nI_clamp hi']
    by_cases hji : j = i
    · subst hji; simp [jput]
    · have := i1 j (by omega)
      simpa [jput, hji] using this
end WN
