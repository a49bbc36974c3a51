/-! For count: pairs in the reference, bits counted. -/
section CNT
variable {sc : Nat × (Nat → Int32)} {h : jH} {A : aA} {n : Nat} {p q : List Int32} {rs : List aRun} {T : aT}
theorem tX12_doubles (k : isML h p) (hs : sProg p) : JM mX12_doubles [.ref 159] (jG0 sc) h (jgets sc (nI (sPairs (sMends p)).length) h) := by
  have h280 := sMends_280 hs
  have hfew := sAll_few hs
  have htot := sAll_total (ms := sMends p)
  generalize hM : (sMends p).length = M at *
  have e26 : h 159 26 = nI M := by rw [← hM]; exact k.2.1
  refine jM_of rfl (Nat.le_of_ble_eq_true rfl) (by decide +kernel) rfl (bX12_doubles_0 ?_)
  refine jloop (fun a (N : Nat) => WP mX12_doubles _ 4 [some (.ref 159), some (.int (nI N)), some (.int (nI a)), none] [] (jG0 sc) h (0, 0))
    (fun a N => N = ((List.range a).flatMap (sPairsOf (sMends p))).length) M ?_ ?_ 0 0 (by omega) rfl
  · intro N e
    refine bX12_doubles_4 (fun _ => bX12_doubles_53 (jgets_i ?_)) (fun d => absurd (by rw [e26]; exact nI_le (Nat.le_refl _) (by omega)) d)
    rw [e, ← hM]; rfl
  · intro a N ha e kk
    have no : ¬ h 159 26 ≤ nI a := by rw [e26, jn_le (by omega) (by omega)]; omega
    refine bX12_doubles_4 (fun d => absurd d no) (fun _ => bX12_doubles_12 ?_)
    rw [← nI_succ]
    have inner : ∀ b, a + 1 ≤ b → b ≤ M → ∀ (N2 : Nat), N2 = pCnt (sMends p) a b → WP mX12_doubles (jgets sc (nI (sPairs (sMends p)).length) h) 16 [some (.ref 159), some (.int (nI N2)), some (.int (nI a)), some (.int (nI b))] [] (jG0 sc) h (0, 0) := by
      intro b hb1 hb2 N2 hI
      refine jloop (fun i (N2 : Nat) => WP mX12_doubles _ 16 [some (.ref 159), some (.int (nI N2)), some (.int (nI a)), some (.int (nI (b + i)))] [] (jG0 sc) h (0, 0))
        (fun i N2 => N2 = pCnt (sMends p) a (b + i)) (M - b) ?_ ?_ 0 N2 (by omega) hI
      · intro N2 e2
        rw [show b + (M - b) = M by omega] at *
        refine bX12_doubles_16 (fun _ => bX12_doubles_47 ?_) (fun d => absurd (by rw [e26]; exact nI_le (Nat.le_refl _) (by omega)) d)
        rw [← nI_succ]
        have e3 := pCnt_e (ms := sMends p) (a := a)
        rw [hM] at e3
        exact kk N2 (e2.trans e3)
      · intro i N2 hi e2 kk2
        have no2 : ¬ h 159 26 ≤ nI (b + i) := by rw [e26, jn_le (by omega) (by omega)]; omega
        have nx : nI (b + i) + 1 = nI (b + (i + 1)) := by rw [← Nat.add_assoc, nI_succ]
        have eC := pCnt_s (ms := sMends p) (a := a) (b := b + i) (by omega)
        refine bX12_doubles_16 (fun d => absurd d no2) (fun _ => bX12_doubles_24 (tX12_canPair k hs (by omega) (by omega)) ?_ ?_)
        · rintro _ _ ⟨rfl, rfl⟩ d2
          rw [sB_eq] at d2
          rw [if_neg d2] at eC
          refine bX12_doubles_38 (bX12_doubles_39 ?_)
          rw [nx, Int32.add_zero]
          exact kk2 N2 (by rw [← Nat.add_assoc b i 1]; omega)
        · rintro _ _ ⟨rfl, rfl⟩ d2
          rw [sB_ne] at d2
          rw [if_pos d2] at eC
          refine bX12_doubles_34 (bX12_doubles_39 ?_)
          rw [nx, ← nI_succ]
          exact kk2 (N2 + 1) (by rw [← Nat.add_assoc b i 1]; omega)
    exact inner (a + 1) (Nat.le_refl _) (by omega) N (by rw [pCnt_0]; exact e)
theorem pop_step : ∀ n, n < 12 → ∀ x, x < 2 ^ n → (nI x ||| ((1 : Int32) <<< (nI n &&& 31)) = nI (x + 2 ^ n)) ∧ jbits (nI (x + 2 ^ n)) = jbits (nI x) + 1 := by decide +kernel
theorem pop_bits {f : Nat → Prop} : ∀ n, n ≤ 12 → (∃ x, x < 2 ^ n ∧ sBits f n = nI x) ∧ nI n - jbits (sBits f n) = sTot (fun i => sB (¬ f i)) n := by
  intro n
  induction n with
  | zero => intro _; exact ⟨⟨0, by decide, rfl⟩, (by decide : nI 0 - jbits 0 = 0)⟩
  | succ n ih =>
    intro hn
    obtain ⟨⟨x, hx, e⟩, s⟩ := ih (by omega)
    obtain ⟨p1, p2⟩ := pop_step n (by omega) x hx
    have h2 : 2 ^ (n + 1) = 2 ^ n + 2 ^ n := by rw [Nat.pow_succ]; omega
    by_cases c : f n
    · rw [sBits_t c, e, p1]
      refine ⟨⟨x + 2 ^ n, by omega, rfl⟩, ?_⟩
      rw [p2, sTot, sB_f (fun q => q c), Int32.add_zero, ← s, e, nI_succ]
      rw [Int32.sub_eq_add_neg, Int32.sub_eq_add_neg, Int32.neg_add]
      rw [Int32.add_assoc, Int32.add_comm 1, Int32.sub_eq_add_neg, Int32.add_assoc, Int32.add_left_neg, Int32.add_zero]
    · rw [sBits_f c]
      refine ⟨⟨x, by omega, e⟩, ?_⟩
      rw [sTot, sB_t c, ← s, nI_succ]
      rw [Int32.sub_eq_add_neg, Int32.sub_eq_add_neg, Int32.add_assoc, Int32.add_comm 1, Int32.add_assoc]
end CNT
