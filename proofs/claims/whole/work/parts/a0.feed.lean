/-! Operation feed. -/
section FED
variable {sc : Nat × (Nat → Int32)} {h : jH} {A : aA} {n : Nat} {T : List Int32}
def fB (a s : Int32) : Int32 := ((a.toUInt32 >>> (s.toUInt32 &&& Int32.toUInt32 31)).toInt32) &&& 255
def sBytes (a : Int32) : List Int32 := [fB a 24, fB a 16, fB a 8, fB a 0]
def sFive (a b c d e : Int32) : List Int32 := sBytes a ++ (sBytes b ++ (sBytes c ++ (sBytes d ++ sBytes e)))
theorem sFive_len {a b c d e : Int32} : (sFive a b c d e).length = 20 := rfl
theorem and255_in (x : Int32) : ∃ m, m < 256 ∧ x &&& 255 = nI m := by
  refine ⟨x.toBitVec.toNat % 256, Nat.mod_lt _ (by decide), b_ext fun i hi => ?_⟩
  rw [b_and, b_255, bt_nI hi, show (256 : Nat) = 2 ^ 8 from rfl, Nat.testBit_mod_two_pow, Bool.and_comm]
  rfl
theorem byte_in {x : Int32} : sIn (x &&& 255) 0 255 := by
  obtain ⟨m, hm, e⟩ := and255_in x
  rw [e]
  have := nI_toInt (n := m) (by omega)
  exact ⟨by omega, by omega⟩
theorem sFive_in {a b c d e : Int32} : ∀ x ∈ sFive a b c d e, sIn x 0 255 := by
  intro x hx
  have : ∃ u s, x = fB u s := by
    simp only [sFive, sBytes, List.mem_append, List.mem_cons, List.not_mem_nil, or_false] at hx
    rcases hx with (h | h | h | h) | (h | h | h | h) | (h | h | h | h) | (h | h | h | h) | (h | h | h | h) <;> exact ⟨_, _, h⟩
  obtain ⟨u, s, e⟩ := this
  rw [e]; exact byte_in
theorem i8_ext {x y : Int32} (e : ∀ i, i < 8 → bt x i = bt y i) : x.toInt8 = y.toInt8 := by
  refine Int8.toBitVec_inj.mp (BitVec.eq_of_getLsbD_eq (fun i hi => ?_))
  show (x.toBitVec.signExtend 8).getLsbD i = (y.toBitVec.signExtend 8).getLsbD i
  rw [BitVec.getLsbD_signExtend, BitVec.getLsbD_signExtend]
  have := e i hi
  unfold bt at this
  simp only [this, show i < 32 by omega, if_true, if_pos]
theorem feed_byte {a : Int32} : ∀ {s : Nat}, s ≤ 24 → (((((a >>> (nI s &&& 31) : Int32)).toInt8.toInt32 : Int32)).toInt8.toInt32) = (fB a (nI s)).toInt8.toInt32 := by
  intro s hs
  rw [Int8.toInt8_toInt32]
  congr 1
  refine i8_ext fun i hi => ?_
  unfold fB
  rw [b_and, b_255, b_ushr s (by omega), b_sshr s (by omega) _ (by omega), if_pos (by omega), decide_eq_true hi, Bool.and_true]
theorem isTape.snoc {v : Int32} (k : isTape h T) (h4 : T.length < 400) : isTape (jput (jput h 2 T.length v) 1 1 (nI (T.length + 1))) (T ++ [v]) := by
  refine ⟨by rw [jput_at, List.length_append, List.length_singleton], fun i hi => ?_⟩
  rw [List.length_append, List.length_singleton] at hi
  rw [getD_ap1, jput_ne (by decide)]
  by_cases z : i = T.length
  · rw [z, jput_at, if_neg (Nat.lt_irrefl _), if_pos rfl]
  · rw [jput_sl z, if_pos (show i < T.length by omega)]; exact k.2 i (by omega)
abbrev fTp : jF := ([(2, 2)], [(1, 1, 1)])
theorem tX8_add {a : Int32} (k : isTape h T) (h4 : T.length + 4 ≤ 400) : JM mX8_add [.ref 1, .int a] (jG0 sc) h (jvoid sc (fun h' => isTape h' (T ++ sBytes a) ∧ jfr fTp h h')) := by
  refine jM_of rfl (Nat.le_of_ble_eq_true rfl) (by decide +kernel) rfl (rX8_add_0 ?_)
  have step : ∀ {h1 : jH} {T1 : List Int32} {s t : Int32}, isTape h1 T1 → T1.length < 400 → ¬ s < 0 → s + -8 = t → jfr fTp h h1 → (∀ h2, isTape h2 (T1 ++ [fB a s]) → jfr fTp h h2 → WP mX8_add (jvoid sc (fun h' => isTape h' (T ++ sBytes a) ∧ jfr fTp h h')) 3 [some (.ref 1), some (.int a), some (.int t)] [] (jG0 sc) h2 (0, 0)) →
      WP mX8_add (jvoid sc (fun h' => isTape h' (T ++ sBytes a) ∧ jfr fTp h h')) 3 [some (.ref 1), some (.int a), some (.int s)] [] (jG0 sc) h1 (0, 0) := by
    intro h1 T1 s t k1 l1 ns es f1 kk
    have e1 : h1 1 1 = nI T1.length := k1.1
    refine rX8_add_3 (fun c => absurd c ns) (fun _ c => absurd c (by rw [e1]; exact nI_pos (by omega))) (fun _ _ c => absurd ((jn_le (a := 400) (b := T1.length) (by decide) (by omega)).mp (by rw [← e1]; exact c)) (by omega)) (fun _ _ _ => by rw [e1]; exact vp_in_nI l1 (by decide)) (fun _ _ _ => ?_)
    rw [es, jput_ne (show (1 : Nat) ≠ 2 by decide), e1, nI_clamp (by omega), ← nI_succ]
    exact kk _ (k1.snoc l1) ((f1.put (by rw [jin_iff]; simp)).put rfl)
  refine step (t := 16) k (by omega) (by decide) (by decide) jfr.rf (fun h1 k1 f1 => ?_)
  refine step (t := 8) k1 (by rw [List.length_append, List.length_singleton]; omega) (by decide) (by decide) f1 (fun h2 k2 f2 => ?_)
  refine step (t := 0) k2 (by rw [List.length_append, List.length_append, List.length_singleton, List.length_singleton]; omega) (by decide) (by decide) f2 (fun h3 k3 f3 => ?_)
  refine step (t := -8) k3 (by rw [List.length_append, List.length_append, List.length_append, List.length_singleton, List.length_singleton, List.length_singleton]; omega) (by decide) (by decide) f3 (fun h4 k4 f4 => ?_)
  refine rX8_add_3 (fun _ => jvoid_i ⟨?_, f4⟩) (fun c => absurd (by decide) c) (fun c => absurd (by decide) c) (fun c => absurd (by decide) c) (fun c => absurd (by decide) c)
  have : T ++ sBytes a = T ++ [fB a 24] ++ [fB a 16] ++ [fB a 8] ++ [fB a 0] := by simp [sBytes]
  rw [this]; exact k4
/-- the class holds another tape and another wrong byte -/
theorem RC_tape {h' : jH} {x : Int32} (k : RC h A) (ok : aOk n A) (f : jfr ([(2, 8)], [(0, 1, 1), (1, 1, 5)]) h h') (ht : isTape h' T) (e : h' 0 1 = x) : RC h' (xS A, xI A, T, x) := by
  obtain ⟨k1, k2, k3, k4, k5, k6, k7, k8⟩ := k.1
  exact ⟨k.1.eq (fun c h1 h2 => f.cell (fun j => by rw [jin_f]; simp <;> omega)) ok.1.2.2.2.2.2.2.1.1, k.2.1.eq (f 0 6 rfl) (k.img ok (g_img f ⟨rfl, rfl⟩)), ht, e, (f 69 5 rfl).trans k.2.2.2.2.1, k.2.2.2.2.2.fr75 f ⟨rfl, rfl⟩⟩
theorem RM_tape {h' : jH} {x : Int32} (k : RM h A) (f : jfr ([(162, 178)], [(159, 0, 2), (159, 4, 40)]) h h') (ht : isMTape h' T) (e : h' 159 10 = x) : RM h' (xS A, xI A, T, x) :=
  ⟨by rw [f.cell (k := 160) (fun _ => rfl)]; exact k.1, k.2.1.eq (f 159 3 rfl) (f.cell (fun _ => rfl)), ht, e⟩
def oFeed (A : aA) (a b c d e : Int32) : aO := if (xT A).length + 20 ≤ 400 then (0, nI ((xT A).length + 20), (xS A, xI A, xT A ++ sFive a b c d e, xF A)) else (0, -1, A)
theorem okFeed {a b c d e : Int32} (ok : aOk n A) : aOk n (oFeed A a b c d e).2.2 := by
  unfold oFeed
  split
  · next q =>
    refine ⟨ok.1, ok.2.1, ?_, fun x hx => ?_⟩
    · show (xT A ++ sFive a b c d e).length ≤ 400
      rw [List.length_append, sFive_len]; exact q
    · rcases List.mem_append.mp hx with y | y
      · exact ok.2.2.2 x y
      · exact sFive_in x y
  · exact ok
theorem len20 {L : Nat} (hL : L ≤ 400) : nI L + 20 ≤ 400 ↔ L + 20 ≤ 400 := by
  rw [show (20 : Int32) = nI 20 from rfl, nI_add, show (400 : Int32) = nI 400 from rfl, jn_le (by omega) (by decide)]
theorem ccFeed {a b c d e : Int32} (ok : aOk n A) (k : RC h A) : JM mX11_feed [.ref 0, .int a, .int b, .int c, .int d, .int e] (jG0 sc) h (cQ sc [] (oFeed A a b c d e) h) := by
  have h400 := ok.2.2.1
  have e1 : h 1 1 = nI (xT A).length := k.2.2.1.1
  have l4 : ∀ {T : List Int32} {x : Int32}, (T ++ sBytes x).length = T.length + 4 := fun {T x} => by rw [List.length_append]; rfl
  refine jM_of rfl (Nat.le_of_ble_eq_true rfl) (by decide +kernel) rfl (rX11_feed_0
    (P1 := fun h' => isTape h' (xT A ++ sBytes a) ∧ jfr fTp h h') (P2 := fun h' => isTape h' (xT A ++ sBytes a ++ sBytes b) ∧ jfr fTp h h') (P3 := fun h' => isTape h' (xT A ++ sBytes a ++ sBytes b ++ sBytes c) ∧ jfr fTp h h') (P4 := fun h' => isTape h' (xT A ++ sBytes a ++ sBytes b ++ sBytes c ++ sBytes d) ∧ jfr fTp h h') (P5 := fun h' => isTape h' (xT A ++ sBytes a ++ sBytes b ++ sBytes c ++ sBytes d ++ sBytes e) ∧ jfr fTp h h')
    (fun q => ?_) (fun q h1 z => ?_) (fun q h1 _ h2 z => ?_) (fun q h1 _ h2 _ h3 z => ?_) (fun q h1 _ h2 _ h3 _ h4 z => ?_) (fun q h1 _ h2 _ h3 _ h4 _ h5 z => ?_) (fun q => ?_))
  all_goals rw [e1, len20 h400] at q
  · exact tX8_add k.2.2.1 (by omega)
  · exact jM_void (tX8_add z.1 (by rw [l4]; omega)) (fun h' w => ⟨w.1, z.2.tr2 w.2⟩)
  · exact jM_void (tX8_add z.1 (by rw [l4, l4]; omega)) (fun h' w => ⟨w.1, z.2.tr2 w.2⟩)
  · exact jM_void (tX8_add z.1 (by rw [l4, l4, l4]; omega)) (fun h' w => ⟨w.1, z.2.tr2 w.2⟩)
  · exact jM_void (tX8_add z.1 (by rw [l4, l4, l4, l4]; omega)) (fun h' w => ⟨w.1, z.2.tr2 w.2⟩)
  · have eT : xT A ++ sBytes a ++ sBytes b ++ sBytes c ++ sBytes d ++ sBytes e = xT A ++ sFive a b c d e := by simp [sFive]
    rw [eT] at z
    have eo : oFeed A a b c d e = (0, nI ((xT A).length + 20), (xS A, xI A, xT A ++ sFive a b c d e, xF A)) := if_pos q
    rw [eo, z.1.1, List.length_append, sFive_len]
    exact cQ_v (RC_tape k ok (z.2.mono rfl) z.1 ((z.2 0 1 rfl).trans k.2.2.2.1)) (fC.of z.2 ⟨rfl, rfl⟩)
  · have eo : oFeed A a b c d e = (0, -1, A) := if_neg q
    rw [eo]; exact cQ_v k (fun _ _ => rfl)
theorem feed_ix : ∀ k, k < 20 → nI k / 4 = nI (k / 4) ∧ (24 : Int32) - 8 * (nI k - nI k / 4 * 4) = nI (24 - 8 * (k % 4)) := by decide +kernel
theorem sFive_at {a b c d e : Int32} {k : Nat} (hk : k < 20) : (sFive a b c d e).getD k 0 = fB ([a, b, c, d, e].getD (k / 4) 0) (nI (24 - 8 * (k % 4))) := by
  match k, hk with
  | 0, _ => rfl
  | 1, _ => rfl
  | 2, _ => rfl
  | 3, _ => rfl
  | 4, _ => rfl
  | 5, _ => rfl
  | 6, _ => rfl
  | 7, _ => rfl
  | 8, _ => rfl
  | 9, _ => rfl
  | 10, _ => rfl
  | 11, _ => rfl
  | 12, _ => rfl
  | 13, _ => rfl
  | 14, _ => rfl
  | 15, _ => rfl
  | 16, _ => rfl
  | 17, _ => rfl
  | 18, _ => rfl
  | 19, _ => rfl
  | k + 20, h => exact absurd h (by omega)
theorem mmFeed {a b c d e : Int32} (ok : aOk n A) (k : RM h A) : JM mX12_feed [.ref 159, .int a, .int b, .int c, .int d, .int e] (jG0 sc) h (mQ sc (oFeed A a b c d e) h) := by
  have h400 := ok.2.2.1
  have e1 : jput h 159 0 0 159 5 = nI (xT A).length := k.2.2.1.1
  refine jM_of rfl (Nat.le_of_ble_eq_true rfl) (by decide +kernel) rfl (bX12_feed_0 (fun q => bX12_feed_20 (bX12_feed_54 (vp_in_nI (n := 4) (by decide) (by decide)) ?_)) (fun q => bX12_feed_18 ?_))
  all_goals rw [e1, len20 h400] at q
  · have eo : oFeed A a b c d e = (0, nI ((xT A).length + 20), (xS A, xI A, xT A ++ sFive a b c d e, xF A)) := if_pos q
    rw [eo, show (4 : Int32).toNatClampNeg = 4 from rfl]
    have five : ∀ j, j < 5 → (jput (jput (jput (jput (jput (jput h 159 0 0) 163 0 a) 163 1 b) 163 2 c) 163 3 d) 163 4 e) 163 j = [a, b, c, d, e].getD j 0 := fun j hj => by
      match j, hj with
      | 0, _ => rfl
      | 1, _ => rfl
      | 2, _ => rfl
      | 3, _ => rfl
      | 4, _ => rfl
    have f0 : jfr ([(162, 163)], [(159, 0, 0)]) h (jput (jput (jput (jput (jput (jput h 159 0 0) 163 0 a) 163 1 b) 163 2 c) 163 3 d) 163 4 e) := (((((jfr.rf.put rfl).put rfl).put rfl).put rfl).put rfl).put rfl
    have z0 : (jput (jput (jput (jput (jput (jput h 159 0 0) 163 0 a) 163 1 b) 163 2 c) 163 3 d) 163 4 e) 159 0 = 0 := rfl
    have t0 : ∀ i, (jput (jput (jput (jput (jput (jput h 159 0 0) 163 0 a) 163 1 b) 163 2 c) 163 3 d) 163 4 e) 162 i = h 162 i := fun i => rfl
    generalize jput (jput (jput (jput (jput (jput h 159 0 0) 163 0 a) 163 1 b) 163 2 c) 163 3 d) 163 4 e = h0 at *
    have e5 : h0 159 5 = nI (xT A).length := (f0 159 5 rfl).trans k.2.2.1.1
    refine jloop (fun i (h1 : jH) => WP mX12_feed _ 60 [some (.ref 159), some (.int a), some (.int b), some (.int c), some (.int d), some (.int e), some (.int (nI i))] [] (jG0 sc) h1 (0, 0))
      (fun i h1 => (∀ j, j < i → h1 162 ((xT A).length + j) = ((sFive a b c d e).getD j 0).toInt8.toInt32) ∧ (∀ j, j < (xT A).length → h1 162 j = h 162 j) ∧ jfr ([(162, 162)], []) h0 h1) 20 ?_ ?_ 0 h0 (by omega) ⟨fun j hj => absurd hj (Nat.not_lt_zero _), fun j _ => t0 j, jfr.rf⟩
    · rintro h1 ⟨i1, i2, f1⟩
      have g5 : h1 159 5 = nI (xT A).length := (f1 159 5 rfl).trans e5
      refine bX12_feed_60 (fun _ => bX12_feed_106 ?_) (fun q => absurd (by decide) q)
      have e20 : nI (xT A).length + 20 = nI ((xT A).length + 20) := nI_add _ 20
      rw [jput_at, g5, e20]
      have f2 : jfr ([(162, 163)], [(159, 0, 0), (159, 5, 5)]) h (jput h1 159 5 (nI ((xT A).length + 20))) := ((f0.mono rfl).tr2 (f1.mono rfl)).put rfl
      refine jint_i ⟨fun _ => rfl, (f1 159 0 rfl).trans z0, RM_tape k (f2.mono rfl) ⟨?_, fun i hi => ?_⟩ ((f2 159 10 rfl).trans k.2.2.2), fM.of f2 ⟨rfl, rfl⟩⟩
      · rw [jput_at, List.length_append, sFive_len]
      · rw [List.length_append, sFive_len] at hi
        show h1 162 i = _
        by_cases z : i < (xT A).length
        · rw [i2 i z, List.getD_eq_getElem?_getD, List.getElem?_append_left z, ← List.getD_eq_getElem?_getD]
          exact k.2.2.1.2 i z
        · obtain ⟨j, rfl⟩ : ∃ j, i = (xT A).length + j := ⟨i - (xT A).length, by omega⟩
          rw [i1 j (by omega), List.getD_eq_getElem?_getD (l := xT A ++ sFive a b c d e), List.getElem?_append_right (by omega), ← List.getD_eq_getElem?_getD, Nat.add_sub_cancel_left]
    · rintro i h1 hi ⟨i1, i2, f1⟩ kk
      have g5 : h1 159 5 = nI (xT A).length := (f1 159 5 rfl).trans e5
      obtain ⟨x1, x2⟩ := feed_ix i hi
      have g3 : h1 163 ((nI i / 4).toNatClampNeg) = [a, b, c, d, e].getD (i / 4) 0 := by rw [x1, nI_clamp (by omega), f1 163 _ rfl]; exact five _ (by omega)
      refine bX12_feed_60 (fun q => absurd ((jn_le (a := 20) (by decide) (by omega)).mp q) (by omega)) (fun _ => bX12_feed_67 (by rw [x1]; exact vp_in_nI (by omega) (by decide)) (by rw [g5, nI_add]; exact vp_in_nI (by omega) (by decide)) (bX12_feed_103 ?_))
      rw [g3, x2, feed_byte (by omega), g5, nI_add, nI_clamp (by omega), ← sFive_at hi, ← nI_succ]
      refine kk _ ⟨fun j hj => ?_, fun j hj => by rw [jput_sl (by omega)]; exact i2 j hj, f1.put (by rw [jin_iff]; simp)⟩
      by_cases z : j = i
      · subst z; exact jput_at
      · rw [jput_sl (by omega)]; exact i1 j (by omega)
  · have eo : oFeed A a b c d e = (0, -1, A) := if_neg q
    rw [eo]
    exact mQ_q k (jfr.rf.put rfl) rfl
end FED
