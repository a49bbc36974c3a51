/-! A BODY's text; the class reads it. -/
section BDC
variable {sc : Nat × (Nat → Int32)} {h h0 : jH} {T : List Int32} {b : Nat} {u : Bool} {ls : List Int32} {kd md : Int32}
abbrev pR : Type := Nat ⊕ (Int32 × Nat)
noncomputable def pSum (T : List Int32) (kd md : Int32) (b : Nat) : pR :=
  sIf (sAt T (nx T b) 2 2 = -1) (.inl (nx T b))
    (sIf (¬ tSgn T (nx T (nx T b)) < 1 ∧ tSgn T (nx T (nx T b)) ≤ 5)
      (sIf (sAt T (nx T (nx T (nx T b))) 2 2 = -1) (.inl (nx T (nx T (nx T b))))
        (.inr (sPack kd md (sAt T (nx T b) 2 2) (tSgn T (nx T (nx T b))) (sAt T (nx T (nx T (nx T b))) 2 2) 0, nx T (nx T (nx T (nx T b))))))
      (.inr (sPack kd md (sAt T (nx T b) 2 2) 0 (-1) 0, nx T (nx T b))))
noncomputable def sNumAt (T : List Int32) (b : Nat) : Int32 := nI (sNum T b (tEnd T b - b))
/-- behind the count: if, a comparison -/
noncomputable def pTest (T : List Int32) (kd v : Int32) (b : Nat) : pR :=
  sIf (tWd T b 4)
    (sIf (sAt T (nx T b) 2 2 = -1) (.inl (nx T b))
      (sIf (¬ tSgn T (nx T (nx T b)) < 6 ∧ tSgn T (nx T (nx T b)) ≤ 8)
        (sIf (sAt T (nx T (nx T (nx T b))) 2 2 = -1) (.inl (nx T (nx T (nx T b))))
          (.inr (sPack kd (-1) (sAt T (nx T b) 2 2) (tSgn T (nx T (nx T b))) (sAt T (nx T (nx T (nx T b))) 2 2) v, nx T (nx T (nx T (nx T b))))))
        (.inl (nx T (nx T b)))))
    (.inl b)
noncomputable def pJump (T : List Int32) (kd : Int32) (b : Nat) : pR :=
  sIf (tNumb T (nx T b) 1 ∧ ¬ sNumAt T (nx T b) = 0) (pTest T kd (sNumAt T (nx T b)) (nx T (nx T b))) (.inl (nx T b))
noncomputable def pSet (T : List Int32) (b : Nat) : pR :=
  sIf (tLet T (nx T b) 1 = -1) (.inl (nx T b)) (sIf (tMark T (nx T (nx T b)) 61) (pSum T 0 (tLet T (nx T b) 1) (nx T (nx T b))) (.inl (nx T (nx T b))))
noncomputable def pLine (T : List Int32) (b : Nat) : pR :=
  sIf (tWd T b 0) (pSet T b) (sIf (tWd T b 3) (pJump T 1 b) (sIf (tWd T b 5) (pJump T 2 b) (sIf (tWd T b 6) (pSum T 3 (-1) b) (.inl b))))
noncomputable def pBody (T : List Int32) : Nat → Nat → List Int32 → Nat ⊕ List Int32
  | 0, b, _ => .inl b
  | k + 1, b, ls => match pLine T b with
    | .inl e => .inl e
    | .inr q => sIf (T.length ≤ q.2) (.inr (ls ++ [q.1])) (sIf (tMark T q.2 59) (pBody T k (nx T q.2) (ls ++ [q.1])) (.inl q.2))
noncomputable def pText (T : List Int32) : Nat ⊕ List Int32 := pBody T 10 (sSkip T 0) []
/-- what a reader's step leaves -/
def cR (h0 : jH) (u : Bool) (T : List Int32) (ls : List Int32) (r : pR) (x : Int32) (h : jH) : Prop := match r with
  | .inl e => x = 0 ∧ h 1 3 = nI e ∧ isTape h T ∧ jfr fRd h0 h ∧ e ≤ T.length
  | .inr q => x = 1 ∧ cs h0 u T q.2 (ls ++ [q.1]) h
theorem cs.fail (k : cs h0 u T b ls h) : cR h0 u T ls (.inl b) 0 h := ⟨rfl, k.2.2.1.2.1, k.1, k.2.2.2.2.2, k.2.2.2.1⟩
theorem cR.zo {r : pR} {x : Int32} (k : cR h0 u T ls r x h) : x = 0 ∨ x = 1 := by
  match r, k with
  | .inl e, k => exact Or.inl k.1
  | .inr q, k => exact Or.inr k.1
theorem cR.z {r : pR} {x y : Int32} (k : cR h0 u T ls r x h) (hx : x = 0) (hy : y = 0) : cR h0 u T ls r y h := by rw [hy, ← hx]; exact k
theorem cR.o {r : pR} {x : Int32} (k : cR h0 u T ls r x h) (hx : ¬ x = 0) : cR h0 u T ls r 1 h := by
  rcases k.zo with q | q
  · exact absurd q hx
  · rw [← q]; exact k
theorem cs.atom (k : cs h0 u T b ls h) : JM mX0_atom [.ref 3, .ref 1] (jG0 sc) h (jint sc (fun x h' => x = sAt T b 2 2 ∧ cs h0 u T b ls h')) := by
  refine jM_of rfl (Nat.le_of_ble_eq_true rfl) (by decide +kernel) rfl (rX0_atom_0 (cs.numb (d := 2) (by decide) k) (fun x1 h1 z _ => cs.letr (n := 2) (by decide) z.2) ?_ ?_)
  · rintro x1 h1 ⟨rfl, -⟩ c x2 h2 ⟨rfl, z⟩
    exact jint_i ⟨(sIf_f (sB_eq.mp c)).symm, z⟩
  · rintro x1 h1 ⟨rfl, z⟩ c
    have c1 := sB_ne.mp c
    exact jint_i ⟨by rw [z.num c1 (by decide)]; exact (sIf_t c1).symm, z⟩
theorem cs.add {l : Int32} (hl : ls.length < 10) (k : cs h0 true T b ls h) : JM mX4_add [.ref 4, .int l] (jG0 sc) h (jvoid sc (cs h0 true T b (ls ++ [l]))) := by
  have t_h : jI4 4 := by unfold jI4; decide
  obtain ⟨k1, k2, k3, k4, k5, k6⟩ := k
  refine jM_void (tX4_add t_h k5 hl) (fun h' z => ?_)
  have f : jfr ([(5, 5)], [(4, 1, 1)]) h h' := z.2.mono rfl
  exact ⟨⟨(f 1 1 rfl).trans k1.1, fun i hi => (f 2 i rfl).trans (k1.2 i hi)⟩, k2, ⟨(f 1 2 rfl).trans k3.1, (f 1 3 rfl).trans k3.2.1, (f 1 4 rfl).trans k3.2.2.1, fun q => (f 1 5 rfl).trans (k3.2.2.2.1 q), fun q r => (f 1 5 rfl).trans (k3.2.2.2.2 q r)⟩, k4, z.1, k6.tr2 (f.mono rfl)⟩
theorem cs.pack {k m a s b' c : Int32} (z : cs h0 u T b ls h) : JM mX11_packed [.int k, .int m, .int a, .int s, .int b', .int c] (jG0 sc) h (jint sc (fun x h' => x = sPack k m a s b' c ∧ cs h0 u T b ls h')) := jM_get tX11_packed z
theorem cs.sum (hl : ls.length < 10) (k : cs h0 true T b ls h) : JM mX0_readSum [.ref 3, .ref 1, .int kd, .int md] (jG0 sc) h (jint sc (cR h0 true T ls (pSum T kd md b))) := by
  unfold pSum
  generalize eb1 : nx T b = b1
  generalize eb2 : nx T b1 = b2
  generalize eb3 : nx T b2 = b3
  generalize eb4 : nx T b3 = b4
  generalize ex : sAt T b1 2 2 = x
  generalize ey : sAt T b3 2 2 = y
  generalize es : tSgn T b2 = s
  refine jM_of rfl (Nat.le_of_ble_eq_true rfl) (by decide +kernel) rfl (rX0_readSum_0 (P1 := cs h0 true T b1 ls) (P2 := fun v h' => v = x ∧ cs h0 true T b1 ls h') (P3 := cs h0 true T b2 ls) (P4 := fun v h' => v = s ∧ cs h0 true T b2 ls h')
    (P5 := fun v h' => v = sPack kd md x 0 (-1) 0 ∧ cs h0 true T b2 ls h') (P6 := cs h0 true T b2 (ls ++ [sPack kd md x 0 (-1) 0])) (P7 := cs h0 true T b3 ls) (P8 := fun v h' => v = y ∧ cs h0 true T b3 ls h') (P9 := cs h0 true T b4 ls)
    (P10 := fun v h' => v = sPack kd md x s y 0 ∧ cs h0 true T b4 ls h') (P11 := cs h0 true T b4 (ls ++ [sPack kd md x s y 0])) (P12 := fun v h' => v = sPack kd md x 0 (-1) 0 ∧ cs h0 true T b2 ls h') (P13 := cs h0 true T b2 (ls ++ [sPack kd md x 0 (-1) 0]))
    ?_ ?_ ?_ ?_ ?_ ?_ ?_ ?_ ?_ ?_ ?_ ?_ ?_ ?_ ?_ ?_ ?_ ?_)
  · rw [← eb1]; exact k.next
  · rintro h1 z; rw [← ex]; exact z.atom
  · rintro h1 - x2 h2 ⟨-, z⟩ -; rw [← eb2]; exact z.next
  · rintro h1 - x2 h2 - - h3 z; rw [← es]; exact z.sign
  · rintro h1 - x2 h2 ⟨rfl, -⟩ - h3 - x4 h4 ⟨-, z⟩ -; exact z.pack
  · rintro h1 - x2 h2 - - h3 - x4 h4 - - x5 h5 ⟨rfl, z⟩; exact z.add hl
  · rintro h1 - x2 h2 ⟨rfl, -⟩ c h3 - x4 h4 ⟨rfl, -⟩ c2 x5 h5 - h6 z
    exact jint_i (by rw [sIf_f c, sIf_f (fun q => q.1 c2)]; exact ⟨rfl, z⟩)
  · rintro h1 - x2 h2 - - h3 - x4 h4 ⟨-, z⟩ - -; rw [← eb3]; exact z.next
  · rintro h1 - x2 h2 - - h3 - x4 h4 - - - h7 z; rw [← ey]; exact z.atom
  · rintro h1 - x2 h2 - - h3 - x4 h4 - - - h7 - x8 h8 ⟨-, z⟩ -; rw [← eb4]; exact z.next
  · rintro h1 - x2 h2 ⟨rfl, -⟩ - h3 - x4 h4 ⟨rfl, -⟩ - - h7 - x8 h8 ⟨rfl, -⟩ - h9 z; exact z.pack
  · rintro h1 - x2 h2 - - h3 - x4 h4 - - - h7 - x8 h8 - - h9 - x10 h10 ⟨rfl, z⟩; exact z.add hl
  · rintro h1 - x2 h2 ⟨rfl, -⟩ c h3 - x4 h4 ⟨rfl, -⟩ c2 c3 h7 - x8 h8 ⟨rfl, -⟩ c4 h9 - x10 h10 - h11 z
    exact jint_i (by rw [sIf_f c, sIf_t ⟨c2, c3⟩, sIf_f c4]; exact ⟨rfl, z⟩)
  · rintro h1 - x2 h2 ⟨rfl, -⟩ c h3 - x4 h4 ⟨rfl, -⟩ c2 c3 h7 - x8 h8 ⟨rfl, z⟩ c4
    exact jint_i (by rw [sIf_f c, sIf_t ⟨c2, c3⟩, sIf_t c4]; exact z.fail)
  · rintro h1 - x2 h2 ⟨rfl, -⟩ - h3 - x4 h4 ⟨-, z⟩ - -; exact z.pack
  · rintro h1 - x2 h2 - - h3 - x4 h4 - - - x12 h12 ⟨rfl, z⟩; exact z.add hl
  · rintro h1 - x2 h2 ⟨rfl, -⟩ c h3 - x4 h4 ⟨rfl, -⟩ c2 c3 x12 h12 - h13 z
    exact jint_i (by rw [sIf_f c, sIf_f (fun q => c3 q.2)]; exact ⟨rfl, z⟩)
  · rintro h1 - x2 h2 ⟨rfl, z⟩ c
    exact jint_i (by rw [sIf_t c]; exact z.fail)
theorem cs.jump (hl : ls.length < 10) (k : cs h0 true T b ls h) : JM mX0_readJump [.ref 3, .ref 1, .int kd] (jG0 sc) h (jint sc (cR h0 true T ls (pJump T kd b))) := by
  unfold pJump pTest
  generalize eb1 : nx T b = b1
  generalize eb2 : nx T b1 = b2
  generalize eb3 : nx T b2 = b3
  generalize eb4 : nx T b3 = b4
  generalize eb5 : nx T b4 = b5
  generalize eb6 : nx T b5 = b6
  generalize ex : sAt T b3 2 2 = x
  generalize ey : sAt T b5 2 2 = y
  generalize es : tSgn T b4 = s
  have nm : ∀ {h1 : jH}, cs h0 true T b1 ls h1 → tNumb T b1 1 → h1 1 5 = sNumAt T b1 := fun z q => z.num q (by decide)
  refine jM_of rfl (Nat.le_of_ble_eq_true rfl) (by decide +kernel) rfl (rX0_readJump_0 (P1 := cs h0 true T b1 ls) (P2 := fun v h' => v = sB (tNumb T b1 1) ∧ cs h0 true T b1 ls h') (P3 := cs h0 true T b2 ls) (P4 := fun v h' => v = sB (tWd T b2 4) ∧ cs h0 true T b2 ls h')
    (P5 := cs h0 true T b3 ls) (P6 := fun v h' => v = x ∧ cs h0 true T b3 ls h') (P7 := cs h0 true T b4 ls) (P8 := fun v h' => v = s ∧ cs h0 true T b4 ls h') (P9 := cs h0 true T b5 ls) (P10 := fun v h' => v = y ∧ cs h0 true T b5 ls h')
    (P11 := cs h0 true T b6 ls) (P12 := fun v h' => v = sPack kd (-1) x s y (sNumAt T b1) ∧ cs h0 true T b6 ls h') (P13 := cs h0 true T b6 (ls ++ [sPack kd (-1) x s y (sNumAt T b1)]))
    ?_ ?_ ?_ ?_ ?_ ?_ ?_ ?_ ?_ ?_ ?_ ?_ ?_ ?_ ?_ ?_ ?_ ?_ ?_ ?_ ?_)
  · rw [← eb1]; exact k.next
  · rintro h1 z; exact cs.numb (d := 1) (by decide) z
  · rintro h1 - x2 h2 ⟨rfl, z⟩ c
    exact jint_i (by rw [sIf_f (fun q => sB_eq.mp c q.1)]; exact z.fail)
  · rintro h1 - x2 h2 ⟨-, z⟩ - -; rw [← eb2]; exact z.next
  · rintro h1 - x2 h2 - - - h3 z; exact cs.word (n := 4) (by decide) z
  · rintro h1 - x2 h2 - - - h3 - x4 h4 ⟨-, z⟩ -; rw [← eb3]; exact z.next
  · rintro h1 - x2 h2 - - - h3 - x4 h4 - - h5 z; rw [← ex]; exact z.atom
  · rintro h1 - x2 h2 - - - h3 - x4 h4 - - h5 - x6 h6 ⟨-, z⟩ -; rw [← eb4]; exact z.next
  · rintro h1 - x2 h2 - - - h3 - x4 h4 - - h5 - x6 h6 - - h7 z; rw [← es]; exact z.sign
  · rintro h1 z1 x2 h2 ⟨rfl, -⟩ c c1 h3 - x4 h4 ⟨rfl, -⟩ c2 h5 - x6 h6 ⟨rfl, -⟩ c3 h7 - x8 h8 ⟨rfl, z⟩ c4
    have q1 := sB_ne.mp c
    rw [nm z1 q1] at c1
    exact jint_i (by rw [sIf_t ⟨q1, c1⟩, sIf_t (sB_ne.mp c2), sIf_f c3, sIf_f (fun q => q.1 c4)]; exact z.fail)
  · rintro h1 - x2 h2 - - - h3 - x4 h4 - - h5 - x6 h6 - - h7 - x8 h8 ⟨-, z⟩ - -; rw [← eb5]; exact z.next
  · rintro h1 - x2 h2 - - - h3 - x4 h4 - - h5 - x6 h6 - - h7 - x8 h8 - - - h9 z; rw [← ey]; exact z.atom
  · rintro h1 - x2 h2 - - - h3 - x4 h4 - - h5 - x6 h6 - - h7 - x8 h8 - - - h9 - x10 h10 ⟨-, z⟩ -; rw [← eb6]; exact z.next
  · rintro h1 z1 x2 h2 ⟨rfl, -⟩ c c1 h3 - x4 h4 - - h5 - x6 h6 ⟨rfl, -⟩ - h7 - x8 h8 ⟨rfl, -⟩ - - h9 - x10 h10 ⟨rfl, -⟩ - h11 z
    rw [nm z1 (sB_ne.mp c)]; exact z.pack
  · rintro h1 - x2 h2 - - - h3 - x4 h4 - - h5 - x6 h6 - - h7 - x8 h8 - - - h9 - x10 h10 - - h11 - x12 h12 ⟨rfl, z⟩; exact z.add hl
  · rintro h1 z1 x2 h2 ⟨rfl, -⟩ c c1 h3 - x4 h4 ⟨rfl, -⟩ c2 h5 - x6 h6 ⟨rfl, -⟩ c3 h7 - x8 h8 ⟨rfl, -⟩ c4 c5 h9 - x10 h10 ⟨rfl, -⟩ c6 h11 - x12 h12 - h13 z
    have q1 := sB_ne.mp c
    rw [nm z1 q1] at c1
    exact jint_i (by rw [sIf_t ⟨q1, c1⟩, sIf_t (sB_ne.mp c2), sIf_f c3, sIf_t ⟨c4, c5⟩, sIf_f c6]; exact ⟨rfl, z⟩)
  · rintro h1 z1 x2 h2 ⟨rfl, -⟩ c c1 h3 - x4 h4 ⟨rfl, -⟩ c2 h5 - x6 h6 ⟨rfl, -⟩ c3 h7 - x8 h8 ⟨rfl, -⟩ c4 c5 h9 - x10 h10 ⟨rfl, z⟩ c6
    have q1 := sB_ne.mp c
    rw [nm z1 q1] at c1
    exact jint_i (by rw [sIf_t ⟨q1, c1⟩, sIf_t (sB_ne.mp c2), sIf_f c3, sIf_t ⟨c4, c5⟩, sIf_t c6]; exact z.fail)
  · rintro h1 z1 x2 h2 ⟨rfl, -⟩ c c1 h3 - x4 h4 ⟨rfl, -⟩ c2 h5 - x6 h6 ⟨rfl, -⟩ c3 h7 - x8 h8 ⟨rfl, z⟩ c4 c5
    have q1 := sB_ne.mp c
    rw [nm z1 q1] at c1
    exact jint_i (by rw [sIf_t ⟨q1, c1⟩, sIf_t (sB_ne.mp c2), sIf_f c3, sIf_f (fun q => c5 q.2)]; exact z.fail)
  · rintro h1 z1 x2 h2 ⟨rfl, -⟩ c c1 h3 - x4 h4 ⟨rfl, -⟩ c2 h5 - x6 h6 ⟨rfl, z⟩ c3
    have q1 := sB_ne.mp c
    rw [nm z1 q1] at c1
    exact jint_i (by rw [sIf_t ⟨q1, c1⟩, sIf_t (sB_ne.mp c2), sIf_t c3]; exact z.fail)
  · rintro h1 z1 x2 h2 ⟨rfl, -⟩ c c1 h3 - x4 h4 ⟨rfl, z⟩ c2
    have q1 := sB_ne.mp c
    rw [nm z1 q1] at c1
    exact jint_i (by rw [sIf_t ⟨q1, c1⟩, sIf_f (sB_eq.mp c2)]; exact z.fail)
  · rintro h1 z1 x2 h2 ⟨rfl, z⟩ c c1
    have q1 := sB_ne.mp c
    rw [nm z1 q1] at c1
    exact jint_i (by rw [sIf_f (fun q => q.2 c1)]; exact z.fail)
theorem cs.set (hl : ls.length < 10) (k : cs h0 true T b ls h) : JM mX0_readSet [.ref 3, .ref 1] (jG0 sc) h (jint sc (cR h0 true T ls (pSet T b))) := by
  unfold pSet
  generalize eb1 : nx T b = b1
  generalize eb2 : nx T b1 = b2
  refine jM_of rfl (Nat.le_of_ble_eq_true rfl) (by decide +kernel) rfl (rX0_readSet_0 (P1 := cs h0 true T b1 ls) (P2 := fun v h' => v = tLet T b1 1 ∧ cs h0 true T b1 ls h') (P3 := cs h0 true T b2 ls) (P4 := fun v h' => v = sB (tMark T b2 61) ∧ cs h0 true T b2 ls h')
    (P5 := cR h0 true T ls (pSum T 0 (tLet T b1 1) b2)) ?_ ?_ ?_ ?_ ?_ ?_ ?_ ?_ ?_)
  · rw [← eb1]; exact k.next
  · rintro h1 z; exact cs.letr (n := 1) (by decide) z
  · rintro h1 - x2 h2 ⟨-, z⟩ -; rw [← eb2]; exact z.next
  · rintro h1 - x2 h2 - - h3 z; exact z.mark
  · rintro h1 - x2 h2 ⟨rfl, -⟩ c h3 - x4 h4 ⟨rfl, z⟩ c2
    exact jint_i (by rw [sIf_f c, sIf_f (sB_eq.mp c2)]; exact z.fail)
  · rintro h1 - x2 h2 ⟨rfl, -⟩ c h3 - x4 h4 ⟨-, z⟩ -; exact z.sum hl
  · rintro h1 - x2 h2 ⟨rfl, -⟩ c h3 - x4 h4 ⟨rfl, -⟩ c2 x5 h5 z c3
    exact jint_i (by rw [sIf_f c, sIf_t (sB_ne.mp c2)]; exact z.z c3 rfl)
  · rintro h1 - x2 h2 ⟨rfl, -⟩ c h3 - x4 h4 ⟨rfl, -⟩ c2 x5 h5 z c3
    exact jint_i (by rw [sIf_f c, sIf_t (sB_ne.mp c2)]; exact z.o c3)
  · rintro h1 - x2 h2 ⟨rfl, z⟩ c
    exact jint_i (by rw [sIf_t c]; exact z.fail)
theorem cs.line (hl : ls.length < 10) (k : cs h0 true T b ls h) : JM mX0_readLine [.ref 3, .ref 1] (jG0 sc) h (jint sc (cR h0 true T ls (pLine T b))) := by
  unfold pLine
  refine jM_of rfl (Nat.le_of_ble_eq_true rfl) (by decide +kernel) rfl (rX0_readLine_0 (P1 := fun v h' => v = sB (tWd T b 0) ∧ cs h0 true T b ls h') (P2 := fun v h' => v = sB (tWd T b 3) ∧ cs h0 true T b ls h') (P3 := fun v h' => v = sB (tWd T b 5) ∧ cs h0 true T b ls h') (P4 := fun v h' => v = sB (tWd T b 6) ∧ cs h0 true T b ls h')
    (P5 := cR h0 true T ls (pSum T 3 (-1) b)) (P6 := cR h0 true T ls (pJump T 2 b)) (P7 := cR h0 true T ls (pJump T 1 b)) (P8 := cR h0 true T ls (pSet T b)) ?_ ?_ ?_ ?_ ?_ ?_ ?_ ?_ ?_ ?_ ?_ ?_ ?_ ?_ ?_ ?_ ?_)
  · exact cs.word (n := 0) (by decide) k
  · rintro x1 h1 ⟨-, z⟩ -; exact cs.word (n := 3) (by decide) z
  · rintro x1 h1 - - x2 h2 ⟨-, z⟩ -; exact cs.word (n := 5) (by decide) z
  · rintro x1 h1 - - x2 h2 - - x3 h3 ⟨-, z⟩ -; exact cs.word (n := 6) (by decide) z
  · rintro x1 h1 ⟨rfl, -⟩ c1 x2 h2 ⟨rfl, -⟩ c2 x3 h3 ⟨rfl, -⟩ c3 x4 h4 ⟨rfl, z⟩ c4
    exact jint_i (by rw [sIf_f (sB_eq.mp c1), sIf_f (sB_eq.mp c2), sIf_f (sB_eq.mp c3), sIf_f (sB_eq.mp c4)]; exact z.fail)
  · rintro x1 h1 - - x2 h2 - - x3 h3 - - x4 h4 ⟨-, z⟩ -; exact z.sum hl
  · rintro x1 h1 ⟨rfl, -⟩ c1 x2 h2 ⟨rfl, -⟩ c2 x3 h3 ⟨rfl, -⟩ c3 x4 h4 ⟨rfl, -⟩ c4 x5 h5 z c5
    exact jint_i (by rw [sIf_f (sB_eq.mp c1), sIf_f (sB_eq.mp c2), sIf_f (sB_eq.mp c3), sIf_t (sB_ne.mp c4)]; exact z.z c5 rfl)
  · rintro x1 h1 ⟨rfl, -⟩ c1 x2 h2 ⟨rfl, -⟩ c2 x3 h3 ⟨rfl, -⟩ c3 x4 h4 ⟨rfl, -⟩ c4 x5 h5 z c5
    exact jint_i (by rw [sIf_f (sB_eq.mp c1), sIf_f (sB_eq.mp c2), sIf_f (sB_eq.mp c3), sIf_t (sB_ne.mp c4)]; exact z.o c5)
  · rintro x1 h1 - - x2 h2 - - x3 h3 ⟨-, z⟩ -; exact z.jump hl
  · rintro x1 h1 - - x2 h2 - - x3 h3 - - x6 h6 z; exact z.zo
  · rintro x1 h1 ⟨rfl, -⟩ c1 x2 h2 ⟨rfl, -⟩ c2 x3 h3 ⟨rfl, -⟩ c3 x6 h6 z
    exact jint_i (by rw [sIf_f (sB_eq.mp c1), sIf_f (sB_eq.mp c2), sIf_t (sB_ne.mp c3)]; exact z)
  · rintro x1 h1 - - x2 h2 ⟨-, z⟩ -; exact z.jump hl
  · rintro x1 h1 - - x2 h2 - - x7 h7 z; exact z.zo
  · rintro x1 h1 ⟨rfl, -⟩ c1 x2 h2 ⟨rfl, -⟩ c2 x7 h7 z
    exact jint_i (by rw [sIf_f (sB_eq.mp c1), sIf_t (sB_ne.mp c2)]; exact z)
  · rintro x1 h1 ⟨-, z⟩ -; exact z.set hl
  · rintro x1 h1 - - x8 h8 z; exact z.zo
  · rintro x1 h1 ⟨rfl, -⟩ c1 x8 h8 z
    exact jint_i (by rw [sIf_t (sB_ne.mp c1)]; exact z)
/-- what the body's reader leaves -/
def cW (h0 : jH) (T : List Int32) (r : Nat ⊕ List Int32) (x : Int32) (h : jH) : Prop := isTape h T ∧ jfr fRd h0 h ∧ (match r with
  | .inl e => x = nI e ∧ e ≤ T.length
  | .inr p => x = -1 ∧ isP h 4 p)
theorem tX8_open {ls : List Int32} (k : isTape h T) (h4 : T.length ≤ 400) (kr : isRd u ls h) (f : jfr fRd h0 h) : JM mX8_open [.ref 1] (jG0 sc) h (jvoid sc (cs h0 u T (sSkip T 0) ls)) := by
  refine jM_of rfl (Nat.le_of_ble_eq_true rfl) (by decide +kernel) rfl (rX8_open_0 (P1 := cs h0 u T (sSkip T 0) ls) ?_ (fun _ z => jvoid_i z))
  have f1 : jfr fNext h (jput h 1 4 0) := jfr.rf.put rfl
  refine jM_void (tX8_next (i := 0) (k.nx f1) h4 jput_at (Nat.zero_le _)) (fun h' z => ?_)
  have f2 := f1.tr2 z.2
  exact ⟨k.nx f2, h4, z.1, (sSpan_in (P := isBla) (Nat.zero_le _)).2.1, kr.fr f2 ⟨rfl, rfl⟩ (fun _ => rfl) (fun _ => rfl), f.tr2 (f2.mono rfl)⟩
theorem tX0_wrongIn (k : isTape h T) (h4 : T.length ≤ 400) : JM mX0_wrongIn [.ref 3, .ref 1] (jG0 sc) h (jint sc (cW h T (pText T))) := by
  refine jM_of rfl (Nat.le_of_ble_eq_true rfl) (by decide +kernel) rfl (rX0_wrongIn_0 (P1 := cs h true T (sSkip T 0) []) ?_ (fun h1 z => ?_))
  · have f : jfr fRd h (jput h 4 1 0) := jfr.rf.put rfl
    exact tX8_open (u := true) ⟨(f 1 1 rfl).trans k.1, fun i hi => (f 2 i rfl).trans (k.2 i hi)⟩ h4 ⟨rfl, Nat.zero_le _, fun i hi => absurd hi (Nat.not_lt_zero _)⟩ f
  · have go : ∀ m i b ls (h1 : jH), i + m = 10 → ls.length = i → cs h true T b ls h1 → WP mX0_wrongIn (jint sc (cW h T (pBody T m b ls))) 14 [some (.ref 3), some (.ref 1), some (.int (nI i))] [] (jG0 sc) h1 (0, 0) := by
      intro m
      induction m with
      | zero =>
        intro i b ls h1 em el z
        refine rX0_wrongIn_14 (P1 := fun _ _ => True) (P2 := fun _ _ => True) (P3 := fun _ => True) (fun _ => jint_i ⟨z.1, z.2.2.2.2.2, z.2.2.1.2.1, z.2.2.2.1⟩) ?_ ?_ ?_ ?_ ?_ ?_ ?_
        all_goals intro c; exact absurd (nI_le (a := 10) (by omega) (by omega)) c
      | succ m ih =>
        intro i b ls h1 em el z
        have nc : ¬ (10 : Int32) ≤ nI i := fun c => absurd ((jn_le (a := 10) (by decide) (by omega)).mp c) (by omega)
        refine rX0_wrongIn_14 (P1 := cR h true T ls (pLine T b)) (P2 := fun v h' => ∃ q, pLine T b = .inr q ∧ v = sB (tMark T q.2 59) ∧ cs h true T q.2 (ls ++ [q.1]) h' ∧ ¬ T.length ≤ q.2) (P3 := fun h' => ∃ q, pLine T b = .inr q ∧ cs h true T (nx T q.2) (ls ++ [q.1]) h' ∧ ¬ T.length ≤ q.2 ∧ tMark T q.2 59) (fun c => absurd c nc) (fun _ => z.line (by omega)) ?_ ?_ ?_ ?_ ?_ ?_
        · rintro - x1 h2 w c1 c2
          cases e : pLine T b with
          | inl e' => rw [e] at w; exact absurd w.1 c1
          | inr q =>
            rw [e] at w
            have w2 := w.2
            have ne : ¬ T.length ≤ q.2 := fun c => c2 ((w2.2.2.1.kd (m := 0) (by decide)).mpr (tk0 c).1)
            exact jM_int w2.mark (fun x h' y => ⟨q, rfl, y.1, y.2, ne⟩)
        · rintro - x1 h2 - - - x2 h3 ⟨q, e, rfl, w, ne⟩ c3
          exact jM_void w.next (fun h' y => ⟨q, e, y, ne, sB_ne.mp c3⟩)
        · rintro - x1 h2 - - - x2 h3 - - h4 ⟨q, e, w, ne, tm⟩
          have ep : pBody T (m + 1) b ls = pBody T m (nx T q.2) (ls ++ [q.1]) := by
            rw [pBody, e]; exact (sIf_f ne).trans (sIf_t tm)
          rw [ep, ← nI_succ]
          exact ih (i + 1) _ _ h4 (by omega) (by rw [List.length_append, List.length_singleton, el]) w
        · rintro - x1 h2 - - - x2 h3 ⟨q, e, rfl, w, ne⟩ c3
          have ep : pBody T (m + 1) b ls = .inl q.2 := by
            rw [pBody, e]; exact (sIf_f ne).trans (sIf_f (sB_eq.mp c3))
          rw [ep]
          exact jint_i ⟨w.1, w.2.2.2.2.2, w.2.2.1.2.1, w.2.2.2.1⟩
        · rintro - x1 h2 w c1 c2
          cases e : pLine T b with
          | inl e' => rw [e] at w; exact absurd w.1 c1
          | inr q =>
            rw [e] at w
            have w2 := w.2
            have ne : T.length ≤ q.2 := by
              have := (w2.2.2.1.kd (m := 0) (by decide)).mp c2
              by_cases c : T.length ≤ q.2
              · exact c
              · exfalso
                by_cases l : isLet (T.getD q.2 0)
                · rw [(tk1 (by omega) l).1] at this; cases this
                · by_cases d : isDig (T.getD q.2 0)
                  · rw [(tk2 (by omega) l d).1] at this; cases this
                  · rw [(tk3 (by omega) l d).1] at this; cases this
            have ep : pBody T (m + 1) b ls = .inr (ls ++ [q.1]) := by rw [pBody, e]; exact sIf_t ne
            rw [ep]
            exact jint_i ⟨w2.1, w2.2.2.2.2.2, rfl, w2.2.2.2.2.1⟩
        · rintro - x1 h2 w c1
          cases e : pLine T b with
          | inr q => rw [e] at w; exact absurd (w.1.symm.trans c1) (by decide)
          | inl e' =>
            rw [e] at w
            have ep : pBody T (m + 1) b ls = .inl e' := by rw [pBody, e]
            rw [ep]
            exact jint_i ⟨w.2.2.1, w.2.2.2.1, w.2.1, w.2.2.2.2⟩
    exact go 10 0 _ [] h1 rfl rfl z
end BDC
