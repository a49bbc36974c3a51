/-! Operation otherwise. -/
section OP19
variable {sc : Nat × (Nat → Int32)} {h : jH} {A : aA} {n : Nat} {p q : List Int32} {rs : List aRun} {T : aT}
/-- the program of a kept one; -1: the body -/
noncomputable def sKeptP (A : aA) (i : Int32) : List Int32 := sIf (i = -1) (aBody (xS A)) (sShape (aBody (xS A)) ((aKept A).getD i.toNatClampNeg 0))
def sRowN (p q : List Int32) (x : Nat) (y : Nat) : Prop := ¬ sEnd p (nI x) (nI y) = sEnd q (nI x) (nI y)
noncomputable def sUnlike (p q : List Int32) (b : Nat) (x : Nat) : Int32 := sTot (fun x => sTot (fun y => sB (sRowN p q x y)) (b + 1)) x
noncomputable def oOtherwise (A : aA) (i : Int32) : aO := sIf (i = -1 ∨ aIx i (aKept A).length) (sIf (aBody (xS A) = [] ∨ aSecond (xS A) = []) (2, 0, A) (0, sUnlike (sKeptP A i) (aSecond (xS A)) (aBox (xS A)) (aBox (xS A) + 1), A)) (1, 0, A)
theorem sKeptP_ok {i : Int32} (ok : aOk n A) : sProg (sKeptP A i) := by
  unfold sKeptP
  by_cases e : i = -1
  · rw [sIf_t e]; exact ok.1.1
  · rw [sIf_f e]; exact sProg_sh ok.1.1
abbrev eOther : List String := ["java/lang/IndexOutOfBoundsException", "java/lang/IllegalStateException"]
theorem ccOtherwise {i : Int32} (ok : aOk n A) (k : RC h A) : JM mX11_otherwise [.ref 0, .int i] (jG0 sc) h (cQ sc eOther (oOtherwise A i) h) := by
  have b_h : jI4 89 := by unfold jI4; decide
  have c_h : jI4 12 := by unfold jI4; decide
  have h15 : aBox (xS A) ≤ 15 := ok.1.2.2.2.2.2.2.2
  have hp : isP h 10 (aBody (xS A)) := k.1.1
  have hq : isP h 12 (aSecond (xS A)) := k.1.2.1
  have no1 : ¬ (i = -1 ∨ aIx i (aKept A).length) → cQ sc eOther (oOtherwise A i) h (.inr "java/lang/IndexOutOfBoundsException") (jG0 sc) h := fun q => by
    rw [oOtherwise, sIf_f q]; exact cQ_x rfl k (fun _ _ => rfl)
  have no2 : (i = -1 ∨ aIx i (aKept A).length) → (aBody (xS A) = [] ∨ aSecond (xS A) = []) → cQ sc eOther (oOtherwise A i) h (.inr "java/lang/IllegalStateException") (jG0 sc) h := fun q1 q2 => by
    rw [oOtherwise, sIf_t q1, sIf_t q2]; exact cQ_x rfl k (fun _ _ => rfl)
  -- the box
  have go : ∀ (l2 : Int32) (h0 : jH), (i = -1 ∨ aIx i (aKept A).length) → ¬ (aBody (xS A) = [] ∨ aSecond (xS A) = []) → isP h0 89 (sKeptP A i) → jfr fCs h h0 → WP mX11_otherwise (cQ sc eOther (oOtherwise A i) h) 83 [some (.ref 0), some (.int i), some (.int l2), some (.int 0), some (.int 0), none] [] (jG0 sc) h0 (0, 0) := by
    intro l2 h0 q1 q2 p0 f0
    rw [oOtherwise, sIf_t q1, sIf_f q2]
    have e98 : ∀ {h1 : jH}, jfr fWalk h0 h1 → h1 9 8 = nI (aBox (xS A)) := fun f => ((f 9 8 rfl).trans (f0 9 8 rfl)).trans k.1.2.2.2.2.2.2.2
    refine jloop2 (fun x (h1 : jH) (v : Int32) => WP mX11_otherwise _ 83 [some (.ref 0), some (.int i), some (.int l2), some (.int v), some (.int (nI x)), none] [] (jG0 sc) h1 (0, 0))
      (fun x h1 v => v = sUnlike (sKeptP A i) (aSecond (xS A)) (aBox (xS A)) x ∧ jfr fWalk h0 h1) (aBox (xS A) + 1) ?_ ?_ 0 h0 0 (by omega) ⟨rfl, jfr.rf⟩
    · rintro h1 v ⟨i1, i2⟩
      refine rX11_otherwise_83 (fun _ => ?_) (fun c => absurd (by rw [e98 i2, jn_lt (by omega) (by omega)]; omega) c)
      rw [i1]
      exact cQ_q ok k (f0.tr2 (fWalk_Cs i2))
    · rintro x h1 v hx ⟨i1, i2⟩ kk
      have nlx : ¬ h1 9 8 < nI x := by rw [e98 i2, jn_lt (by omega) (by omega)]; omega
      refine rX11_otherwise_83 (fun c => absurd c nlx) (fun _ => ?_)
      refine jloop2 (fun y (h2 : jH) (v : Int32) => WP mX11_otherwise _ 98 [some (.ref 0), some (.int i), some (.int l2), some (.int v), some (.int (nI x)), some (.int (nI y))] [] (jG0 sc) h2 (0, 0))
        (fun y h2 v => v = sUnlike (sKeptP A i) (aSecond (xS A)) (aBox (xS A)) x + sTot (fun y => sB (sRowN (sKeptP A i) (aSecond (xS A)) x y)) y ∧ jfr fWalk h0 h2) (aBox (xS A) + 1) ?_ ?_ 0 h1 v (by omega) ⟨by rw [i1]; exact (Int32.add_zero _).symm, i2⟩
      · rintro h2 v2 ⟨j1, j2⟩
        have lt : h2 9 8 < nI (aBox (xS A) + 1) := by rw [e98 j2, jn_lt (by omega) (by omega)]; omega
        refine rX11_otherwise_98 (fun _ => ?_) (P1 := fun _ _ => True) (P2 := fun _ _ => True) (fun c => absurd lt c) (fun c => absurd lt c) (fun c => absurd lt c) (fun c => absurd lt c)
        rw [← nI_succ]
        exact kk h2 v2 ⟨j1, j2⟩
      · rintro y h2 v2 hy ⟨j1, j2⟩ kk2
        have nlt : ¬ h2 9 8 < nI y := by rw [e98 j2, jn_lt (by omega) (by omega)]; omega
        have f2 : jfr fCs h h2 := f0.tr2 (fWalk_Cs j2)
        refine rX11_otherwise_98 (fun c => absurd c nlt) (P1 := fun r h' => r = sEnd (sKeptP A i) (nI x) (nI y) ∧ jfr fWalk h0 h') (fun _ => jM_int (tX10_end b_h (Or.inr (by decide)) (p0.walk j2 (Or.inr (by decide))) (sKeptP_ok ok) ((f2 69 5 rfl).trans k.2.2.2.2.1)) (fun r h' z => ⟨z.1, j2.tr2 z.2.2.2.2⟩))
          (P2 := fun r h' => r = sEnd (aSecond (xS A)) (nI x) (nI y) ∧ jfr fWalk h0 h') (fun _ r1 h3 z => jM_int (tX10_end c_h (Or.inl (by decide)) ((hq.fr f0 rfl (fun _ => rfl)).walk z.2 (Or.inl (by decide))) ok.1.2.1 (((z.2 69 5 rfl).trans (f0 69 5 rfl)).trans k.2.2.2.2.1)) (fun r h' w => ⟨w.1, z.2.tr2 w.2.2.2.2⟩)) (fun _ r1 h3 z r2 h4 w c => ?_) (fun _ r1 h3 z r2 h4 w c => ?_)
        all_goals
          rw [z.1, w.1] at c
          rw [← nI_succ]
          refine kk2 h4 _ ⟨?_, w.2⟩
          rw [j1, sTot, Int32.add_assoc]
        · rw [sB_f (fun q => q c)]
        · rw [sB_t (c := sRowN _ _ _ _) c]
  have shape : ∀ {x1 : Int32}, (i = -1 ∨ aIx i (aKept A).length) → x1 = sIf (aIx i (aKept A).length) (nI ((aKept A).getD i.toNatClampNeg 0)) (-1) → JM mX3_shape [.ref 75, .ref 10, .int x1, .ref 89] (jG0 sc) h (jint sc (fun r h' => isP h' 89 (sKeptP A i) ∧ jfr fCs h h')) := fun {x1} q1 e => by
    by_cases z : i = -1
    · subst z
      have nk : ¬ aIx (-1) (aKept A).length := fun q => by obtain ⟨d, hd, e⟩ := q; exact nI_ne1 (by have : (aKept A).length ≤ 30 := ok.1.2.2.2.2.1.1; omega) e.symm
      rw [e, sIf_f nk]
      have := tX3_one (sc := sc) b_h (Or.inr (by decide)) (Or.inr (by decide)) ok.1.1 k.2.2.2.2.2 hp (m := -1) (Or.inl rfl)
      rw [sOne_N] at this
      unfold sKeptP
      rw [sIf_t rfl]
      exact jM_int this (fun r h' y => ⟨y.1, y.2.mono rfl⟩)
    · have q := q1.resolve_left z
      rw [e, sIf_t q]
      unfold sKeptP
      rw [sIf_f z]
      exact jM_int (tX3_kept b_h (Or.inr (by decide)) (Or.inr (by decide)) ok k.2.2.2.2.2 hp q) (fun r h' y => ⟨y.1, y.2.mono rfl⟩)
  refine jM_of rfl (Nat.le_of_ble_eq_true rfl) (by decide +kernel) rfl (rX11_otherwise_0 (tX11_keptNumber ok k) (fun _ _ q _ => by rw [← q.2]; exact tX11_hasBody hp) ?_ (P3 := fun _ h' => isP h' 89 (sKeptP A i) ∧ jfr fCs h h') ?_ ?_ ?_ (fun _ _ q _ _ => by rw [← q.2]; exact tX11_hasBody hp) ?_ (P5 := fun _ h' => isP h' 89 (sKeptP A i) ∧ jfr fCs h h') ?_ ?_ ?_ ?_)
  · rintro _ _ ⟨-, rfl⟩ z _ _ ⟨rfl, rfl⟩ c
    exact no2 (Or.inl z) (Or.inl (Classical.not_not.mp (sB_eq.mp c)))
  · rintro _ _ ⟨e, rfl⟩ z _ _ ⟨-, rfl⟩ c c2
    exact shape (Or.inl z) e
  · rintro _ _ ⟨e, rfl⟩ z _ _ ⟨rfl, rfl⟩ c c2 _ h3 y
    exact go _ h3 (Or.inl z) (fun q => q.elim (sB_ne.mp c) (fun q => c2 (hq.nil.mpr q))) y.1 y.2
  · rintro _ _ ⟨-, rfl⟩ z _ _ ⟨-, rfl⟩ c c2
    exact no2 (Or.inl z) (Or.inr (hq.nil.mp c2))
  · rintro _ _ ⟨e, rfl⟩ z c _ _ ⟨rfl, rfl⟩ c1
    rw [e, kn_ne ok, Classical.not_not] at c
    exact no2 (Or.inr c) (Or.inl (Classical.not_not.mp (sB_eq.mp c1)))
  · rintro _ _ ⟨e, rfl⟩ z c _ _ ⟨-, rfl⟩ c1 c2
    rw [e, kn_ne ok, Classical.not_not] at c
    exact shape (Or.inr c) e
  · rintro _ _ ⟨e, rfl⟩ z c _ _ ⟨rfl, rfl⟩ c1 c2 _ h3 y
    rw [e, kn_ne ok, Classical.not_not] at c
    exact go _ h3 (Or.inr c) (fun q => q.elim (sB_ne.mp c1) (fun q => c2 (hq.nil.mpr q))) y.1 y.2
  · rintro _ _ ⟨e, rfl⟩ z c _ _ ⟨-, rfl⟩ c1 c2
    rw [e, kn_ne ok, Classical.not_not] at c
    exact no2 (Or.inr c) (Or.inr (hq.nil.mp c2))
  · rintro _ _ ⟨e, rfl⟩ z c
    rw [e, kn_ne ok] at c
    exact no1 (fun q => q.elim z c)
end OP19
