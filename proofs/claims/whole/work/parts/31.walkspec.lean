/-! What a RUN of a program is: lines are packed as the class packs them; a program is the list of its lines. -/
def sKind (l : Int32) : Int32 := l &&& 7
def sMade (l : Int32) : Int32 := ((l >>> 3) &&& 7) - 1
def sFirst (l : Int32) : Int32 := ((l >>> 6) &&& 127) - 1
def sSign (l : Int32) : Int32 := (l >>> 13) &&& 15
def sSecond (l : Int32) : Int32 := ((l >>> 17) &&& 127) - 1
def sCount (l : Int32) : Int32 := (l >>> 24) &&& 15
def sFld (l : Int32) (j : Nat) : Int32 := match j with
  | 0 => sKind l
  | 1 => sMade l
  | 2 => sFirst l
  | 3 => sSign l
  | 4 => sSecond l
  | 5 => sCount l
  | _ => 0
def sPack (k m a s b c : Int32) : Int32 := ((((k ||| ((m + 1) <<< 3)) ||| ((a + 1) <<< 6)) ||| (s <<< 13)) ||| ((b + 1) <<< 17)) ||| (c <<< 24)
abbrev sIn (x : Int32) (lo hi : Int) : Prop := lo ≤ x.toInt ∧ x.toInt ≤ hi
def sAtom (a : Int32) : Prop := sIn a 0 5 ∨ sIn a 10 109
/-- a line as the text, or a mend, can make it -/
def sOk (l : Int32) : Prop := l = 4 ∨
  (l = sPack (sKind l) (sMade l) (sFirst l) (sSign l) (sSecond l) (sCount l) ∧ sAtom (sFirst l) ∧
    (((sKind l = 0 ∧ sIn (sMade l) 0 3 ∨ sKind l = 3 ∧ sMade l = -1) ∧ (sSign l = 0 ∧ sSecond l = -1 ∨ sIn (sSign l) 1 5 ∧ sAtom (sSecond l)) ∧ sCount l = 0) ∨
     ((sKind l = 1 ∨ sKind l = 2) ∧ sMade l = -1 ∧ sIn (sSign l) 6 8 ∧ sAtom (sSecond l) ∧ sIn (sCount l) 1 9)))
def sProg (p : List Int32) : Prop := p.length ≤ 10 ∧ ∀ l ∈ p, sOk l
def sVal (V : Nat → Int32) (x y a : Int32) : Int32 := if ¬ a < 0 ∧ a < 4 then V a.toNatClampNeg else if a = 4 then x else if a = 5 then y else a - 10
def sRest (R : Nat → Int32) (a : Int32) : Int32 := if ¬ a < 0 ∧ a < 4 then R a.toNatClampNeg else 0
def sSumL (a s b : Int32) : Int64 := if s = 1 then a.toInt64 + b.toInt64 else if s = 2 then a.toInt64 - b.toInt64 else if s = 3 then a.toInt64 * b.toInt64 else if s = 4 then a.toInt64 / b.toInt64 else if s = 5 then a.toInt64 - a.toInt64 / b.toInt64 * b.toInt64 else a.toInt64
def sSum (a s b : Int32) : Int32 := if (s = 4 ∨ s = 5) ∧ b.toInt64 = 0 then 2000001 else if 999999 < sSumL a s b ∨ sSumL a s b < -999999 then 2000002 else (sSumL a s b).toInt32
def sHolds (a s b : Int32) : Prop := if s = 6 then a < b else if s = 7 then b < a else a = b
def sUnder (R : Nat → Int32) (at' : Nat) (l : Int32) : Int32 := ((1 : Int32) <<< (nI at' &&& 31) ||| sRest R (sFirst l)) ||| sRest R (sSecond l)
def sUp (f : Nat → Int32) (m s : Int32) : Nat → Int32 := fun i => if i = m.toNatClampNeg then s else f i
/-- (is it at its end, END, SLICE, place, values, rests, tests) -/
abbrev sSt : Type := Bool × Int32 × Int32 × Nat × (Nat → Int32) × (Nat → Int32) × Int32
noncomputable def sStep (x y fl fv : Int32) (l : Int32) (at' : Nat) (V R : Nat → Int32) (T : Int32) : sSt :=
  haveI := Classical.propDecidable
  if sKind l = 4 then (false, 0, 0, at' + 1, V, R, T)
  else if sKind l = 1 ∨ sKind l = 2 then
    (false, 0, 0, if sHolds (sVal V x y (sFirst l)) (sSign l) (sVal V x y (sSecond l)) then (if sKind l = 1 then at' + 1 + (sCount l).toNatClampNeg else at' - (sCount l).toNatClampNeg) else at' + 1, V, R, T ||| sUnder R at' l)
  else
    let s := if sKind l = 0 ∧ nI at' = fl then fv else sSum (sVal V x y (sFirst l)) (sSign l) (sVal V x y (sSecond l))
    if sKind l = 3 ∨ 999999 < s then (true, s, T ||| sUnder R at' l, at', V, R, T)
    else (false, 0, 0, at' + 1, sUp V (sMade l) s, sUp R (sMade l) (sUnder R at' l ||| T), T)
/-- (END, the LINES done, how many, SLICE) -/
abbrev sRes : Type := Int32 × Int32 × Int32 × Int32
noncomputable def sRun (p : List Int32) (x y fl fv : Int32) : Nat → Nat → (Nat → Int32) → (Nat → Int32) → Int32 → Int32 → Int32 → sRes
  | 0, at', V, R, T, d, k => if at' < p.length then (2000003, d, k, T) else (V 0, d, k, T ||| R 0)
  | n + 1, at', V, R, T, d, k =>
    if at' < p.length then
      let z := sStep x y fl fv (p.getD at' 4) at' V R T
      if z.1 = true then (z.2.1, d ||| ((1 : Int32) <<< (nI at' &&& 31)), k + 1, z.2.2.1)
      else sRun p x y fl fv n z.2.2.2.1 z.2.2.2.2.1 z.2.2.2.2.2.1 z.2.2.2.2.2.2 (d ||| ((1 : Int32) <<< (nI at' &&& 31))) (k + 1)
    else (V 0, d, k, T ||| R 0)
noncomputable def sGo (p : List Int32) (x y fl fv : Int32) : sRes := sRun p x y fl fv 100 0 (fun _ => 0) (fun _ => 0) 0 0 0
/-- END of a RUN -/
noncomputable def sEnd (p : List Int32) (x y : Int32) : Int32 := (sGo p x y (-1) 0).1
noncomputable def sDone (p : List Int32) (x y : Int32) : Int32 := (sGo p x y (-1) 0).2.1
noncomputable def sMany (p : List Int32) (x y : Int32) : Int32 := (sGo p x y (-1) 0).2.2.1
noncomputable def sSlice (p : List Int32) (x y : Int32) : Int32 := (sGo p x y (-1) 0).2.2.2
/-- the class's program at t -/
def isP (h : jH) (t : Nat) (p : List Int32) : Prop := h t 1 = nI p.length ∧ p.length ≤ 10 ∧ ∀ i, i < p.length → h (t + 1) i = p.getD i 4
theorem isP.fr {F : jF} {h h' : jH} {t : Nat} {p : List Int32} (k : isP h t p) (f : jfr F h h') (h1 : jin F t 1 = false) (h2 : ∀ j, jin F (t + 1) j = false) : isP h' t p :=
  ⟨(f _ _ h1).trans k.1, k.2.1, fun i hi => (f _ _ (h2 i)).trans (k.2.2 i hi)⟩
/-- the reference's program, from place k of a row on -/
def isMP (w : Nat → Int32) (k : Nat) (p : List Int32) : Prop := w k = nI p.length ∧ p.length ≤ 10 ∧ ∀ i, i < p.length → ∀ j, j < 6 → w (k + 1 + 6 * i + j) = sFld (p.getD i 4) j
/-! small facts of steps -/
def sRel4 (f g : Nat → Int32) : Prop := ∀ i, i < 4 → f i = g i
theorem c4 {a : Int32} (h1 : ¬ a < 0) (h2 : a < 4) : a.toNatClampNeg < 4 := by
  obtain ⟨n, hn, rfl⟩ := nI_of h1
  rw [nI_clamp hn]
  exact (jn_lt hn (by decide)).mp h2
theorem sVal_rel {V V' : Nat → Int32} (h : sRel4 V V') (x y a : Int32) : sVal V x y a = sVal V' x y a := by
  unfold sVal
  split
  · next q => exact h _ (c4 q.1 q.2)
  · rfl
theorem sRest_rel {V V' : Nat → Int32} (h : sRel4 V V') (a : Int32) : sRest V a = sRest V' a := by
  unfold sRest
  split
  · next q => exact h _ (c4 q.1 q.2)
  · rfl
theorem sUp_rel {V V' : Nat → Int32} (h : sRel4 V V') (m s : Int32) : sRel4 (sUp V m s) (sUp V' m s) := by
  intro i hi
  unfold sUp
  split
  · rfl
  · exact h i hi
theorem sUnder_rel {V V' : Nat → Int32} (h : sRel4 V V') (n : Nat) (l : Int32) : sUnder V n l = sUnder V' n l := by unfold sUnder; rw [sRest_rel h, sRest_rel h]
