/-! What the bench holds, and how the class and the reference hold it. -/
/-- a mend: its form, its line, the line that it makes -/
abbrev sMd : Type := Int32 × Nat × Int32
def sWithMade (l v : Int32) : Int32 := (l &&& (-57 : Int32)) ||| ((v + 1) <<< 3)
def sWithFirst (l v : Int32) : Int32 := (l &&& (-8129 : Int32)) ||| ((v + 1) <<< 6)
def sWithSign (l v : Int32) : Int32 := (l &&& (-122881 : Int32)) ||| (v <<< 13)
def sWithSecond (l v : Int32) : Int32 := (l &&& (-16646145 : Int32)) ||| ((v + 1) <<< 17)
def sWithCount (l v : Int32) : Int32 := (l &&& (-251658241 : Int32)) ||| (v <<< 24)
/-- the numbers lo, lo + 1, .., each that is not x -/
def sEach (lo : Int32) (n : Nat) (x : Int32) : List Int32 := ((List.range n).map (fun i => lo + nI i)).filter (fun v => decide (v ≠ x))
def sNamesF (l : Int32) : List Int32 := if ¬ sFirst l < 0 ∧ sFirst l < 6 then (sEach 0 6 (sFirst l)).map (sWithFirst l) else []
def sNamesS (l : Int32) : List Int32 := if ¬ sSecond l < 0 ∧ sSecond l < 6 then (sEach 0 6 (sSecond l)).map (sWithSecond l) else []
def sNamesM (l : Int32) : List Int32 := if sKind l = 0 then (sEach 0 4 (sMade l)).map (sWithMade l) else []
def sSigns (l : Int32) : List Int32 := if sSign l = 0 then [] else if sSign l < 6 then (sEach 1 5 (sSign l)).map (sWithSign l) else (sEach 6 3 (sSign l)).map (sWithSign l)
/-- one less, one more, from lo to hi -/
def sBeside (lo hi x : Int32) : List Int32 := (if lo < x then [x - 1] else []) ++ (if x < hi then [x + 1] else [])
def sBoundF (l : Int32) : List Int32 := if sFirst l < 10 then [] else (sBeside 10 109 (sFirst l)).map (sWithFirst l)
def sBoundS (l : Int32) : List Int32 := if sSecond l < 10 then [] else (sBeside 10 109 (sSecond l)).map (sWithSecond l)
def sBoundC (l : Int32) : List Int32 := if 0 < sCount l then (sBeside 1 9 (sCount l)).map (sWithCount l) else []
def sAhead (l : Int32) : List (Int32 × Int32) := ((sNamesF l).map (fun z => (0, z))) ++ ((sNamesS l).map (fun z => (0, z))) ++ ((sNamesM l).map (fun z => (0, z))) ++ ((sSigns l).map (fun z => (1, z))) ++ ((sBoundF l).map (fun z => (2, z))) ++ ((sBoundS l).map (fun z => (2, z))) ++ ((sBoundC l).map (fun z => (2, z))) ++ (if l = 4 then [] else [(3, 4)])
def sMove (p : List Int32) (n : Nat) : List (Int32 × Int32) := if n + 1 < p.length ∧ p.getD (n + 1) 4 ≠ p.getD n 4 then [(4, p.getD n 4)] else []
def sGraft (p : List Int32) (n : Nat) : List (Int32 × Int32) := (p.filter (fun z => decide (z ≠ p.getD n 4))).map (fun z => (5, z))
def sMendsAt (p : List Int32) (n : Nat) : List sMd := (sAhead (p.getD n 4) ++ sMove p n ++ sGraft p n).map (fun q => (q.1, n, q.2))
def sMends (p : List Int32) : List sMd := (List.range p.length).flatMap (sMendsAt p)
def sMd0 : sMd := (0, 0, 0)
/-- a program as by a mend of the program p0 -/
def sChange (p0 : List Int32) (m : sMd) (p : List Int32) : List Int32 := if m.1 = 4 then (p.set m.2.1 (p0.getD (m.2.1 + 1) 4)).set (m.2.1 + 1) (p0.getD m.2.1 4) else p.set m.2.1 m.2.2
def sCan (ms : List sMd) (a b : Nat) : Bool := decide ((ms.getD a sMd0).2.1 ≠ (ms.getD b sMd0).2.1) && decide ((ms.getD a sMd0).1 ≠ 4) && decide ((ms.getD b sMd0).1 ≠ 4)
def sPairsOf (ms : List sMd) (a : Nat) : List (Nat × Option Nat) := ((List.range ms.length).filter (fun b => decide (a < b) && sCan ms a b)).map (fun b => (a, some b))
def sPairs (ms : List sMd) : List (Nat × Option Nat) := (List.range ms.length).flatMap (sPairsOf ms)
/-- all mends: single ones, then double ones -/
def sAll (ms : List sMd) : List (Nat × Option Nat) := (List.range ms.length).map (fun a => (a, none)) ++ sPairs ms
def sBy (p : List Int32) (q : Nat × Option Nat) : List Int32 := match q.2 with
  | none => sChange p ((sMends p).getD q.1 sMd0) p
  | some b => sChange p ((sMends p).getD b sMd0) (sChange p ((sMends p).getD q.1 sMd0) p)
/-- a program as by mend k of it (as it is, if there is none such) -/
def sShape (p : List Int32) (k : Nat) : List Int32 := match (sAll (sMends p))[k]? with
  | none => p
  | some q => sBy p q
/-! the state -/
abbrev aRun : Type := Int32 × Int32 × Int32
abbrev aRow : Type := Int32 × Int32 × Int32
/-- kept, tried, alive in all, pleased, barred, rows -/
abbrev aT : Type := List Nat × Nat × Int32 × Int32 × Int32 × List aRow
/-- body, second, runs, law, tries, taught, made, box -/
abbrev aS : Type := List Int32 × List Int32 × List aRun × List Int32 × aT × (Nat → Int32) × List (List Int32) × Nat
abbrev aBody (S : aS) : List Int32 := S.1
abbrev aSecond (S : aS) : List Int32 := S.2.1
abbrev aRuns (S : aS) : List aRun := S.2.2.1
abbrev aLaw (S : aS) : List Int32 := S.2.2.2.1
abbrev aTr (S : aS) : aT := S.2.2.2.2.1
abbrev aTaught (S : aS) : Nat → Int32 := S.2.2.2.2.2.1
abbrev aMade (S : aS) : List (List Int32) := S.2.2.2.2.2.2.1
abbrev aBox (S : aS) : Nat := S.2.2.2.2.2.2.2
abbrev tKept (T : aT) : List Nat := T.1
abbrev tTried (T : aT) : Nat := T.2.1
abbrev tAll (T : aT) : Int32 := T.2.2.1
abbrev tPleased (T : aT) : Int32 := T.2.2.2.1
abbrev tBarred (T : aT) : Int32 := T.2.2.2.2.1
abbrev tRows (T : aT) : List aRow := T.2.2.2.2.2
def aRun0 : aRun := (0, 0, 0)
def aOkRun (r : aRun) : Prop := sIn r.1 0 15 ∧ sIn r.2.1 0 15 ∧ sIn r.2.2 (-999999) 999999
/-- the class's runs at t -/
def isRuns (h : jH) (t : Nat) (rs : List aRun) : Prop := h t 3 = nI rs.length ∧ ∀ i, i < rs.length → h (t + 1) i = (rs.getD i aRun0).1 ∧ h (t + 2) i = (rs.getD i aRun0).2.1 ∧ h (t + 3) i = (rs.getD i aRun0).2.2
/-- the reference's -/
def isMRuns (w : Nat → Int32) (rs : List aRun) : Prop := w 122 = nI rs.length ∧ ∀ i, i < rs.length → w (123 + 3 * i) = (rs.getD i aRun0).1 ∧ w (123 + 3 * i + 1) = (rs.getD i aRun0).2.1 ∧ w (123 + 3 * i + 2) = (rs.getD i aRun0).2.2
def isLaw (h : jH) (t : Nat) (ls : List Int32) : Prop := h t 1 = nI ls.length ∧ ∀ i, i < ls.length → h (t + 1) i = ls.getD i 0
/-- a code's steps -/
def sAtomStep (a : Int32) : Int32 × Int32 := if a = 0 then (1, 0) else if a = 1 then (2, 0) else if a = 2 then (3, 0) else (0, a - 10)
def sSteps (c : Int32) : List (Int32 × Int32) := if c = -1 then [(8, 0)] else if c = -2 then [(9, 0)] else if c = -3 then [(7, 0)] else [sAtomStep (c &&& 16383), sAtomStep ((c >>> 14) &&& 16383), ((4 : Int32) + ((c >>> 28) &&& 3), 0)]
def sAllSteps (ls : List Int32) : List (Int32 × Int32) := ls.flatMap sSteps
def isMLaw (w : Nat → Int32) (ls : List Int32) : Prop := w 653 = nI (sAllSteps ls).length ∧ ∀ i, i < (sAllSteps ls).length → w (654 + 2 * i) = ((sAllSteps ls).getD i (0, 0)).1 ∧ w (654 + 2 * i + 1) = ((sAllSteps ls).getD i (0, 0)).2
def isTries (h : jH) (t : Nat) (T : aT) : Prop := h t 1 = nI (tKept T).length ∧ (∀ i, i < (tKept T).length → h (t + 1) i = nI ((tKept T).getD i 0)) ∧ h t 2 = nI (tTried T) ∧ h t 3 = tAll T ∧ h t 4 = tPleased T ∧ h t 5 = tBarred T ∧ h t 9 = nI (tRows T).length ∧
  ∀ i, i < (tRows T).length → h (t + 2) i = ((tRows T).getD i aRun0).1 ∧ h (t + 3) i = ((tRows T).getD i aRun0).2.1 ∧ h (t + 4) i = ((tRows T).getD i aRun0).2.2
/-- what the reference keeps of a kept one -/
def sParts (p : List Int32) (k : Nat) : Int32 × Int32 := match (sAll (sMends p))[k]? with
  | none => (0, 0)
  | some (a, none) => (nI a, -1)
  | some (a, some b) => (nI a, nI b)
def isMTries (w : Nat → Int32) (p : List Int32) (T : aT) : Prop := w 163 = nI (tKept T).length ∧ (∀ i, i < (tKept T).length → w (164 + 3 * i) = nI ((tKept T).getD i 0) ∧ w (164 + 3 * i + 1) = (sParts p ((tKept T).getD i 0)).1 ∧ w (164 + 3 * i + 2) = (sParts p ((tKept T).getD i 0)).2) ∧
  w 159 = nI (tTried T) ∧ w 160 = tAll T ∧ w 161 = tPleased T ∧ w 162 = tBarred T ∧ w 254 = nI (tRows T).length ∧
  ∀ i, i < (tRows T).length → w (255 + 3 * i) = ((tRows T).getD i aRun0).1 ∧ w (255 + 3 * i + 1) = ((tRows T).getD i aRun0).2.1 ∧ w (255 + 3 * i + 2) = ((tRows T).getD i aRun0).2.2
def isMade (h : jH) (t : Nat) (ps : List (List Int32)) : Prop := h t 7 = nI ps.length ∧ ∀ i, i < ps.length → isP h (t + 18 + 2 * i) (ps.getD i [])
def isMMade (w : Nat → Int32) (ps : List (List Int32)) : Prop := w 286 = nI ps.length ∧ ∀ i, i < ps.length → isMP w (287 + 61 * i) (ps.getD i [])
/-- the class's state at t -/
def rC (h : jH) (t : Nat) (S : aS) : Prop := isP h (t + 1) (aBody S) ∧ isP h (t + 3) (aSecond S) ∧ isRuns h (t + 5) (aRuns S) ∧ isLaw h (t + 9) (aLaw S) ∧ isTries h (t + 11) (aTr S) ∧ (∀ i, i < 6 → h (t + 16) i = aTaught S i) ∧ isMade h t (aMade S) ∧ h t 8 = nI (aBox S)
/-- the reference's in a row -/
def rM (w : Nat → Int32) (S : aS) : Prop := isMP w 0 (aBody S) ∧ isMP w 61 (aSecond S) ∧ isMRuns w (aRuns S) ∧ isMLaw w (aLaw S) ∧ isMTries w (aBody S) (aTr S) ∧ (∀ i, i < 6 → w (279 + i) = aTaught S i) ∧ isMMade w (aMade S) ∧ w 285 = nI (aBox S)
