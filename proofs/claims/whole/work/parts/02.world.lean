/-! The world: all objects and arrays of the class, of the reference and of the law lie at base, base + 1, ..; a shape (how many, kinds, lengths, references) and a heap of ints. -/
abbrev jG : Type := va_G × (Nat → ClassId) × Nat × (Nat → Nat) × (Nat × (Nat → Int32))
def jA (G : jG) : Nat → Prop := fun q => G.2.2.1 ≤ q
def jad (G : jG) (k : Nat) : Nat := if k < 1000 then G.2.2.1 + k else G.2.2.2.1 (k - 1000)
def jmv (G : jG) (v : Value) : Value := match v with
  | .ref a => .ref (jad G a)
  | w => w
abbrev jS : Type := Nat × Bool × (Nat → Nat) × (Nat → Nat) × (Nat → Nat → Option Nat) × (Nat × (Nat → Int32))
abbrev jH : Type := Nat → Nat → Int32
abbrev jN (Γ : jS) : Nat := Γ.1
abbrev jFr (Γ : jS) : Bool := Γ.2.1
abbrev jK (Γ : jS) : Nat → Nat := Γ.2.2.1
abbrev jL (Γ : jS) : Nat → Nat := Γ.2.2.2.1
abbrev jR (Γ : jS) : Nat → Nat → Option Nat := Γ.2.2.2.2.1
abbrev jSc (Γ : jS) : Nat × (Nat → Int32) := Γ.2.2.2.2.2
/-- is slot j of a cell of this kind a reference -/
def jrefs (k j : Nat) : Bool := match k with
  | 0 => true
  | 1 => j == 0
  | 2 => true
  | 3 => Nat.blt j 6
  | 4 => j == 0
  | 5 => Nat.blt j 3
  | 6 => Nat.blt j 7
  | 7 => Nat.blt j 2
  | 8 => j == 0
  | 9 => j == 0 || j == 6 || j == 7 || j == 8
  | 10 => Nat.blt j 2
  | 11 => !(j == 1 || j == 6)
  | 12 => j == 1 || j == 2 || j == 4 || j == 11 || j == 12 || (Nat.ble 14 j && Nat.blt j 19) || (Nat.ble 22 j && Nat.blt j 26) || j == 27 || (Nat.ble 29 j && Nat.blt j 33)
  | 15 => true
  | _ => false
def jslot (Γ : jS) (h : jH) (k j : Nat) : Value :=
  if jrefs (jK Γ k) j = true then (match jR Γ k j with | some a => .ref a | none => .null) else if jK Γ k = 16 then .long (h k j).toInt64 else .int (h k j)
def jty (k : Nat) : Option FieldType := match k with
  | 13 => some .byte
  | 14 => some .int
  | 15 => some (.object "MendBench$Program")
  | 16 => some .long
  | _ => none
def jAt (G : jG) (Γ : jS) (h : jH) (H : Heap) (k : Nat) : Prop :=
  (∃ r : vw_C, vwCl[jK Γ k]? = some r ∧ t_OB (G.2.2.1 + k) (G.1.1 (jK Γ k)) r.2.2 (G.1.2 (jK Γ k)) H (fun j => jmv G (jslot Γ h k j))) ∨
  (13 ≤ jK Γ k ∧ (∃ ty, jty (jK Γ k) = some ty) ∧ H[G.2.2.1 + k]? = some (arrV (G.2.1 (jK Γ k)) (jL Γ k) (fun j => jmv G (jslot Γ h k j))))
def jP (G : jG) (Γ : jS) (h : jH) (H : Heap) : Prop := (∀ k, k < jN Γ → jAt G Γ h H k) ∧ G.2.2.1 + jN Γ ≤ H.size ∧ jN Γ ≤ 1000 ∧ (jFr Γ = true → H.size = G.2.2.1 + jN Γ) ∧ G.2.2.2.2 = jSc Γ
/-- the words of the nest, the String constants -/
def jNk (w : Cond) : Bool := match w with
  | .fieldLinkNest .. => true
  | .methodLinkNest .. => true
  | .declares .. => true
  | .castable .. => true
  | _ => false
def jNest : List Cond := lw_tbl.filter jNk
def jU : List Cond := lw_tbl.filter goodWord
theorem jU_mem {w : Cond} (h : w ∈ lw_tbl) (hg : goodWord w = true) : w ∈ jU := List.mem_filter.mpr ⟨h, hg⟩
def jStr : List (String × Nat × String × Nat) := [("MendBench$BodyReade\x72", 44, "set", 1), ("MendBench$BodyReade\x72", 67, "abcd", 2), ("MendBench$BodyReade\x72", 98, "abcdxy", 3), ("MendBench$BodyReade\x72", 53, "skip", 4), ("MendBench$BodyReade\x72", 96, "if", 5), ("MendBench$BodyReade\x72", 59, "back", 6), ("MendBench$BodyReade\x72", 61, "end", 7), ("MendBench", 112, "the text is no BODY", 23), ("MendBench$LawReade\x72", 58, "not", 8), ("MendBench$LawReade\x72", 87, "rxy", 9), ("MendBench$LawReade\x72", 56, "and", 10), ("MendBench$LawReade\x72", 40, "o\x72", 11), ("MendBench", 138, "the text is no LAW", 24), ("MendBench", 163, "no such input", 25), ("MendBench", 167, "no such numbe\x72", 26), ("MendBench", 178, "there are 12 RUNS", 27), ("MendBench", 205, "there is no such BODY", 28), ("MendBench", 210, "no such RUN", 29), ("MendBench", 217, "there is no BODY", 30), ("MendBench", 236, "no such what", 31), ("MendBench", 239, "no such LINE", 32), ("MendBench", 285, "no such MEND", 33), ("MendBench", 317, "not 0 to 400", 34), ("MendBench", 329, "no such kept ALIVE one", 35), ("MendBench", 341, "no such form", 36), ("MendBench", 349, "no such BOX", 37), ("MendBench", 375, "there is no LAW", 38), ("MendBench", 397, "there is no BODY, or no SECOND", 39), ("MendBench", 431, "no such ROW", 40), ("MendBenchModel", 130, "set", 12), ("MendBenchModel", 132, "skip", 13), ("MendBenchModel", 134, "back", 14), ("MendBenchModel", 136, "end", 15), ("MendBenchModel", 140, "if", 16), ("MendBenchModel", 184, "not", 17), ("MendBenchModel", 167, "\x72", 18), ("MendBenchModel", 169, "x", 19), ("MendBenchModel", 171, "y", 20), ("MendBenchModel", 195, "and", 21), ("MendBenchModel", 200, "o\x72", 22)]
/-- the texts that are read, by number - 1: lengths and bytes -/
def jTxt : List (List Int32) := [[115, 101, 116], [97, 98, 99, 100], [97, 98, 99, 100, 120, 121], [115, 107, 105, 112], [105, 102], [98, 97, 99, 107], [101, 110, 100], [110, 111, 116], [114, 120, 121], [97, 110, 100], [111, 114], [115, 101, 116], [115, 107, 105, 112], [98, 97, 99, 107], [101, 110, 100], [105, 102], [110, 111, 116], [114], [120], [121], [97, 110, 100], [111, 114]]
def jTxtL : List Nat := [3, 4, 6, 4, 2, 4, 3, 3, 3, 3, 2, 3, 4, 4, 3, 2, 3, 1, 1, 1, 3, 2]
/-- exceptions, none of them one of another's class -/
def jXn : List String := ["java/lang/IllegalArgumentException", "java/lang/IllegalStateException", "java/lang/IndexOutOfBoundsException", "java/lang/UnsupportedOperationException", "java/util/NoSuchElementException"]
/-- the read texts' cells (two of one text are one cell) -/
def jSt (G : jG) (s : State) (H : Heap) : Prop := (∀ i : Nat, i < 22 → va_O "java/lang/String" (G.2.2.2.1 (i + 1)) (jA G) s H ∧ va_OF "java/lang/String" "coder" "B" (.int 0) (G.2.2.2.1 (i + 1)) (jA G) s H ∧ va_OF "java/lang/String" "value" "[B" (.ref (G.2.2.2.1 (i + 501))) (G.2.2.2.1 (i + 1)) (jA G) s H ∧ va_T .byte (G.2.2.2.1 (i + 501)) (jTxtL.getD i 0) (fun j => .int ((jTxt.getD i []).getD j 0)) (jA G) s H) ∧ True
theorem jSt.moved {G : jG} {u U : State} {H : Heap} (hvm : u.vm.Alike U.vm) (h : jSt G u H) : jSt G U H :=
  ⟨fun i hi => ⟨va_O.moved hvm (h.1 i hi).1, va_OF.moved hvm (h.1 i hi).2.1, va_OF.moved hvm (h.1 i hi).2.2.1, va_T.moved hvm (h.1 i hi).2.2.2⟩, trivial⟩
theorem jSt.kept {G : jG} {U : State} {H H1 : Heap} (h : jSt G U H) (hq : ∀ a : Nat, a < H.size → ¬ jA G a → H1[a]? = H[a]?) : jSt G U H1 :=
  ⟨fun i hi => ⟨(h.1 i hi).1.kept hq, (h.1 i hi).2.1.kept hq, (h.1 i hi).2.2.1.kept hq, (h.1 i hi).2.2.2.kept hq⟩, trivial⟩
/-- what the start's tables and cells below the base hold -/
def jE (G : jG) (s : State) (H : Heap) : Prop :=
  (∀ (c : Nat) (q : vw_C), vwCl[c]? = some q → u_Kn s q.1 q.2.1 q.2.2 (G.1.1 c) (G.1.2 c)) ∧
  (∀ (k : Nat) (ty : FieldType), jty k = some ty → ArrOfT s (G.2.1 k) ty ∧ va_RA s (G.2.1 k) ty) ∧
  ((∀ w ∈ jNest, va_Nw w s) ∧ (∀ a ∈ jXn, ∀ b ∈ jXn, a ≠ b → va_Nc a b s) ∧ va_AO "MendBench$Program" s) ∧
  (∀ q ∈ jStr, vk_R q.1 q.2.1 q.2.2.1 (G.2.2.2.1 q.2.2.2) s) ∧
  jSt G s H ∧
  (vx_Zq Bundle.tN "UNASSIGNED_STACK" Bundle.steD (jA G) s H ∧ vx_Zq Bundle.tN "SUPPRESSED_SENTINEL" Bundle.listD (jA G) s H) ∧
  (va_Z "java/lang/String" "COMPACT_STRINGS" "Z" (.int 1) (jA G) s H ∧ (va_Z "jdk/internal/util/Preconditions" "SIOOBE_FORMATTER" "Ljava/util/function/BiFunction;" .null (jA G) s H ∨ va_Z "jdk/internal/util/Preconditions" "SIOOBE_FORMATTER" "Ljava/util/function/BiFunction;" (.ref (G.2.2.2.1 999)) (jA G) s H)) ∧
  (va_X (G.2.2.2.1 0) G.2.2.2.2.1 G.2.2.2.2.2 s H ∧ ¬ jA G (G.2.2.2.1 0) ∧ G.2.2.2.1 0 < H.size)
theorem jE.kept {G : jG} {s : State} {H H1 : Heap} (h : jE G s H) (hz : H.size ≤ H1.size) (hq : ∀ a : Nat, a < H.size → ¬ jA G a → H1[a]? = H[a]?) : jE G s H1 := by
  obtain ⟨h1, h2, h3, h4, h5, ⟨h6, h7⟩, ⟨h8, h12⟩, h9, h10, h11⟩ := h
  exact ⟨h1, h2, h3, h4, h5.kept hq, ⟨h6.kept hq, h7.kept hq⟩, ⟨h8.kept hq, h12.imp (fun z => z.kept hq) (fun z => z.kept hq)⟩, h9.kept (hq _ h11 h10), h10, Nat.lt_of_lt_of_le h11 hz⟩
theorem jE.moved {G : jG} {s U : State} {H : Heap} (hW : s.WarmedH U.vm) (h : jE G s H) : jE G U H := by
  obtain ⟨h1, h2, h3, h4, h5, ⟨h6, h7⟩, ⟨h8, h12⟩, h9, h10, h11⟩ := h
  have hA := hW.alike
  refine ⟨fun c q hc => u_Kn_moved hA (h1 c q hc), fun k ty hk => ⟨arrOfT_moved hA (h2 k ty hk).1, (h2 k ty hk).2.moved hA⟩, ⟨fun w hw => ?_, fun a ha b hb hn => (h3.2.1 a ha b hb hn).moved hA, h3.2.2.moved hA⟩, fun q hq => vk_R.warm hW (h4 q hq), h5.moved hA, ⟨h6.moved hA, h7.moved hA⟩, ⟨h8.moved hA, h12.imp (fun z => z.moved hA) (fun z => z.moved hA)⟩, h9.moved hA, h10, h11⟩
  have hm := (List.mem_filter.mp hw).2
  have h0 := h3.1 w hw
  cases w <;> first | exact va_Nw.warmF hW h0 | exact va_Nw.warmM hW h0 | exact va_Nw.warmD hW h0 | exact va_Nw.warmC hW h0 | (exfalso; revert hm; simp [jNk])
theorem jE.same {G : jG} {s U : State} {H : Heap} (hv : U.vm = s.vm) (h : jE G s H) : jE G U H := by
  obtain ⟨h1, h2, h3, h4, h5, ⟨h6, h7⟩, ⟨h8, h12⟩, h9, h10, h11⟩ := h
  have hA : s.vm.Alike U.vm := by rw [hv]; exact Vm.Alike.refl _
  refine ⟨fun c q hc => u_Kn_moved hA (h1 c q hc), fun k ty hk => ⟨arrOfT_moved hA (h2 k ty hk).1, (h2 k ty hk).2.moved hA⟩, ⟨fun w hw => ?_, fun a ha b hb hn => (h3.2.1 a ha b hb hn).moved hA, h3.2.2.moved hA⟩, fun q hq => vk_R.same hv (h4 q hq), h5.moved hA, ⟨h6.moved hA, h7.moved hA⟩, ⟨h8.moved hA, h12.imp (fun z => z.moved hA) (fun z => z.moved hA)⟩, h9.moved hA, h10, h11⟩
  have hm := (List.mem_filter.mp hw).2
  have h0 := h3.1 w hw
  cases w <;> first | exact va_Nw.same rfl hv.symm h0 | (exfalso; revert hm; simp [jNk])
theorem jmv_cat (G : jG) (v : Value) : (jmv G v).category = v.category := by cases v <;> rfl
