/-! Plain facts: frames (which slots of which cells may have changed), small numbers, loops. -/
abbrev jF : Type := List (Nat × Nat) × List (Nat × Nat × Nat)
def jin (F : jF) (k j : Nat) : Bool := F.1.any (fun r => Nat.ble r.1 k && Nat.ble k r.2) || F.2.any (fun r => Nat.beq r.1 k && (Nat.ble r.2.1 j && Nat.ble j r.2.2))
def jfr (F : jF) (h h' : jH) : Prop := ∀ k j, jin F k j = false → h' k j = h k j
def jsub (A B : jF) : Bool := A.1.all (fun a => B.1.any (fun b => Nat.ble b.1 a.1 && Nat.ble a.2 b.2)) && A.2.all (fun a => B.1.any (fun b => Nat.ble b.1 a.1 && Nat.ble a.1 b.2) || B.2.any (fun b => Nat.beq b.1 a.1 && (Nat.ble b.2.1 a.2.1 && Nat.ble a.2.2 b.2.2)))
theorem jin_iff {F : jF} {k j : Nat} : jin F k j = true ↔ (∃ r ∈ F.1, r.1 ≤ k ∧ k ≤ r.2) ∨ (∃ r ∈ F.2, r.1 = k ∧ r.2.1 ≤ j ∧ j ≤ r.2.2) := by
  simp only [jin, Bool.or_eq_true, List.any_eq_true, Bool.and_eq_true, Nat.ble_eq, Nat.beq_eq]
theorem jin_f {F : jF} {k j : Nat} : jin F k j = false ↔ (∀ r ∈ F.1, k < r.1 ∨ r.2 < k) ∧ (∀ r ∈ F.2, r.1 ≠ k ∨ j < r.2.1 ∨ r.2.2 < j) := by
  rw [← Bool.not_eq_true, jin_iff]
  constructor
  · intro h
    refine ⟨fun r hr => ?_, fun r hr => ?_⟩
    · have : ¬ (r.1 ≤ k ∧ k ≤ r.2) := fun q => h (Or.inl ⟨r, hr, q.1, q.2⟩)
      omega
    · have : ¬ (r.1 = k ∧ r.2.1 ≤ j ∧ j ≤ r.2.2) := fun q => h (Or.inr ⟨r, hr, q.1, q.2.1, q.2.2⟩)
      omega
  · rintro ⟨h1, h2⟩ (⟨r, hr, a, b⟩ | ⟨r, hr, a, b, c⟩)
    · have := h1 r hr; omega
    · have := h2 r hr; omega
theorem jsub_in {A B : jF} (hs : jsub A B = true) {k j : Nat} (h : jin A k j = true) : jin B k j = true := by
  simp only [jsub, Bool.and_eq_true, List.all_eq_true, List.any_eq_true, Bool.or_eq_true, Nat.ble_eq, Nat.beq_eq] at hs
  rw [jin_iff] at h ⊢
  rcases h with ⟨r, hr, h1, h2⟩ | ⟨r, hr, h1, h2, h3⟩
  · obtain ⟨b, hb, g1, g2⟩ := hs.1 r hr
    exact Or.inl ⟨b, hb, by omega, by omega⟩
  · rcases hs.2 r hr with ⟨b, hb, g1, g2⟩ | ⟨b, hb, g1, g2, g3⟩
    · exact Or.inl ⟨b, hb, by omega, by omega⟩
    · exact Or.inr ⟨b, hb, by omega, by omega, by omega⟩
theorem jfr.rf {F : jF} {h : jH} : jfr F h h := fun _ _ _ => rfl
theorem jfr.mono {A B : jF} {h h' : jH} (k : jfr A h h') (hs : jsub A B = true) : jfr B h h' := by
  intro a j hj
  refine k a j ?_
  cases hq : jin A a j with
  | false => rfl
  | true => rw [jsub_in hs hq] at hj; cases hj
theorem jfr.tr {A B C : jF} {h h1 h2 : jH} (k1 : jfr A h h1) (k2 : jfr B h1 h2) (a : jsub A C = true) (b : jsub B C = true) : jfr C h h2 := fun k j hj => ((k2.mono b) k j hj).trans ((k1.mono a) k j hj)
theorem jfr.tr2 {C : jF} {h h1 h2 : jH} (k1 : jfr C h h1) (k2 : jfr C h1 h2) : jfr C h h2 := fun k j hj => (k2 k j hj).trans (k1 k j hj)
theorem jfr.put {F : jF} {h h1 : jH} {r i : Nat} {x : Int32} (k1 : jfr F h h1) (hi : jin F r i = true) : jfr F h (jput h1 r i x) := by
  intro k j hj
  by_cases hk : k = r
  · subst hk
    by_cases hji : j = i
    · subst hji; rw [hi] at hj; cases hj
    · rw [jput_sl hji]; exact k1 k j hj
  · rw [jput_ne hk]; exact k1 k j hj
theorem jfr.cell {F : jF} {h h1 : jH} (k1 : jfr F h h1) {k : Nat} (hc : ∀ j, jin F k j = false) : h1 k = h k := funext fun j => k1 k j (hc j)
/-- a cell's row behind a write -/
theorem jput_eq {h : jH} {r j : Nat} {x : Int32} : jput h r j x r = fun i => if i = j then x else h r i := by funext i; simp [jput]
theorem jput_get {h : jH} {r j k i : Nat} {x : Int32} : jput h r j x k i = if k = r ∧ i = j then x else h k i := by
  unfold jput
  by_cases hk : k = r
  · subst hk; simp
  · simp [hk]
/-! numbers -/
theorem n0 : (0 : Int32) = nI 0 := rfl
theorem nI_lit (n : Nat) : (OfNat.ofNat n : Int32) = nI n := rfl
theorem jc_lt0 {n : Nat} (h : n < 2 ^ 31) : ¬ nI n < 0 := nI_pos h
theorem jc_nn {x : Int32} (h : ¬ x < 0) : ∃ n : Nat, n < 2 ^ 31 ∧ x = nI n := nI_of h
theorem jc_clamp {n : Nat} (h : n < 2 ^ 31) : (nI n).toNatClampNeg = n := nI_clamp h
theorem toInt_lt_iff {x y : Int32} : x < y ↔ x.toInt < y.toInt := Int32.lt_iff_toInt_lt
theorem toInt_le_iff {x y : Int32} : x ≤ y ↔ x.toInt ≤ y.toInt := Int32.le_iff_toInt_le
theorem toInt_eq_iff {x y : Int32} : x = y ↔ x.toInt = y.toInt := ⟨fun h => by rw [h], fun h => Int32.toInt_inj.mp h⟩
theorem toInt_rg (x : Int32) : -2147483648 ≤ x.toInt ∧ x.toInt < 2147483648 := ⟨Int32.le_toInt x, Int32.toInt_lt x⟩
theorem toInt_add' {x y : Int32} (h1 : -2147483648 ≤ x.toInt + y.toInt) (h2 : x.toInt + y.toInt < 2147483648) : (x + y).toInt = x.toInt + y.toInt := by
  rw [Int32.toInt_add]
  exact Int.bmod_eq_of_le (by omega) (by omega)
theorem toInt_sub' {x y : Int32} (h1 : -2147483648 ≤ x.toInt - y.toInt) (h2 : x.toInt - y.toInt < 2147483648) : (x - y).toInt = x.toInt - y.toInt := by
  rw [Int32.toInt_sub]
  exact Int.bmod_eq_of_le (by omega) (by omega)
theorem toInt_nn {x : Int32} (h : 0 ≤ x.toInt) : x = nI x.toInt.toNat := by
  have := toInt_rg x
  rw [toInt_eq_iff, nI_toInt (by omega)]
  omega
theorem jn_le {a b : Nat} (ha : a < 2 ^ 31) (hb : b < 2 ^ 31) : nI a ≤ nI b ↔ a ≤ b := nI_leI ha hb
theorem jn_lt {a b : Nat} (ha : a < 2 ^ 31) (hb : b < 2 ^ 31) : nI a < nI b ↔ a < b := nI_ltI ha hb
theorem jn_eq {a b : Nat} (ha : a < 2 ^ 31) (hb : b < 2 ^ 31) : nI a = nI b ↔ a = b := nI_eq ha hb
/-! contracts: from a walk -/
theorem jint_mono {sc : Nat × (Nat → Int32)} {P P' : Int32 → jH → Prop} (hp : ∀ x h, P x h → P' x h) {o : jO} {Γ : jS} {h : jH} (q : jint sc P o Γ h) : jint sc P' o Γ h := by
  obtain ⟨x, a, b, c⟩ := q
  exact ⟨x, a, b, hp x h c⟩
theorem jM_mono {M : jM} {av : List Value} {Γ : jS} {h : jH} {Q Q' : jQ} (k : JM M av Γ h Q) (hq : ∀ o Γ' h', Q o Γ' h' → Q' o Γ' h') : JM M av Γ h Q' := by
  intro l hl G p e ha hc hk s m args below hf happ hP hK
  obtain ⟨n, o, h1, h2, h3, h4⟩ := k l hl G p e ha hc hk s m args below hf happ hP hK
  refine ⟨n, o, h1, h2, h3, ?_⟩
  rcases h4 with ⟨⟨⟨r, Γ', h', a1, a2, a3⟩, a4⟩, a5⟩ | ⟨q, a1, E, ce, L, ⟨⟨Γ', h', b1, b2⟩, b3⟩, b4⟩
  · exact Or.inl ⟨⟨⟨r, Γ', h', a1, hq _ _ _ a2, a3⟩, a4⟩, a5⟩
  · exact Or.inr ⟨q, a1, E, ce, L, ⟨⟨Γ', h', hq _ _ _ b1, b2⟩, b3⟩, b4⟩
theorem jM_int {M : jM} {av : List Value} {sc : Nat × (Nat → Int32)} {h : jH} {P P' : Int32 → jH → Prop} (k : JM M av (jG0 sc) h (jint sc P)) (hp : ∀ x h', P x h' → P' x h') : JM M av (jG0 sc) h (jint sc P') := jM_mono k (fun _ _ _ q => jint_mono hp q)
theorem jM_void {M : jM} {av : List Value} {sc : Nat × (Nat → Int32)} {h : jH} {P P' : jH → Prop} (k : JM M av (jG0 sc) h (jvoid sc P)) (hp : ∀ h', P h' → P' h') : JM M av (jG0 sc) h (jvoid sc P') := jM_mono k (fun _ _ _ q => ⟨q.1, q.2.1, hp _ q.2.2⟩)
theorem jM_get {M : jM} {av : List Value} {sc : Nat × (Nat → Int32)} {h : jH} {f : Int32} {K : jH → Prop} (k : JM M av (jG0 sc) h (jint sc (fun x h' => x = f ∧ h = h'))) (hK : K h) : JM M av (jG0 sc) h (jint sc (fun x h' => x = f ∧ K h')) := jM_int k (fun _ _ q => ⟨q.1, by rw [← q.2]; exact hK⟩)
