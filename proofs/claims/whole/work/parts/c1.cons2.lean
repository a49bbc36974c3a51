/-! The readers' constructors: an object made in a constructor. -/
section CONS2
variable {sc : Nat × (Nat → Int32)} {h : jH} {t : Nat} {S : List (Nat × Nat × Nat)}
theorem slotN {Γ : jS} {N ci j : Nat} (hk : jK Γ N = ci) (h16 : ci ≠ 16) (hr : ∀ i, jR Γ N i = none) (hz : ∀ j, h N j = 0) : jslot Γ h N j = if jrefs ci j = true then .null else .int 0 := by
  unfold jslot
  rw [hk, hr j, hz j, if_neg h16]
theorem d4_new : ∀ j, j < jTN 4 → (if jrefs 4 j = true then Value.null else .int 0) = defaultValue (jTy 4 j) := fun j hj => by
  match j, hj with
  | 0, _ => rfl
  | 1, _ => rfl
theorem d1_new : ∀ j, j < jTN 1 → (if jrefs 1 j = true then Value.null else .int 0) = defaultValue (jTy 1 j) := fun j hj => by
  match j, hj with
  | 0, _ => rfl
  | 1, _ => rfl
def nX0 : jM := (yX0_init, cX0_init, 1, none, 3, 2, 12, [], 0)
theorem knX0 : jlk (jcw nX0) := jlkT (jtb1 73 rfl) rfl
theorem snX0 : ∀ w ∈ ([.instanceMethod (mY nX0), .initialized (mY nX0).cls] : List Cond), jlk w := j2 (jlkT (jtb1 72 rfl) rfl) (jlkT (jtb1 3 rfl) rfl)
theorem nX0_ok (lt : t + 3 < 1000) (k0 : jKt.getD t 99 = 0) (k1 : jKt.getD (t + 1) 99 = 4) (k2 : jKt.getD (t + 1 + 1) 99 = 14) (l2 : jLt.getD (t + 1 + 1) 0 = 10) (hz : ∀ c, t < c → ∀ j, h c j = 0) (hS : ∀ x i, t < x → jFind S x i = none) :
    JM nX0 [.ref t] (jW (t + 1) S sc) h (jmade sc (t + 3) ((t, 0, t + 1) :: (t + 1, 0, t + 1 + 1) :: S) h) := by
  refine jM_of rfl (Nat.le_of_ble_eq_true rfl) (by decide +kernel) rfl ?_
  refine j_aload_n (i := 0) rfl (by decide +kernel) ?_
  refine j_obj (idx := 3) (jlkT (jtb1 74 rfl) rfl) (by decide) (by decide +kernel) ?_
  refine j_aload_n (i := 0) rfl (by decide +kernel) ?_
  refine j_new (idx := 9) (ci := 4) (by decide) rfl (by show t + 1 < 1000; omega) k1 (fun j hj => (slotN k1 (by decide) (fun i => hS _ _ (by show t < t + 1; omega)) (fun j => hz _ (by show t < t + 1; omega) j)).trans (d4_new j hj)) (jlkT (jtb1 75 rfl) rfl) (jlkT (jtb1 76 rfl) rfl) (jlkT (jtb1 4 rfl) rfl) ⟨by decide, by decide⟩ (by decide +kernel) ?_
  refine j_dup rfl (by decide +kernel) ?_
  refine j_callIN (M' := nX4) (As := []) (r := t + 1) (n := 0) (nX4_ok (t := t + 1) (S := S) (by omega) k1 k2 l2 (fun c hc j => hz c (by omega) j)) jmade_nt (jTbl (jtb1 77 rfl)) snX4 knX4 rfl rfl rfl ⟨by decide +kernel, by decide +kernel, by decide +kernel⟩ rfl ⟨by decide, by decide⟩ (Nat.le_of_ble_eq_true rfl) ⟨by decide, by decide⟩ (by decide +kernel) ?_
  rintro r0 _ _ ⟨e, rfl, rfl⟩
  cases e
  refine j_putR (idx := 12) (ci := 0) (k := 0) (r := t) (a := t + 1) (show (0, 12, 0, 0, false) ∈ jFT by decide) rfl rfl rfl rfl (fun _ => rfl) (fun _ => rfl) (by show t < t + 1 + 1 + 1; omega) k0 (by decide +kernel) ?_
  exact j_vret rfl (by decide) (by decide) (by decide +kernel) ⟨rfl, rfl, rfl⟩
def nX2 : jM := (yX2_init, cX2_init, 1, none, 3, 2, 402, [], 2)
theorem knX2 : jlk (jcw nX2) := jlkT (jtb1 101 rfl) rfl
theorem snX2 : ∀ w ∈ ([.instanceMethod (mY nX2), .initialized (mY nX2).cls] : List Cond), jlk w := j2 (jlkT (jtb1 100 rfl) rfl) (jlkT (jtb1 5 rfl) rfl)
theorem nX2_ok (lt : t + 3 < 1000) (k0 : jKt.getD t 99 = 2) (k1 : jKt.getD (t + 1) 99 = 1) (k2 : jKt.getD (t + 1 + 1) 99 = 14) (l2 : jLt.getD (t + 1 + 1) 0 = 400) (hz : ∀ c, t < c → ∀ j, h c j = 0) (hS : ∀ x i, t < x → jFind S x i = none) :
    JM nX2 [.ref t] (jW (t + 1) S sc) h (jmade sc (t + 3) ((t, 0, t + 1) :: (t + 1, 0, t + 1 + 1) :: S) h) := by
  refine jM_of rfl (Nat.le_of_ble_eq_true rfl) (by decide +kernel) rfl ?_
  refine j_aload_n (i := 0) rfl (by decide +kernel) ?_
  refine j_obj (idx := 3) (jlkT (jtb1 102 rfl) rfl) (by decide) (by decide +kernel) ?_
  refine j_aload_n (i := 0) rfl (by decide +kernel) ?_
  refine j_new (idx := 9) (ci := 1) (by decide) rfl (by show t + 1 < 1000; omega) k1 (fun j hj => (slotN k1 (by decide) (fun i => hS _ _ (by show t < t + 1; omega)) (fun j => hz _ (by show t < t + 1; omega) j)).trans (d1_new j hj)) (jlkT (jtb1 103 rfl) rfl) (jlkT (jtb1 104 rfl) rfl) (jlkT (jtb1 6 rfl) rfl) ⟨by decide, by decide⟩ (by decide +kernel) ?_
  refine j_dup rfl (by decide +kernel) ?_
  refine j_callIN (M' := nX1) (As := []) (r := t + 1) (n := 0) (nX1_ok (t := t + 1) (S := S) (by omega) k1 k2 l2 (fun c hc j => hz c (by omega) j)) jmade_nt (jTbl (jtb1 105 rfl)) snX1 knX1 rfl rfl rfl ⟨by decide +kernel, by decide +kernel, by decide +kernel⟩ rfl ⟨by decide, by decide⟩ (Nat.le_of_ble_eq_true rfl) ⟨by decide, by decide⟩ (by decide +kernel) ?_
  rintro r0 _ _ ⟨e, rfl, rfl⟩
  cases e
  refine j_putR (idx := 12) (ci := 2) (k := 0) (r := t) (a := t + 1) (show (2, 12, 2, 0, false) ∈ jFT by decide) rfl rfl rfl rfl (fun _ => rfl) (fun _ => rfl) (by show t < t + 1 + 1 + 1; omega) k0 (by decide +kernel) ?_
  exact j_vret rfl (by decide) (by decide) (by decide +kernel) ⟨rfl, rfl, rfl⟩
end CONS2
