/-! The world as it stands when all is made. -/
theorem d11_new : ∀ j, j < jTN 11 → (if jrefs 11 j = true then Value.null else .int 0) = defaultValue (jTy 11 j) := fun j hj => by
  match j, hj with
  | 0, _ => rfl
  | 1, _ => rfl
  | 2, _ => rfl
  | 3, _ => rfl
  | 4, _ => rfl
  | 5, _ => rfl
  | 6, _ => rfl
  | 7, _ => rfl
  | 8, _ => rfl
  | 9, _ => rfl
  | 10, _ => rfl
  | 11, _ => rfl
  | 12, _ => rfl
  | 13, _ => rfl
  | 14, _ => rfl
  | 15, _ => rfl
  | 16, _ => rfl
  | 17, _ => rfl
  | 18, _ => rfl
  | k + 19, h => exact absurd h (by show ¬ k + 19 < 19; omega)
theorem d12_new : ∀ j, j < jTN 12 → (if jrefs 12 j = true then Value.null else .int 0) = defaultValue (jTy 12 j) := fun j hj => by
  match j, hj with
  | 0, _ => rfl
  | 1, _ => rfl
  | 2, _ => rfl
  | 3, _ => rfl
  | 4, _ => rfl
  | 5, _ => rfl
  | 6, _ => rfl
  | 7, _ => rfl
  | 8, _ => rfl
  | 9, _ => rfl
  | 10, _ => rfl
  | 11, _ => rfl
  | 12, _ => rfl
  | 13, _ => rfl
  | 14, _ => rfl
  | 15, _ => rfl
  | 16, _ => rfl
  | 17, _ => rfl
  | 18, _ => rfl
  | 19, _ => rfl
  | 20, _ => rfl
  | 21, _ => rfl
  | 22, _ => rfl
  | 23, _ => rfl
  | 24, _ => rfl
  | 25, _ => rfl
  | 26, _ => rfl
  | 27, _ => rfl
  | 28, _ => rfl
  | 29, _ => rfl
  | 30, _ => rfl
  | 31, _ => rfl
  | 32, _ => rfl
  | k + 33, h => exact absurd h (by show ¬ k + 33 < 33; omega)
def sB0 : List (Nat × Nat × Nat) := t11_184_29 (t11_184_28 (t11_184_27 (t11_184_26 (t11_184_25 (t11_184_24 (t11_184_23 (t11_184_22 (t11_184_21 (t11_184_20 (t11_184_19 (t11_184_18 (t11_184_17 (t11_184_16 (t11_184_15 (t11_184_14 (t11_184_13 (t11_184_12 (t11_184_11 (t11_184_10 (t11_184_9 (t11_184_8 (t11_184_7 (t11_184_6 (t11_184_5 (t11_184_4 (t11_184_3 (t11_184_2 (t11_184_1 (t11_184_0 (t11_182 (t11_173 (t11_164 (t11_155 (t11_147 (t11_139 (t11_130 (t11_119 (t11_108 (t11_97 (t11_86 (t11_75 (t11_64 (t11_53 (t11_42 (t11_31 (t11_20 (t11_15 (t11_0 []))))))))))))))))))))))))))))))))))))))))))))))))
def sW0 : List (Nat × Nat × Nat) := (159, 32, 178) :: (159, 31, 177) :: (159, 30, 176) :: (159, 29, 175) :: (159, 27, 174) :: (159, 25, 173) :: (159, 24, 172) :: (159, 23, 171) :: (159, 22, 170) :: (159, 18, 169) :: (159, 17, 168) :: (159, 16, 167) :: (159, 15, 166) :: (159, 14, 165) :: (159, 12, 164) :: (159, 11, 163) :: (159, 4, 162) :: (159, 2, 161) :: (159, 1, 160) :: sB0
def hB0 : jH := jput (jput (jput (jput (jput (jput (jput (jput (fun _ _ => 0) 0 1 (-1)) 9 8 7) 39 8 7) 69 5 (-1)) 75 7 (-1)) 75 8 (-1)) 82 7 (-1)) 82 8 (-1)
def hW0 : jH := jput (jput hB0 159 10 (-1)) 160 285 7
theorem jFind_in : ∀ (S : List (Nat × Nat × Nat)) (a j v : Nat), jFind S a j = some v → (a, j, v) ∈ S := by
  intro S
  induction S with
  | nil => intro a j v h; cases h
  | cons q S ih =>
    intro a j v h
    unfold jFind at h
    by_cases z : a = q.1 ∧ j = q.2.1
    · rw [if_pos z] at h
      cases h
      rw [z.1, z.2]
      exact List.mem_cons_self
    · rw [if_neg z] at h
      exact List.mem_cons_of_mem _ (ih a j v h)
set_option maxRecDepth 100000 in
theorem sW0_a : sW0.all (fun q => decide ((jRt.getD q.1 []).getD q.2.1 none = some q.2.2)) = true := by decide +kernel
set_option maxRecDepth 100000 in
theorem sW0_b : (List.range 180).all (fun a => (List.range (jRt.getD a []).length).all (fun j => decide ((jRt.getD a []).getD j none = none) || (jFind sW0 a j).isSome)) = true := by decide +kernel
theorem getD_far {α : Type} (l : List α) (n : Nat) (d : α) (h : l.length ≤ n) : l.getD n d = d := by rw [List.getD_eq_getElem?_getD, List.getElem?_eq_none h]; rfl
theorem jRt_len : jRt.length = 180 := by decide +kernel
theorem sW0_eq : jFind sW0 = fun a j => (jRt.getD a []).getD j none := by
  funext a j
  cases e : jFind sW0 a j with
  | some v => 
    have := List.all_eq_true.mp sW0_a _ (jFind_in _ _ _ _ e)
    exact (of_decide_eq_true this).symm
  | none =>
    by_cases ha : a < 180
    · by_cases hj : j < (jRt.getD a []).length
      · have q := List.all_eq_true.mp (List.all_eq_true.mp sW0_b a (List.mem_range.mpr ha)) j (List.mem_range.mpr hj)
        rw [e] at q
        simp only [Option.isSome_none, Bool.or_false] at q
        exact (of_decide_eq_true q).symm
      · exact (getD_far _ _ _ (by omega)).symm
    · have : jRt.getD a [] = [] := getD_far _ _ _ (by rw [jRt_len]; omega)
      rw [this]; rfl
theorem j_world {M : jM} {Q : jQ} {pc : Nat} {lv : List (Option Value)} {st : List Value} {Γ Γ' : jS} {h : jH} {u : Nat × Nat} (hΓ : ∀ G H, jP G Γ h H → jP G Γ' h H) (k : WP M Q pc lv st Γ' h u) : WP M Q pc lv st Γ h u := by
  intro l G p e s m args below meth c C H locs ls hP hS hl
  exact k l G p e s m args below meth c C H locs ls (hΓ G H hP) hS hl
theorem jW_end {sc : Nat × (Nat → Int32)} {h : jH} : ∀ G H, jP G (jW 180 sW0 sc) h H → jP G (jG0 sc) h H := by
  intro G H hP
  have e : jW 180 sW0 sc = (180, true, fun a => jKt.getD a 99, fun a => jLt.getD a 0, fun a j => (jRt.getD a []).getD j none, sc) := by unfold jW; rw [sW0_eq]
  rw [e] at hP
  exact ⟨hP.1, hP.2.1, hP.2.2.1, fun q => Bool.noConfusion q, hP.2.2.2.2⟩
set_option maxRecDepth 100000 in
theorem sB0_lt : sB0.all (fun q => decide (q.1 < 159)) = true := by decide +kernel
/-- the state at the start -/
def aS0 : aS := ([], [], [], [], tNone, fun _ => 0, [], 7)
def aA0 : aA := (aS0, none, [], -1)
theorem no0 {c : Prop} {i : Nat} (hi : i < 0) : c := absurd hi (Nat.not_lt_zero i)
theorem sProg_nil : sProg [] := ⟨Nat.zero_le _, fun l hl => absurd hl List.not_mem_nil⟩
theorem ok0 : aOk 0 aA0 := by
  refine ⟨⟨sProg_nil, sProg_nil, ⟨Nat.zero_le _, fun r hr => absurd hr List.not_mem_nil⟩, ⟨Or.inl rfl, fun c hc => absurd hc List.not_mem_nil, Nat.zero_le _, Nat.zero_le _⟩, sTrOk_none, fun i _ => ⟨0, Nat.le_refl _, rfl⟩, ⟨Nat.zero_le _, fun p hp => absurd hp List.not_mem_nil⟩, by show 7 ≤ 15; decide⟩, fun I e => (by cases e), Nat.zero_le _, fun b hb => absurd hb List.not_mem_nil⟩
theorem w0_c {c j : Nat} (h1 : c ≠ 0) (h2 : c ≠ 9) (h3 : c ≠ 39) (h4 : c ≠ 69) (h5 : c ≠ 75) (h6 : c ≠ 82) (h7 : c ≠ 159) (h8 : c ≠ 160) : hW0 c j = 0 := by
  unfold hW0 hB0
  rw [jput_ne h8, jput_ne h7, jput_ne h6, jput_ne h6, jput_ne h5, jput_ne h5, jput_ne h4, jput_ne h3, jput_ne h2, jput_ne h1]
theorem mends_nil : sMends [] = [] := rfl
theorem RC0 : RC hW0 aA0 := by
  refine ⟨⟨⟨rfl, Nat.zero_le _, fun i hi => no0 hi⟩, ⟨rfl, Nat.zero_le _, fun i hi => no0 hi⟩, ⟨rfl, fun i hi => no0 hi⟩, ⟨rfl, fun i hi => no0 hi⟩, ⟨rfl, fun i hi => no0 hi, rfl, rfl, rfl, rfl, rfl, fun i hi => no0 hi⟩, fun i hi => rfl, ⟨rfl, fun i hi => no0 hi⟩, rfl⟩, rfl, ⟨rfl, fun i hi => no0 hi⟩, rfl, rfl, ?_⟩
  refine ⟨⟨rfl, fun i hi => no0 hi⟩, fun n hn => ?_, fun n hn => no0 hn⟩
  have e : sPlainN [] n = 0 := if_neg (Nat.not_lt_zero n)
  exact (show hW0 81 n = nI 0 from rfl).trans (congrArg nI e.symm)
theorem RM0 : RM hW0 aA0 := by
  refine ⟨⟨⟨rfl, Nat.zero_le _, fun i hi => no0 hi⟩, ⟨rfl, Nat.zero_le _, fun i hi => no0 hi⟩, ⟨rfl, fun i hi => no0 hi⟩, ⟨rfl, fun i hi => no0 hi⟩, ⟨rfl, fun i hi => no0 hi, rfl, rfl, rfl, rfl, rfl, fun i hi => no0 hi⟩, fun i hi => ?_, ⟨rfl, fun i hi => no0 hi⟩, rfl⟩, rfl, ⟨rfl, fun i hi => no0 hi⟩, rfl⟩
  match i, hi with
  | 0, _ => rfl
  | 1, _ => rfl
  | 2, _ => rfl
  | 3, _ => rfl
  | 4, _ => rfl
  | 5, _ => rfl
section LAWS
variable {sc : Nat × (Nat → Int32)}
theorem slot16 {Γ : jS} {h : jH} {N j : Nat} (hk : jK Γ N = 16) (hz : h N j = 0) : jslot Γ h N j = defaultValue .long := by
  unfold jslot
  have e : ¬ jrefs 16 j = true := fun q => Bool.noConfusion (show false = true from q)
  rw [hk, if_neg e, if_pos rfl, hz, show (0 : Int32).toInt64 = 0 from by decide]
  rfl
theorem jar_long : jlk (.arrayClass .long) := jlkT (jtb8 117 rfl) rfl
set_option maxRecDepth 100000 in
/-- the law from its first row on -/
theorem l_start (hL : sc.1 ≤ 3072) : WP mLL lQ 0 [some (.ref 1000), none, none, none, none, none, none] [] (jW 0 [] sc) (fun _ _ => 0) (0, 0) := by
  refine j_new (idx := 8) (ci := 11) (by decide) rfl (by show 0 < 1000; decide) (show jKt.getD 0 99 = 11 by decide +kernel) (fun j hj => (slotN (show jKt.getD 0 99 = 11 by decide +kernel) (by decide) (fun i => rfl) (fun j => rfl)).trans (d11_new j hj)) (jlkT (jtb1 28 rfl) rfl) (jlkT (jtb1 29 rfl) rfl) (jlkT (jtb1 1 rfl) rfl) ⟨Nat.le_of_ble_eq_true rfl, Nat.le_of_ble_eq_true rfl⟩ (by decide +kernel) ?_
  refine j_dup rfl (by decide +kernel) ?_
  refine j_callI (M' := nX11) (As := []) (r := 0) (idx := 97) (n := 0) (nX11_ok (S := []) jao (fun c hc j => rfl) (fun x i hx => rfl)) jmade_nt (jlkT (jtb1 30 rfl) rfl) snX11 knX11 rfl rfl rfl ⟨by decide +kernel, by decide +kernel, by decide +kernel⟩ rfl ⟨by decide, by decide⟩ (Nat.le_of_ble_eq_true rfl) ⟨Nat.le_of_ble_eq_true rfl, Nat.le_of_ble_eq_true rfl⟩ (by decide +kernel) ?_
  rintro r0 Γ' h' ⟨e, rfl, eh⟩
  cases e
  have eh : h' = hB0 := eh
  subst eh
  refine j_astore_n (i := 1) (by decide +kernel) (by decide) ?_
  refine j_eqlv [some (.ref 1000), some (.ref 0), none, none, none, none, none] (by rfl) ?_
  have z1 : ∀ c, 158 < c → ∀ j, hB0 c j = 0 := fun c hc j => by
    unfold hB0
    rw [jput_ne (by omega), jput_ne (by omega), jput_ne (by omega), jput_ne (by omega), jput_ne (by omega), jput_ne (by omega), jput_ne (by omega), jput_ne (by omega)]
  have f1 : ∀ x i, 159 ≤ x → jFind sB0 x i = none := fun x i hx => by
    cases e : jFind sB0 x i with
    | none => rfl
    | some v => exact absurd (of_decide_eq_true (List.all_eq_true.mp sB0_lt _ (jFind_in _ _ _ _ e))) (by show ¬ x < 159; omega)
  show WP mLL lQ 8 _ [] (jW 159 sB0 sc) hB0 _
  refine j_new (idx := 98) (ci := 12) (by decide) rfl (by show 159 < 1000; decide) (show jKt.getD 159 99 = 12 by decide +kernel) (fun j hj => (slotN (show jKt.getD 159 99 = 12 by decide +kernel) (by decide) (fun i => f1 159 i (by decide)) (fun j => z1 _ (by show 158 < 159; decide) j)).trans (d12_new j hj)) (jlkT (jtb6 65 rfl) rfl) (jlkT (jtb6 66 rfl) rfl) (jlkT (jtb1 13 rfl) rfl) ⟨Nat.le_of_ble_eq_true rfl, Nat.le_of_ble_eq_true rfl⟩ (by decide +kernel) ?_
  refine j_dup rfl (by decide +kernel) ?_
  refine j_callI (M' := nX12) (As := []) (r := 159) (idx := 100) (n := 0) (nX12_ok (S := sB0) (h := hB0) (fun c hc j => z1 c (by omega) j)) jmade_nt (jlkT (jtb6 67 rfl) rfl) snX12 knX12 rfl rfl rfl ⟨by decide +kernel, by decide +kernel, by decide +kernel⟩ rfl ⟨by decide, by decide⟩ (Nat.le_of_ble_eq_true rfl) ⟨Nat.le_of_ble_eq_true rfl, Nat.le_of_ble_eq_true rfl⟩ (by decide +kernel) ?_
  rintro r1 Γ' h' ⟨e, rfl, eh⟩
  cases e
  have eh : h' = hW0 := eh
  subst eh
  refine j_astore_n (i := 2) (by decide +kernel) (by decide) ?_
  refine j_eqlv [some (.ref 1000), some (.ref 0), some (.ref 159), none, none, none, none] (by rfl) ?_
  show WP mLL lQ 16 _ [] (jW 179 sW0 sc) hW0 _
  refine j_iconst (n := 1) 1 rfl (by decide +kernel) ?_
  refine j_newA (at' := .long) (kd := 16) (n := 1) (ty := .long) rfl rfl (by show 179 < 1000; decide) (show jKt.getD 179 99 = 16 by decide +kernel) (by decide) rfl (fun C q => by cases q) (show jLt.getD 179 0 = 1 by decide +kernel) (fun j => slot16 (show jKt.getD 179 99 = 16 by decide +kernel) (show hW0 179 j = 0 from w0_c (by decide) (by decide) (by decide) (by decide) (by decide) (by decide) (by decide) (by decide))) (by decide) (by decide) (by decide) jar_long.1 jar_long.2 ⟨Nat.le_of_ble_eq_true rfl, Nat.le_of_ble_eq_true rfl⟩ (by decide +kernel) ?_
  refine j_astore_n (i := 3) (by decide +kernel) (by decide) ?_
  refine j_iconst (n := 0) (nI 0) rfl (by decide +kernel) ?_
  refine j_istore (i := 4) (by decide +kernel) (by decide) ?_
  refine j_eqlv (lvs (6 * 0)) (by rfl) ?_
  refine j_world jW_end ?_
  exact l_loop hL (sc.1 / 6) 0 aA0 hW0 _ (by omega) (by omega) ok0 RC0 RM0 (Nat.le_of_ble_eq_true rfl) (Nat.le_of_ble_eq_true rfl)
end LAWS
