/-! The JDK's own methods that are called: String.length, String.charAt, Integer.bitCount; and the rows of a String constant. -/
def mJcoder : jM := (yJ0_coder_7d493, cJ0_coder_7d493, 1, (some .byte), 1, 0, 0, [], 14)
def mJlength : jM := (yJ0_length_8abf5, cJ0_length_8abf5, 1, (some .int), 2, 0, 0, [], 14)
def mJisLatin1 : jM := (yJ0_isLatin1_aae02, cJ0_isLatin1_aae02, 1, (some .boolean), 1, 0, 0, [], 14)
def mJpre : jM := (yJ3_checkIndex_8e157, cJ3_checkIndex_8e157, 3, (some .int), 1, 0, 0, [], 16)
def mJsci : jM := (yJ0_checkIndex_df160, cJ0_checkIndex_df160, 2, none, 2, 0, 0, [], 14)
def mJl1 : jM := (yJ1_charAt_3b067, cJ1_charAt_3b067, 2, (some .char), 3, 0, 0, [], 15)
def mJcharAt : jM := (yJ0_charAt_5068e, cJ0_charAt_5068e, 2, (some .char), 4, 0, 0, [], 14)
def mJbitCount : jM := (yJ6_bitCount_0f7a4, cJ6_bitCount_0f7a4, 1, (some .int), 1, 0, 0, [], 17)
set_option maxRecDepth 100000 in
theorem kJcoder : jlk (jcw mJcoder) := jlkT (jtb3 234 rfl) rfl
set_option maxRecDepth 100000 in
theorem sJcoder : ∀ w ∈ ([.instanceMethod yJ0_coder_7d493, .selects "java/lang/String" yJ0_coder_7d493 yJ0_coder_7d493, .initialized "java/lang/String"] : List Cond), jlk w := j3 (jlkT (jtb3 232 rfl) rfl) (jlkT (jtb3 233 rfl) rfl) (jlkT (jtb1 14 rfl) rfl)
set_option maxRecDepth 100000 in
theorem kJlength : jlk (jcw mJlength) := jlkT (jtb3 230 rfl) rfl
set_option maxRecDepth 100000 in
theorem sJlength : ∀ w ∈ ([.instanceMethod yJ0_length_8abf5, .selects "java/lang/String" yJ0_length_8abf5 yJ0_length_8abf5, .initialized "java/lang/String"] : List Cond), jlk w := j3 (jlkT (jtb3 228 rfl) rfl) (jlkT (jtb3 229 rfl) rfl) (jlkT (jtb1 14 rfl) rfl)
set_option maxRecDepth 100000 in
theorem kJisLatin1 : jlk (jcw mJisLatin1) := jlkT (jtb4 4 rfl) rfl
set_option maxRecDepth 100000 in
theorem sJisLatin1 : ∀ w ∈ ([.instanceMethod yJ0_isLatin1_aae02, .selects "java/lang/String" yJ0_isLatin1_aae02 yJ0_isLatin1_aae02, .initialized "java/lang/String"] : List Cond), jlk w := j3 (jlkT (jtb4 2 rfl) rfl) (jlkT (jtb4 3 rfl) rfl) (jlkT (jtb1 14 rfl) rfl)
set_option maxRecDepth 100000 in
theorem kJcharAt : jlk (jcw mJcharAt) := jlkT (jtb4 0 rfl) rfl
set_option maxRecDepth 100000 in
theorem sJcharAt : ∀ w ∈ ([.instanceMethod yJ0_charAt_5068e, .selects "java/lang/String" yJ0_charAt_5068e yJ0_charAt_5068e, .initialized "java/lang/String"] : List Cond), jlk w := j3 (jlkT (jtb3 238 rfl) rfl) (jlkT (jtb3 239 rfl) rfl) (jlkT (jtb1 14 rfl) rfl)
set_option maxRecDepth 100000 in
theorem kJpre : jlk (jcw mJpre) := jlkT (jtb4 15 rfl) rfl
set_option maxRecDepth 100000 in
theorem sJpre : ∀ w ∈ ([.static yJ3_checkIndex_8e157, .initialized yJ3_checkIndex_8e157.cls] : List Cond), jlk w := j2 (jlkT (jtb4 14 rfl) rfl) (jlkT (jtb1 16 rfl) rfl)
set_option maxRecDepth 100000 in
theorem kJsci : jlk (jcw mJsci) := jlkT (jtb4 10 rfl) rfl
set_option maxRecDepth 100000 in
theorem sJsci : ∀ w ∈ ([.static yJ0_checkIndex_df160, .initialized yJ0_checkIndex_df160.cls] : List Cond), jlk w := j2 (jlkT (jtb4 9 rfl) rfl) (jlkT (jtb1 14 rfl) rfl)
set_option maxRecDepth 100000 in
theorem kJl1 : jlk (jcw mJl1) := jlkT (jtb4 7 rfl) rfl
set_option maxRecDepth 100000 in
theorem sJl1 : ∀ w ∈ ([.static yJ1_charAt_3b067, .initialized yJ1_charAt_3b067.cls] : List Cond), jlk w := j2 (jlkT (jtb4 6 rfl) rfl) (jlkT (jtb1 15 rfl) rfl)
set_option maxRecDepth 100000 in
theorem kJbitCount : jlk (jcw mJbitCount) := jlkT (jtb3 190 rfl) rfl
set_option maxRecDepth 100000 in
theorem sJbitCount : ∀ w ∈ ([.static yJ6_bitCount_0f7a4, .initialized yJ6_bitCount_0f7a4.cls] : List Cond), jlk w := j2 (jlkT (jtb3 189 rfl) rfl) (jlkT (jtb1 27 rfl) rfl)
section JS
variable {M : jM} {Q : jQ} {pc : Nat} {lv : List (Option Value)} {st : List Value} {Γ : jS} {h : jH} {u : Nat × Nat}
theorem jadV {G : jG} (i : Nat) : jad G (1501 + i) = G.2.2.2.1 (i + 501) := by
  rw [jad, if_neg (by omega), show 1501 + i - 1000 = i + 501 by omega]
theorem j_sVal {i : Nat} (hi : i < 22) (ho : mO M = 14) (hd : decode (mC M) pc = .ok (.getfield 9, 3)) (k : WP M Q (pc + 3) lv (.ref (1501 + i) :: st) Γ h u) : WP M Q pc lv (.ref (1001 + i) :: st) Γ h u := by
  intro l G p e s m args below meth c C H locs ls hP hS hl
  have K := k l G p e s m args below meth c C H locs ls hP hS hl
  have ho2 := jown C
  rw [ho] at ho2
  have hw := jword C (w := .fieldLink "java/lang/String" 9 "java/lang/String" "value" "[B") (jTbl (jtb8 139 rfl)) rfl
  have e1 : (Value.ref (1501 + i) :: st).map (jmv G) = .ref (G.2.2.2.1 (i + 501)) :: st.map (jmv G) := by show Value.ref (jad G (1501 + i)) :: _ = _; rw [jadV]
  have e2 : (Value.ref (1001 + i) :: st).map (jmv G) = .ref (G.2.2.2.1 (i + 1)) :: st.map (jmv G) := by show Value.ref (jad G (1001 + i)) :: _ = _; rw [jadS]
  rw [e1] at K
  rw [e2]
  exact vk_getf C.1 C.2.1 (C.2.2.2.2.2.2.2.2.2.1.2.2.2.2.1.1 i hi).2.2.1 hS ho2 hw (fun _ h => h) hd K
theorem j_sCod {i : Nat} (hi : i < 22) (ho : mO M = 14) (hd : decode (mC M) pc = .ok (.getfield 15, 3)) (k : WP M Q (pc + 3) lv (.int 0 :: st) Γ h u) : WP M Q pc lv (.ref (1001 + i) :: st) Γ h u := by
  intro l G p e s m args below meth c C H locs ls hP hS hl
  have K := k l G p e s m args below meth c C H locs ls hP hS hl
  have ho2 := jown C
  rw [ho] at ho2
  have hw := jword C (w := .fieldLink "java/lang/String" 15 "java/lang/String" "code\x72" "B") (jTbl (jtb8 140 rfl)) rfl
  have e2 : (Value.ref (1001 + i) :: st).map (jmv G) = .ref (G.2.2.2.1 (i + 1)) :: st.map (jmv G) := by show Value.ref (jad G (1001 + i)) :: _ = _; rw [jadS]
  rw [e2]
  exact vk_getf C.1 C.2.1 (C.2.2.2.2.2.2.2.2.2.1.2.2.2.2.1.1 i hi).2.1 hS ho2 hw (fun _ h => h) hd K
theorem j_sCS (ho : mO M = 14) (hd : decode (mC M) pc = .ok (.getstatic 38, 3)) (k : WP M Q (pc + 3) lv (.int 1 :: st) Γ h u) : WP M Q pc lv st Γ h u := by
  intro l G p e s m args below meth c C H locs ls hP hS hl
  have K := k l G p e s m args below meth c C H locs ls hP hS hl
  have ho2 := jown C
  rw [ho] at ho2
  have hw := jword C (w := .fieldLink "java/lang/String" 38 "java/lang/String" "COMPACT_STRINGS" "Z") (jTbl (jtb3 235 rfl)) rfl
  exact va_gets C.1 C.2.1 C.2.2.2.2.2.2.2.2.2.1.2.2.2.2.2.2.1.1 hS ho2 hw (fun _ h => h) hd K
theorem j_sSF (ho : mO M = 14) (hd : decode (mC M) pc = .ok (.getstatic 1053, 3)) (k : ∀ v : Value, v = .null ∨ v = .ref 1999 → WP M Q (pc + 3) lv (v :: st) Γ h u) : WP M Q pc lv st Γ h u := by
  intro l G p e s m args below meth c C H locs ls hP hS hl
  have ho2 := jown C
  rw [ho] at ho2
  have hw := jword C (w := .fieldLink "java/lang/String" 1053 "jdk/internal/util/Preconditions" "SIOOBE_FORMATTER" "Ljava/util/function/BiFunction;") (jTbl (jtb4 11 rfl)) rfl
  rcases C.2.2.2.2.2.2.2.2.2.1.2.2.2.2.2.2.1.2 with hz | hz
  · exact va_gets C.1 C.2.1 hz hS ho2 hw (fun _ h => h) hd (k .null (Or.inl rfl) l G p e s m args below meth c C H locs ls hP hS hl)
  · have K := k (.ref 1999) (Or.inr rfl) l G p e s m args below meth c C H locs ls hP hS hl
    exact va_gets C.1 C.2.1 hz hS ho2 hw (fun _ h => h) hd K
theorem j_sLen {i : Nat} (hi : i < 22) (hd : decode (mC M) pc = .ok (.arraylength, 1)) (k : WP M Q (pc + 1) lv (.int (Int32.ofNat (jTxtL.getD i 0)) :: st) Γ h u) : WP M Q pc lv (.ref (1501 + i) :: st) Γ h u := by
  intro l G p e s m args below meth c C H locs ls hP hS hl
  have K := k l G p e s m args below meth c C H locs ls hP hS hl
  have e1 : (Value.ref (1501 + i) :: st).map (jmv G) = .ref (G.2.2.2.1 (i + 501)) :: st.map (jmv G) := by show Value.ref (jad G (1501 + i)) :: _ = _; rw [jadV]
  rw [e1]
  exact va_tlen C.1 C.2.1 (C.2.2.2.2.2.2.2.2.2.1.2.2.2.2.1.1 i hi).2.2.2 hS rfl hd K
theorem j_sByt {i : Nat} {j : Int32} (hi : i < 22) (hj : vp_in j (jTxtL.getD i 0)) (hd : decode (mC M) pc = .ok (.baload, 1)) (k : WP M Q (pc + 1) lv (.int ((jTxt.getD i []).getD j.toNatClampNeg 0) :: st) Γ h u) : WP M Q pc lv (.int j :: .ref (1501 + i) :: st) Γ h u := by
  intro l G p e s m args below meth c C H locs ls hP hS hl
  have K := k l G p e s m args below meth c C H locs ls hP hS hl
  have e1 : (Value.int j :: .ref (1501 + i) :: st).map (jmv G) = .int j :: .ref (G.2.2.2.1 (i + 501)) :: st.map (jmv G) := by show _ :: Value.ref (jad G (1501 + i)) :: _ = _; rw [jadV]; rfl
  rw [e1]
  exact va_tb C.1 C.2.1 (C.2.2.2.2.2.2.2.2.2.1.2.2.2.2.1.1 i hi).2.2.2 hS hj rfl hd K
end JS
/-- results of any method that leaves the world as it is -/
def jpure (Γ : jS) (h : jH) (v : Option Value) : jQ := fun o Γ' h' => o = .inl v ∧ Γ' = Γ ∧ h' = h
theorem jpure_nt {Γ : jS} {h : jH} {v : Option Value} : ∀ E Γ' h', ¬ jpure Γ h v (.inr E) Γ' h' := fun _ _ _ ⟨q, _⟩ => by cases q
theorem jcoder_ok {Γ : jS} {h : jH} {i : Nat} (hi : i < 22) : JM mJcoder [.ref (1001 + i)] Γ h (jpure Γ h (some (.int 0))) := by
  refine jM_of rfl (Nat.le_of_ble_eq_true rfl) (by decide +kernel) rfl ?_
  refine j_sCS rfl (by decide +kernel) ?_
  refine j_if_eq (off := 10) 13 (by decide +kernel) (by decide) (fun q => absurd q (by decide)) (fun _ => ?_)
  refine j_aload_n (i := 0) rfl (by decide +kernel) ?_
  refine j_sCod hi rfl (by decide +kernel) ?_
  refine j_goto (off := 4) 14 (by decide +kernel) (by decide) ?_
  exact j_iret rfl rfl (Nat.zero_le _) (Nat.zero_le _) (by decide +kernel) ⟨rfl, rfl, rfl⟩
theorem jisLatin1_ok {Γ : jS} {h : jH} {i : Nat} (hi : i < 22) : JM mJisLatin1 [.ref (1001 + i)] Γ h (jpure Γ h (some (.int 1))) := by
  refine jM_of rfl (Nat.le_of_ble_eq_true rfl) (by decide +kernel) rfl ?_
  refine j_sCS rfl (by decide +kernel) ?_
  refine j_if_eq (off := 14) 17 (by decide +kernel) (by decide) (fun q => absurd q (by decide)) (fun _ => ?_)
  refine j_aload_n (i := 0) rfl (by decide +kernel) ?_
  refine j_sCod hi rfl (by decide +kernel) ?_
  refine j_if_ne (off := 7) 17 (by decide +kernel) (by decide) (fun q => absurd q (by decide)) (fun _ => ?_)
  refine j_iconst (n := 1) 1 (by decide) (by decide +kernel) ?_
  refine j_goto (off := 4) 18 (by decide +kernel) (by decide) ?_
  exact j_iret rfl rfl (Nat.zero_le _) (Nat.zero_le _) (by decide +kernel) ⟨rfl, rfl, rfl⟩
theorem jpre_ok {Γ : jS} {h : jH} {x n : Int32} {v : Value} (hv : v = .null ∨ v = .ref 1999) (h0 : ¬ x < 0) (h1 : x < n) : JM mJpre [.int x, .int n, v] Γ h (jpure Γ h (some (.int x))) := by
  have hc : ([.int x, .int n, v] : List Value).all (fun v => v.category == 1) = true := by rcases hv with rfl | rfl <;> rfl
  refine jM_of hc (Nat.le_of_ble_eq_true rfl) (by decide +kernel) rfl ?_
  refine j_iload_n (i := 0) rfl (by decide +kernel) ?_
  refine j_if_lt (off := 8) 9 (by decide +kernel) (by decide) (fun q => absurd q h0) (fun _ => ?_)
  refine j_iload_n (i := 0) rfl (by decide +kernel) ?_
  refine j_iload_n (i := 1) rfl (by decide +kernel) ?_
  refine j_icmp_lt (off := 10) 16 (by decide +kernel) (by decide) (fun _ => ?_) (fun q => absurd h1 q)
  refine j_iload_n (i := 0) rfl (by decide +kernel) ?_
  exact j_iret rfl rfl (Nat.zero_le _) (Nat.zero_le _) (by decide +kernel) ⟨rfl, rfl, rfl⟩
theorem jsci_ok {Γ : jS} {h : jH} {x n : Int32} (h0 : ¬ x < 0) (h1 : x < n) : JM mJsci [.int x, .int n] Γ h (jpure Γ h none) := by
  refine jM_of rfl (Nat.le_of_ble_eq_true rfl) (by decide +kernel) rfl ?_
  refine j_iload_n (i := 0) rfl (by decide +kernel) ?_
  refine j_iload_n (i := 1) rfl (by decide +kernel) ?_
  refine j_sSF rfl (by decide +kernel) (fun v hv => ?_)
  refine j_callS (idx := 1059) (As := [.int x, .int n, v]) (n := 3) (jpre_ok hv h0 h1) jpure_nt (jlkT (jtb4 13 rfl) rfl) sJpre kJpre rfl ⟨by decide +kernel, by decide +kernel, by decide +kernel⟩ rfl ⟨by decide, by decide⟩ (Nat.le_of_ble_eq_true rfl) ⟨Nat.zero_le _, Nat.zero_le _⟩ (by decide +kernel) (fun r Γ' h' q => ?_)
  obtain ⟨q0, rfl, rfl⟩ := q; cases q0
  refine j_eqst [.int x] (by rfl) ?_
  refine j_pop rfl (by decide +kernel) ?_
  exact j_vret rfl (Nat.zero_le _) (Nat.zero_le _) (by decide +kernel) ⟨rfl, rfl, rfl⟩
theorem jtxtlen : ∀ i, i < 22 → (Int32.ofNat (jTxtL.getD i 0)).toNatClampNeg = jTxtL.getD i 0 ∧ (Int32.ofNat (jTxtL.getD i 0)).toInt = (jTxtL.getD i 0 : Int) := by decide +kernel
/-- a text's character -/
def jch (i k : Nat) : Int32 := (jTxt.getD i []).getD k 0
theorem jch_ok : ∀ i, i < 22 → ∀ k, k < 6 → ((jch i k &&& 255).toUInt32 % 65536).toInt32 = jch i k ∧ narrow .char (.int (jch i k)) = .int (jch i k) := by decide +kernel
theorem jl1_ok {Γ : jS} {h : jH} {i : Nat} {x : Int32} (hi : i < 22) (h0 : ¬ x < 0) (h1 : x < Int32.ofNat (jTxtL.getD i 0)) : JM mJl1 [.ref (1501 + i), .int x] Γ h (jpure Γ h (some (.int (jch i x.toNatClampNeg)))) := by
  have hlen : jTxtL.getD i 0 ≤ 6 := (show ∀ i, i < 22 → jTxtL.getD i 0 ≤ 6 by decide +kernel) i hi
  have h2 := (jtxtlen i hi).2
  have h3 : x.toInt < (jTxtL.getD i 0 : Int) := by rw [← h2]; exact Int32.lt_iff_toInt_lt.mp h1
  have h4 : 0 ≤ x.toInt := by
    have h5 : ¬ x.toInt < 0 := fun q => h0 (Int32.lt_iff_toInt_lt.mpr q)
    omega
  have hin : vp_in x (jTxtL.getD i 0) := vp_in_iff.mpr ⟨h4, h3⟩
  have hk : x.toNatClampNeg < 6 := by
    have : x.toNatClampNeg < jTxtL.getD i 0 := Nat.not_le.mp fun q => hin (Or.inr q)
    omega
  refine jM_of rfl (Nat.le_of_ble_eq_true rfl) (by decide +kernel) rfl ?_
  refine j_iload_n (i := 1) rfl (by decide +kernel) ?_
  refine j_aload_n (i := 0) rfl (by decide +kernel) ?_
  refine j_sLen hi (by decide +kernel) ?_
  refine j_callS (idx := 9) (As := [.int x, .int (Int32.ofNat (jTxtL.getD i 0))]) (n := 2) (jsci_ok h0 h1) jpure_nt (jlkT (jtb4 8 rfl) rfl) sJsci kJsci rfl ⟨by decide +kernel, by decide +kernel, by decide +kernel⟩ rfl ⟨by decide, by decide⟩ (Nat.le_of_ble_eq_true rfl) ⟨Nat.zero_le _, Nat.zero_le _⟩ (by decide +kernel) (fun r Γ' h' q => ?_)
  obtain ⟨q0, rfl, rfl⟩ := q; cases q0
  refine j_eqst [] (by rfl) ?_
  refine j_aload_n (i := 0) rfl (by decide +kernel) ?_
  refine j_iload_n (i := 1) rfl (by decide +kernel) ?_
  refine j_sByt hi hin (by decide +kernel) ?_
  refine j_sipush (n := 255) 255 (by decide) (by decide +kernel) ?_
  refine j_iand (by decide +kernel) ?_
  refine j_i2c (jch_ok i hi _ hk).1 (by decide +kernel) ?_
  exact j_iret rfl (jch_ok i hi _ hk).2 (Nat.zero_le _) (Nat.zero_le _) (by decide +kernel) ⟨rfl, rfl, rfl⟩
theorem jcharAt_ok {Γ : jS} {h : jH} {i : Nat} {x : Int32} (hi : i < 22) (h0 : ¬ x < 0) (h1 : x < Int32.ofNat (jTxtL.getD i 0)) : JM mJcharAt [.ref (1001 + i), .int x] Γ h (jpure Γ h (some (.int (jch i x.toNatClampNeg)))) := by
  have hlen : jTxtL.getD i 0 ≤ 6 := (show ∀ i, i < 22 → jTxtL.getD i 0 ≤ 6 by decide +kernel) i hi
  have hk : x.toNatClampNeg < 6 := by
    have h2 := (jtxtlen i hi).2
    have h3 : x.toInt < (jTxtL.getD i 0 : Int) := by rw [← h2]; exact Int32.lt_iff_toInt_lt.mp h1
    have h4 : 0 ≤ x.toInt := by
      have h5 : ¬ x.toInt < 0 := fun q => h0 (Int32.lt_iff_toInt_lt.mpr q)
      omega
    have hin : vp_in x (jTxtL.getD i 0) := vp_in_iff.mpr ⟨h4, h3⟩
    have : x.toNatClampNeg < jTxtL.getD i 0 := Nat.not_le.mp fun q => hin (Or.inr q)
    omega
  refine jM_of rfl (Nat.le_of_ble_eq_true rfl) (by decide +kernel) rfl ?_
  refine j_aload_n (i := 0) rfl (by decide +kernel) ?_
  refine j_callStr (i := i) (idx := 492) (As := []) (n := 0) (jisLatin1_ok hi) jpure_nt (jlkT (jtb4 1 rfl) rfl) sJisLatin1 kJisLatin1 rfl ⟨rfl, by decide +kernel, by decide +kernel, by decide +kernel⟩ rfl ⟨by decide, by decide⟩ hi (Nat.le_of_ble_eq_true rfl) ⟨Nat.zero_le _, Nat.zero_le _⟩ (by decide +kernel) (fun r Γ' h' q => ?_)
  obtain ⟨q0, rfl, rfl⟩ := q; cases q0
  refine j_eqst [.int 1] (by rfl) ?_
  refine j_if_eq (off := 12) 16 (by decide +kernel) (by decide) (fun q => absurd q (by decide)) (fun _ => ?_)
  refine j_aload_n (i := 0) rfl (by decide +kernel) ?_
  refine j_sVal hi rfl (by decide +kernel) ?_
  refine j_iload_n (i := 1) rfl (by decide +kernel) ?_
  refine j_callS (idx := 495) (As := [.ref (1501 + i), .int x]) (n := 2) (jl1_ok hi h0 h1) jpure_nt (jlkT (jtb4 5 rfl) rfl) sJl1 kJl1 rfl ⟨by decide +kernel, by decide +kernel, by decide +kernel⟩ rfl ⟨by decide, by decide⟩ (Nat.le_of_ble_eq_true rfl) ⟨Nat.zero_le _, Nat.zero_le _⟩ (by decide +kernel) (fun r Γ' h' q => ?_)
  obtain ⟨q0, rfl, rfl⟩ := q; cases q0
  refine j_eqst [.int (jch i x.toNatClampNeg)] (by rfl) ?_
  exact j_iret rfl (jch_ok i hi _ hk).2 (Nat.zero_le _) (Nat.zero_le _) (by decide +kernel) ⟨rfl, rfl, rfl⟩
theorem jlength_ok {Γ : jS} {h : jH} {i : Nat} (hi : i < 22) : JM mJlength [.ref (1001 + i)] Γ h (jpure Γ h (some (.int (Int32.ofNat (jTxtL.getD i 0))))) := by
  refine jM_of rfl (Nat.le_of_ble_eq_true rfl) (by decide +kernel) rfl ?_
  refine j_aload_n (i := 0) rfl (by decide +kernel) ?_
  refine j_sVal hi rfl (by decide +kernel) ?_
  refine j_sLen hi (by decide +kernel) ?_
  refine j_aload_n (i := 0) rfl (by decide +kernel) ?_
  refine j_callStr (i := i) (idx := 335) (As := []) (n := 0) (jcoder_ok hi) jpure_nt (jlkT (jtb3 231 rfl) rfl) sJcoder kJcoder rfl ⟨rfl, by decide +kernel, by decide +kernel, by decide +kernel⟩ rfl ⟨by decide, by decide⟩ hi (Nat.le_of_ble_eq_true rfl) ⟨Nat.zero_le _, Nat.zero_le _⟩ (by decide +kernel) (fun r Γ' h' q => ?_)
  obtain ⟨q0, rfl, rfl⟩ := q; cases q0
  refine j_eqst [.int 0, .int (Int32.ofNat (jTxtL.getD i 0))] (by rfl) ?_
  refine j_ishr (by decide +kernel) ?_
  refine j_eqst [.int (Int32.ofNat (jTxtL.getD i 0))] ?_ ?_
  · have := (show ∀ i, i < 22 → Int32.ofNat (jTxtL.getD i 0) >>> ((0 : Int32) &&& 31) = Int32.ofNat (jTxtL.getD i 0) by decide +kernel) i hi
    rw [this]
  · exact j_iret rfl rfl (Nat.zero_le _) (Nat.zero_le _) (by decide +kernel) ⟨rfl, rfl, rfl⟩
/-- how many bits, as the JDK counts them -/
def jbc4 (i : Int32) : Int32 := i
def jus (x s : Int32) : Int32 := (x.toUInt32 >>> (s.toUInt32 &&& Int32.toUInt32 31)).toInt32
def jbits (x : Int32) : Int32 :=
  let a := x - (jus x 1 &&& 1431655765)
  let b := (a &&& 858993459) + (jus a 2 &&& 858993459)
  let c := (b + jus b 4) &&& 252645135
  let d := c + jus c 8
  let e := d + jus d 16
  e &&& 63
theorem jbitCount_ok {Γ : jS} {h : jH} {x : Int32} : JM mJbitCount [.int x] Γ h (jpure Γ h (some (.int (jbits x)))) := by
  refine jM_of rfl (Nat.le_of_ble_eq_true rfl) (by decide +kernel) rfl ?_
  refine j_iload_n (i := 0) rfl (by decide +kernel) ?_
  refine j_iload_n (i := 0) rfl (by decide +kernel) ?_
  refine j_iconst (n := 1) 1 (by decide) (by decide +kernel) ?_
  refine j_iushr (by decide +kernel) ?_
  refine j_ldcw (idx := 265) 1431655765 (by decide) (by decide +kernel) ?_
  refine j_iand (by decide +kernel) ?_
  refine j_isub (by decide +kernel) ?_
  refine j_istore_n (i := 0) (by decide +kernel) (by decide) ?_
  refine j_eqlv [some (.int (x - (jus x 1 &&& 1431655765)))] rfl ?_
  generalize hA : x - (jus x 1 &&& 1431655765) = a
  refine j_iload_n (i := 0) rfl (by decide +kernel) ?_
  refine j_ldcw (idx := 266) 858993459 (by decide) (by decide +kernel) ?_
  refine j_iand (by decide +kernel) ?_
  refine j_iload_n (i := 0) rfl (by decide +kernel) ?_
  refine j_iconst (n := 2) 2 (by decide) (by decide +kernel) ?_
  refine j_iushr (by decide +kernel) ?_
  refine j_ldcw (idx := 266) 858993459 (by decide) (by decide +kernel) ?_
  refine j_iand (by decide +kernel) ?_
  refine j_iadd (by decide +kernel) ?_
  refine j_istore_n (i := 0) (by decide +kernel) (by decide) ?_
  refine j_eqlv [some (.int ((a &&& 858993459) + (jus a 2 &&& 858993459)))] rfl ?_
  generalize hB : (a &&& 858993459) + (jus a 2 &&& 858993459) = b
  refine j_iload_n (i := 0) rfl (by decide +kernel) ?_
  refine j_iload_n (i := 0) rfl (by decide +kernel) ?_
  refine j_iconst (n := 4) 4 (by decide) (by decide +kernel) ?_
  refine j_iushr (by decide +kernel) ?_
  refine j_iadd (by decide +kernel) ?_
  refine j_ldcw (idx := 267) 252645135 (by decide) (by decide +kernel) ?_
  refine j_iand (by decide +kernel) ?_
  refine j_istore_n (i := 0) (by decide +kernel) (by decide) ?_
  refine j_eqlv [some (.int ((b + jus b 4) &&& 252645135))] rfl ?_
  generalize hC : (b + jus b 4) &&& 252645135 = c
  refine j_iload_n (i := 0) rfl (by decide +kernel) ?_
  refine j_iload_n (i := 0) rfl (by decide +kernel) ?_
  refine j_bipush (n := 8) 8 (by decide) (by decide +kernel) ?_
  refine j_iushr (by decide +kernel) ?_
  refine j_iadd (by decide +kernel) ?_
  refine j_istore_n (i := 0) (by decide +kernel) (by decide) ?_
  refine j_eqlv [some (.int (c + jus c 8))] rfl ?_
  generalize hD : c + jus c 8 = d
  refine j_iload_n (i := 0) rfl (by decide +kernel) ?_
  refine j_iload_n (i := 0) rfl (by decide +kernel) ?_
  refine j_bipush (n := 16) 16 (by decide) (by decide +kernel) ?_
  refine j_iushr (by decide +kernel) ?_
  refine j_iadd (by decide +kernel) ?_
  refine j_istore_n (i := 0) (by decide +kernel) (by decide) ?_
  refine j_iload_n (i := 0) rfl (by decide +kernel) ?_
  refine j_bipush (n := 63) 63 (by decide) (by decide +kernel) ?_
  refine j_iand (by decide +kernel) ?_
  exact j_iret rfl rfl (Nat.zero_le _) (Nat.zero_le _) (by decide +kernel) ⟨by rw [← hD, ← hC, ← hB, ← hA]; rfl, rfl, rfl⟩
