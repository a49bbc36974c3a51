/-! Lines and their fields. -/
section LN
variable {l v : Int32} {k m a s b c : Nat}
theorem plus1 {x : Int32} {N : Nat} (h : sIn x (-1) (N - 2)) (hN : N ≤ 128) : ∃ a : Nat, a < N ∧ x + 1 = nI a := by
  obtain ⟨h1, h2⟩ := h
  have e1 : (1 : Int32).toInt = 1 := rfl
  have e := toInt_add' (x := x) (y := 1) (by omega) (by omega)
  refine ⟨(x + 1).toInt.toNat, by omega, toInt_nn (by omega)⟩
theorem plus0 {x : Int32} {N : Nat} (h : sIn x 0 (N - 1)) : ∃ a : Nat, a < N ∧ x = nI a := by
  obtain ⟨h1, h2⟩ := h
  exact ⟨x.toInt.toNat, by omega, toInt_nn h1⟩
theorem minus1 {x : Int32} {a : Nat} (h : x + 1 = nI a) : nI a - 1 = x := by rw [← h]; exact Int32.add_sub_cancel x 1
theorem f_kind (h : sRg k m a s b c) : sKind (sPk k m a s b c) = nI k := pk_kind h
theorem f_made (h : sRg k m a s b c) : sMade (sPk k m a s b c) = nI m - 1 := by unfold sMade; rw [pk_made h]
theorem f_first (h : sRg k m a s b c) : sFirst (sPk k m a s b c) = nI a - 1 := by unfold sFirst; rw [pk_first h]
theorem f_sign (h : sRg k m a s b c) : sSign (sPk k m a s b c) = nI s := pk_sign h
theorem f_second (h : sRg k m a s b c) : sSecond (sPk k m a s b c) = nI b - 1 := by unfold sSecond; rw [pk_second h]
theorem f_count (h : sRg k m a s b c) : sCount (sPk k m a s b c) = nI c := pk_count h
theorem back1 (n : Nat) : nI n - 1 + 1 = nI n := Int32.sub_add_cancel (nI n) 1
theorem sPk_pack (h : sRg k m a s b c) : sPk k m a s b c = sPack (sKind (sPk k m a s b c)) (sMade (sPk k m a s b c)) (sFirst (sPk k m a s b c)) (sSign (sPk k m a s b c)) (sSecond (sPk k m a s b c)) (sCount (sPk k m a s b c)) := by
  rw [f_kind h, f_made h, f_first h, f_sign h, f_second h, f_count h]
  unfold sPack
  rw [back1, back1, back1]; rfl
theorem sAtom_rg {x : Int32} (h : sAtom x) : sIn x (-1) (128 - 2) := by
  rcases h with h | h
  · exact ⟨by have := h.1; omega, by have := h.2; omega⟩
  · exact ⟨by have := h.1; omega, by have := h.2; omega⟩
theorem m1_rg {x : Int32} (N : Int) (h : x = -1) (hN : -1 ≤ N) : sIn x (-1) N := by subst h; exact ⟨by decide, hN⟩
theorem ok_pk (hl : sOk l) : ∃ k m a s b c, sRg k m a s b c ∧ l = sPk k m a s b c := by
  rcases hl with rfl | ⟨e, f1, hh⟩
  · exact ⟨4, 0, 0, 0, 0, 0, by unfold sRg; decide, by decide⟩
  · have R : sIn (sKind l) 0 (8 - 1) ∧ sIn (sMade l) (-1) (8 - 2) ∧ sIn (sSign l) 0 (16 - 1) ∧ sIn (sSecond l) (-1) (128 - 2) ∧ sIn (sCount l) 0 (16 - 1) := by
      rcases hh with ⟨hk, hs, hc⟩ | ⟨hk, hm, hs, hb, hc⟩
      · refine ⟨?_, ?_, ?_, ?_, by rw [hc]; decide⟩
        · rcases hk with ⟨hk, -⟩ | ⟨hk, -⟩ <;> rw [hk] <;> decide
        · rcases hk with ⟨-, hm⟩ | ⟨-, hm⟩
          · exact ⟨by have := hm.1; omega, by have := hm.2; omega⟩
          · exact m1_rg _ hm (by decide)
        · rcases hs with ⟨hs, -⟩ | ⟨hs, -⟩
          · rw [hs]; decide
          · exact ⟨by have := hs.1; omega, by have := hs.2; omega⟩
        · rcases hs with ⟨-, hb⟩ | ⟨-, hb⟩
          · exact m1_rg _ hb (by decide)
          · exact sAtom_rg hb
      · refine ⟨?_, m1_rg _ hm (by decide), ⟨by have := hs.1; omega, by have := hs.2; omega⟩, sAtom_rg hb, ⟨by have := hc.1; omega, by have := hc.2; omega⟩⟩
        rcases hk with hk | hk <;> rw [hk] <;> decide
    obtain ⟨r1, r2, r3, r4, r5⟩ := R
    obtain ⟨k, hk, ek⟩ := plus0 (N := 8) r1
    obtain ⟨m, hm, em⟩ := plus1 (N := 8) r2 (by decide)
    obtain ⟨a, ha, ea⟩ := plus1 (N := 128) (sAtom_rg f1) (by decide)
    obtain ⟨s, hs, es⟩ := plus0 (N := 16) r3
    obtain ⟨b, hb, eb⟩ := plus1 (N := 128) r4 (by decide)
    obtain ⟨c, hc, ec⟩ := plus0 (N := 16) r5
    refine ⟨k, m, a, s, b, c, ⟨hk, hm, ha, hs, hb, hc⟩, ?_⟩
    rw [e]
    unfold sPack sPk
    rw [ek, em, ea, es, eb, ec]
/-- alike in all fields, alike -/
theorem fld_inj {l' : Int32} (h1 : sOk l) (h2 : sOk l') (h : ∀ j, j < 6 → sFld l j = sFld l' j) : l = l' := by
  obtain ⟨k, m, a, s, b, c, hr, rfl⟩ := ok_pk h1
  obtain ⟨k', m', a', s', b', c', hr', rfl⟩ := ok_pk h2
  rw [sPk_pack hr, sPk_pack hr']
  have e0 := h 0 (by decide)
  have e1 := h 1 (by decide)
  have e2 := h 2 (by decide)
  have e3 := h 3 (by decide)
  have e4 := h 4 (by decide)
  have e5 := h 5 (by decide)
  simp only [sFld] at e0 e1 e2 e3 e4 e5
  rw [e0, e1, e2, e3, e4, e5]
/-- six fields of lines that differ in one -/
def sSame (l l' : Int32) (w : Nat) (v : Int32) : Prop := ∀ j, j < 6 → sFld l' j = if j = w then v else sFld l j
theorem six {P : Nat → Prop} (h0 : P 0) (h1 : P 1) (h2 : P 2) (h3 : P 3) (h4 : P 4) (h5 : P 5) : ∀ j, j < 6 → P j := by
  intro j hj
  match j, hj with
  | 0, _ => exact h0
  | 1, _ => exact h1
  | 2, _ => exact h2
  | 3, _ => exact h3
  | 4, _ => exact h4
  | 5, _ => exact h5
theorem same_first (hl : sOk l) {v : Int32} (hv : sIn v (-1) (128 - 2)) : sSame l (sWithFirst l v) 2 v := by
  obtain ⟨k, m, a, s, b, c, hr, rfl⟩ := ok_pk hl
  obtain ⟨x, hx, ex⟩ := plus1 (N := 128) hv (by decide)
  have e : sWithFirst (sPk k m a s b c) v = sPk k m x s b c := by unfold sWithFirst; rw [ex]; exact pk_withFirst hr hx
  have hr' : sRg k m x s b c := ⟨hr.1, hr.2.1, hx, hr.2.2.2⟩
  rw [e]
  refine six ?_ ?_ ?_ ?_ ?_ ?_ <;> simp only [sFld, f_kind hr, f_kind hr', f_made hr, f_made hr', f_first hr', f_sign hr, f_sign hr', f_second hr, f_second hr', f_count hr, f_count hr'] <;> first | rfl | exact minus1 ex
theorem same_second (hl : sOk l) {v : Int32} (hv : sIn v (-1) (128 - 2)) : sSame l (sWithSecond l v) 4 v := by
  obtain ⟨k, m, a, s, b, c, hr, rfl⟩ := ok_pk hl
  obtain ⟨x, hx, ex⟩ := plus1 (N := 128) hv (by decide)
  have e : sWithSecond (sPk k m a s b c) v = sPk k m a s x c := by unfold sWithSecond; rw [ex]; exact pk_withSecond hr hx
  have hr' : sRg k m a s x c := ⟨hr.1, hr.2.1, hr.2.2.1, hr.2.2.2.1, hx, hr.2.2.2.2.2⟩
  rw [e]
  refine six ?_ ?_ ?_ ?_ ?_ ?_ <;> simp only [sFld, f_kind hr, f_kind hr', f_made hr, f_made hr', f_first hr, f_first hr', f_sign hr, f_sign hr', f_second hr', f_count hr, f_count hr'] <;> first | rfl | exact minus1 ex
theorem same_made (hl : sOk l) {v : Int32} (hv : sIn v (-1) (8 - 2)) : sSame l (sWithMade l v) 1 v := by
  obtain ⟨k, m, a, s, b, c, hr, rfl⟩ := ok_pk hl
  obtain ⟨x, hx, ex⟩ := plus1 (N := 8) hv (by decide)
  have e : sWithMade (sPk k m a s b c) v = sPk k x a s b c := by unfold sWithMade; rw [ex]; exact pk_withMade hr hx
  have hr' : sRg k x a s b c := ⟨hr.1, hx, hr.2.2⟩
  rw [e]
  refine six ?_ ?_ ?_ ?_ ?_ ?_ <;> simp only [sFld, f_kind hr, f_kind hr', f_made hr', f_first hr, f_first hr', f_sign hr, f_sign hr', f_second hr, f_second hr', f_count hr, f_count hr'] <;> first | rfl | exact minus1 ex
theorem same_sign (hl : sOk l) {v : Int32} (hv : sIn v 0 (16 - 1)) : sSame l (sWithSign l v) 3 v := by
  obtain ⟨k, m, a, s, b, c, hr, rfl⟩ := ok_pk hl
  obtain ⟨x, hx, rfl⟩ := plus0 (N := 16) hv
  have e : sWithSign (sPk k m a s b c) (nI x) = sPk k m a x b c := pk_withSign hr hx
  have hr' : sRg k m a x b c := ⟨hr.1, hr.2.1, hr.2.2.1, hx, hr.2.2.2.2⟩
  rw [e]
  refine six ?_ ?_ ?_ ?_ ?_ ?_ <;> simp only [sFld, f_kind hr, f_kind hr', f_made hr, f_made hr', f_first hr, f_first hr', f_sign hr', f_second hr, f_second hr', f_count hr, f_count hr'] <;> rfl
theorem same_count (hl : sOk l) {v : Int32} (hv : sIn v 0 (16 - 1)) : sSame l (sWithCount l v) 5 v := by
  obtain ⟨k, m, a, s, b, c, hr, rfl⟩ := ok_pk hl
  obtain ⟨x, hx, rfl⟩ := plus0 (N := 16) hv
  have e : sWithCount (sPk k m a s b c) (nI x) = sPk k m a s b x := pk_withCount hr hx
  have hr' : sRg k m a s b x := ⟨hr.1, hr.2.1, hr.2.2.1, hr.2.2.2.1, hr.2.2.2.2.1, hx⟩
  rw [e]
  refine six ?_ ?_ ?_ ?_ ?_ ?_ <;> simp only [sFld, f_kind hr, f_kind hr', f_made hr, f_made hr', f_first hr, f_first hr', f_sign hr, f_sign hr', f_second hr, f_second hr', f_count hr'] <;> rfl
/-- what a changed line is packed of -/
theorem with_pack (hl : sOk l) : (∀ v, sIn v (-1) (128 - 2) → sWithFirst l v = sPack (sKind (sWithFirst l v)) (sMade (sWithFirst l v)) (sFirst (sWithFirst l v)) (sSign (sWithFirst l v)) (sSecond (sWithFirst l v)) (sCount (sWithFirst l v))) ∧
    (∀ v, sIn v (-1) (128 - 2) → sWithSecond l v = sPack (sKind (sWithSecond l v)) (sMade (sWithSecond l v)) (sFirst (sWithSecond l v)) (sSign (sWithSecond l v)) (sSecond (sWithSecond l v)) (sCount (sWithSecond l v))) ∧
    (∀ v, sIn v (-1) (8 - 2) → sWithMade l v = sPack (sKind (sWithMade l v)) (sMade (sWithMade l v)) (sFirst (sWithMade l v)) (sSign (sWithMade l v)) (sSecond (sWithMade l v)) (sCount (sWithMade l v))) ∧
    (∀ v, sIn v 0 (16 - 1) → sWithSign l v = sPack (sKind (sWithSign l v)) (sMade (sWithSign l v)) (sFirst (sWithSign l v)) (sSign (sWithSign l v)) (sSecond (sWithSign l v)) (sCount (sWithSign l v))) ∧
    (∀ v, sIn v 0 (16 - 1) → sWithCount l v = sPack (sKind (sWithCount l v)) (sMade (sWithCount l v)) (sFirst (sWithCount l v)) (sSign (sWithCount l v)) (sSecond (sWithCount l v)) (sCount (sWithCount l v))) := by
  obtain ⟨k, m, a, s, b, c, hr, rfl⟩ := ok_pk hl
  refine ⟨fun v hv => ?_, fun v hv => ?_, fun v hv => ?_, fun v hv => ?_, fun v hv => ?_⟩
  · obtain ⟨x, hx, ex⟩ := plus1 (N := 128) hv (by decide)
    have e : sWithFirst (sPk k m a s b c) v = sPk k m x s b c := by unfold sWithFirst; rw [ex]; exact pk_withFirst hr hx
    rw [e]; exact sPk_pack ⟨hr.1, hr.2.1, hx, hr.2.2.2⟩
  · obtain ⟨x, hx, ex⟩ := plus1 (N := 128) hv (by decide)
    have e : sWithSecond (sPk k m a s b c) v = sPk k m a s x c := by unfold sWithSecond; rw [ex]; exact pk_withSecond hr hx
    rw [e]; exact sPk_pack ⟨hr.1, hr.2.1, hr.2.2.1, hr.2.2.2.1, hx, hr.2.2.2.2.2⟩
  · obtain ⟨x, hx, ex⟩ := plus1 (N := 8) hv (by decide)
    have e : sWithMade (sPk k m a s b c) v = sPk k x a s b c := by unfold sWithMade; rw [ex]; exact pk_withMade hr hx
    rw [e]; exact sPk_pack ⟨hr.1, hx, hr.2.2⟩
  · obtain ⟨x, hx, rfl⟩ := plus0 (N := 16) hv
    have e : sWithSign (sPk k m a s b c) (nI x) = sPk k m a x b c := pk_withSign hr hx
    rw [e]; exact sPk_pack ⟨hr.1, hr.2.1, hr.2.2.1, hx, hr.2.2.2.2⟩
  · obtain ⟨x, hx, rfl⟩ := plus0 (N := 16) hv
    have e : sWithCount (sPk k m a s b c) (nI x) = sPk k m a s b x := pk_withCount hr hx
    rw [e]; exact sPk_pack ⟨hr.1, hr.2.1, hr.2.2.1, hr.2.2.2.1, hr.2.2.2.2.1, hx⟩
end LN
