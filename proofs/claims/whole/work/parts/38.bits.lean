/-! ===== Int32 by its bits: bt x i ===== -/
def bt (x : Int32) (i : Nat) : Bool := x.toBitVec.getLsbD i
theorem b_ext {x y : Int32} (h : ∀ i, i < 32 → bt x i = bt y i) : x = y := Int32.toBitVec_inj.mp (BitVec.eq_of_getLsbD_eq (fun i hi => h i hi))
theorem b_or (x y : Int32) (i : Nat) : bt (x ||| y) i = (bt x i || bt y i) := by unfold bt; rw [Int32.toBitVec_or, BitVec.getLsbD_or]
theorem b_and (x y : Int32) (i : Nat) : bt (x &&& y) i = (bt x i && bt y i) := by unfold bt; rw [Int32.toBitVec_and, BitVec.getLsbD_and]
theorem b_xor (x y : Int32) (i : Nat) : bt (x ^^^ y) i = (bt x i ^^ bt y i) := by unfold bt; rw [Int32.toBitVec_xor, BitVec.getLsbD_xor]
theorem b_big {x : Int32} {i : Nat} (h : 32 ≤ i) : bt x i = false := BitVec.getLsbD_of_ge _ _ h
theorem b_255 (i : Nat) : bt 255 i = decide (i < 8) := by
  rcases Nat.lt_or_ge i 32 with h | h
  · exact (by decide +kernel : ∀ i, i < 32 → bt 255 i = decide (i < 8)) i h
  · rw [b_big h, decide_eq_false (by omega)]
theorem b_65535 (i : Nat) : bt 65535 i = decide (i < 16) := by
  rcases Nat.lt_or_ge i 32 with h | h
  · exact (by decide +kernel : ∀ i, i < 32 → bt 65535 i = decide (i < 16)) i h
  · rw [b_big h, decide_eq_false (by omega)]
theorem b_m1 : ∀ i, i < 32 → bt (-1) i = true := by decide +kernel
theorem b_0 (i : Nat) : bt 0 i = false := BitVec.getLsbD_zero
theorem s_l : ∀ n, n < 32 → ((nI n &&& 31).toBitVec.smod 32).toNat = n := by decide +kernel
theorem s_u : ∀ n, n < 32 → (((nI n).toUInt32 &&& Int32.toUInt32 31).toBitVec % 32).toNat = n := by decide +kernel
theorem b_shl (n : Nat) (hn : n < 32) (x : Int32) {i : Nat} (hi : i < 32) : bt (x <<< (nI n &&& 31)) i = (decide (n ≤ i) && bt x (i - n)) := by
  unfold bt
  rw [Int32.toBitVec_shiftLeft]
  show (x.toBitVec <<< ((nI n &&& 31).toBitVec.smod 32).toNat).getLsbD i = _
  rw [s_l n hn, BitVec.getLsbD_shiftLeft]
  rcases Nat.lt_or_ge i n with h | h
  · simp [h, Nat.not_le.mpr h]
  · simp [hi, h, Nat.not_lt.mpr h]
theorem b_ushr (n : Nat) (hn : n < 32) (x : Int32) (i : Nat) : bt ((x.toUInt32 >>> ((nI n).toUInt32 &&& Int32.toUInt32 31)).toInt32) i = bt x (n + i) := by
  show (x.toUInt32 >>> ((nI n).toUInt32 &&& Int32.toUInt32 31)).toBitVec.getLsbD i = x.toUInt32.toBitVec.getLsbD (n + i)
  rw [UInt32.toBitVec_shiftRight]
  show (x.toUInt32.toBitVec >>> (((nI n).toUInt32 &&& Int32.toUInt32 31).toBitVec % 32).toNat).getLsbD i = _
  rw [s_u n hn, BitVec.getLsbD_ushiftRight]
theorem b_sshr (n : Nat) (hn : n < 32) (x : Int32) {i : Nat} (hi : i < 32) : bt (x >>> (nI n &&& 31)) i = if n + i < 32 then bt x (n + i) else bt x 31 := by
  unfold bt
  rw [Int32.toBitVec_shiftRight]
  show (x.toBitVec.sshiftRight ((nI n &&& 31).toBitVec.smod 32).toNat).getLsbD i = _
  rw [s_l n hn, BitVec.getLsbD_sshiftRight, BitVec.msb_eq_getLsbD_last]
  simp [hi]
theorem b_shl8 (x : Int32) {i : Nat} (hi : i < 32) : bt (x <<< ((8 : Int32) &&& 31)) i = (decide (8 ≤ i) && bt x (i - 8)) := b_shl 8 (by omega) x hi
theorem b_shl16 (x : Int32) {i : Nat} (hi : i < 32) : bt (x <<< ((16 : Int32) &&& 31)) i = (decide (16 ≤ i) && bt x (i - 16)) := b_shl 16 (by omega) x hi
theorem b_shl24 (x : Int32) {i : Nat} (hi : i < 32) : bt (x <<< ((24 : Int32) &&& 31)) i = (decide (24 ≤ i) && bt x (i - 24)) := b_shl 24 (by omega) x hi
theorem b_sshr8 (x : Int32) {i : Nat} (hi : i < 32) : bt (x >>> ((8 : Int32) &&& 31)) i = if 8 + i < 32 then bt x (8 + i) else bt x 31 := b_sshr 8 (by omega) x hi
/-! one bit, bits of a count, and the fields of a line -/
theorem b_1 (i : Nat) (hi : i < 32) : bt 1 i = decide (i = 0) := (by decide +kernel : ∀ i, i < 32 → bt 1 i = decide (i = 0)) i hi
theorem bt_one {n i : Nat} (hn : n < 32) (hi : i < 32) : bt ((1 : Int32) <<< (nI n &&& 31)) i = decide (i = n) := by
  rw [b_shl n hn _ hi, b_1 _ (by omega)]
  by_cases h : i = n
  · subst h; simp
  · by_cases h2 : n ≤ i
    · simp [h, h2]; omega
    · simp [h, h2]
theorem x_bit {x : Int32} {n : Nat} (hn : n < 32) : (x >>> (nI n &&& 31)) &&& 1 = if bt x n = true then 1 else 0 := by
  refine b_ext fun i hi => ?_
  rw [b_and, b_sshr n hn _ hi, b_1 i hi]
  by_cases h : i = 0
  · subst h
    rw [if_pos (by omega)]
    by_cases hb : bt x n = true
    · rw [if_pos hb]; simp [hb]; decide
    · rw [if_neg hb]; simp at hb; simp [hb]; decide
  · by_cases hb : bt x n = true
    · rw [if_pos hb, b_1 i hi]; simp [h]
    · rw [if_neg hb, b_0]; simp [h]
theorem x_bit1 {x : Int32} {n : Nat} (hn : n < 32) : (x >>> (nI n &&& 31)) &&& 1 = 1 ↔ bt x n = true := by
  rw [x_bit hn]
  by_cases hb : bt x n = true
  · simp [hb]
  · rw [if_neg hb]; exact ⟨fun q => absurd q (by decide), fun q => absurd q hb⟩
theorem x_bit0 {x : Int32} {n : Nat} (hn : n < 32) : (x >>> (nI n &&& 31)) &&& 1 = 0 ↔ ¬ bt x n = true := by
  rw [x_bit hn]
  by_cases hb : bt x n = true
  · rw [if_pos hb]; exact ⟨fun q => absurd q (by decide), fun q => absurd hb q⟩
  · simp [hb]
/-- the bits of a property of 0 .. n - 1 -/
noncomputable def sBits (f : Nat → Prop) : Nat → Int32
  | 0 => 0
  | n + 1 => haveI := Classical.propDecidable; if f n then sBits f n ||| ((1 : Int32) <<< (nI n &&& 31)) else sBits f n
theorem sBits_t {f : Nat → Prop} {n : Nat} (h : f n) : sBits f (n + 1) = sBits f n ||| ((1 : Int32) <<< (nI n &&& 31)) := if_pos h
theorem sBits_f {f : Nat → Prop} {n : Nat} (h : ¬ f n) : sBits f (n + 1) = sBits f n := if_neg h
theorem bt_sBits {f : Nat → Prop} : ∀ {n : Nat}, n ≤ 32 → ∀ {i : Nat}, i < 32 → (bt (sBits f n) i = true ↔ i < n ∧ f i) := by
  intro n
  induction n with
  | zero => intro _ i _; rw [sBits, b_0]; simp
  | succ n ih =>
    intro hn i hi
    by_cases h : f n
    · rw [sBits_t h, b_or, bt_one (by omega) hi, Bool.or_eq_true, ih (by omega) hi, decide_eq_true_eq]
      constructor
      · rintro (⟨a, b⟩ | a)
        · exact ⟨by omega, b⟩
        · subst a; exact ⟨by omega, h⟩
      · rintro ⟨a, b⟩
        by_cases q : i = n
        · exact Or.inr q
        · exact Or.inl ⟨by omega, b⟩
    · rw [sBits_f h, ih (by omega) hi]
      constructor
      · rintro ⟨a, b⟩; exact ⟨by omega, b⟩
      · rintro ⟨a, b⟩
        refine ⟨?_, b⟩
        by_cases q : i = n
        · subst q; exact absurd b h
        · omega
theorem sBits_congr {f g : Nat → Prop} {n : Nat} (h : ∀ i, i < n → (f i ↔ g i)) : sBits f n = sBits g n := by
  induction n with
  | zero => rfl
  | succ n ih =>
    have e := ih (fun i hi => h i (by omega))
    by_cases hf : f n
    · rw [sBits_t hf, sBits_t ((h n (by omega)).mp hf), e]
    · rw [sBits_f hf, sBits_f (fun q => hf ((h n (by omega)).mpr q)), e]
theorem bt_nI {n i : Nat} (hi : i < 32) : bt (nI n) i = n.testBit i := by
  unfold bt
  show (BitVec.ofNat 32 n).getLsbD i = _
  rw [BitVec.getLsbD_ofNat]
  simp [hi]
theorem bt_small {n w i : Nat} (h : n < 2 ^ w) (hi : w ≤ i) : bt (nI n) i = false := by
  by_cases h32 : i < 32
  · rw [bt_nI h32]
    exact Nat.testBit_lt_two_pow (Nat.lt_of_lt_of_le h (Nat.pow_le_pow_right (by decide) hi))
  · exact b_big (by omega)
/-- shifts by written numbers -/
theorem bl (n : Nat) (s : Int32) (hs : s = nI n &&& 31) (hn : n < 32) (x : Int32) {i : Nat} (hi : i < 32) : bt (x <<< s) i = (decide (n ≤ i) && bt x (i - n)) := by rw [hs]; exact b_shl n hn x hi
theorem br (n : Nat) (s : Int32) (hs : s = nI n &&& 31) (hn : n < 32) (x : Int32) {i : Nat} (hi : i < 32) : bt (x >>> s) i = if n + i < 32 then bt x (n + i) else bt x 31 := by rw [hs]; exact b_sshr n hn x hi
theorem b_7 (i : Nat) (hi : i < 32) : bt 7 i = decide (i < 3) := (by decide +kernel : ∀ i, i < 32 → bt 7 i = decide (i < 3)) i hi
theorem b_15 (i : Nat) (hi : i < 32) : bt 15 i = decide (i < 4) := (by decide +kernel : ∀ i, i < 32 → bt 15 i = decide (i < 4)) i hi
theorem b_127 (i : Nat) (hi : i < 32) : bt 127 i = decide (i < 7) := (by decide +kernel : ∀ i, i < 32 → bt 127 i = decide (i < 7)) i hi
theorem b_m57 (i : Nat) (hi : i < 32) : bt (-57) i = !(decide (3 ≤ i) && decide (i < 6)) := (by decide +kernel : ∀ i, i < 32 → bt (-57) i = !(decide (3 ≤ i) && decide (i < 6))) i hi
theorem b_m8129 (i : Nat) (hi : i < 32) : bt (-8129) i = !(decide (6 ≤ i) && decide (i < 13)) := (by decide +kernel : ∀ i, i < 32 → bt (-8129) i = !(decide (6 ≤ i) && decide (i < 13))) i hi
theorem b_m122881 (i : Nat) (hi : i < 32) : bt (-122881) i = !(decide (13 ≤ i) && decide (i < 17)) := (by decide +kernel : ∀ i, i < 32 → bt (-122881) i = !(decide (13 ≤ i) && decide (i < 17))) i hi
theorem b_m16646145 (i : Nat) (hi : i < 32) : bt (-16646145) i = !(decide (17 ≤ i) && decide (i < 24)) := (by decide +kernel : ∀ i, i < 32 → bt (-16646145) i = !(decide (17 ≤ i) && decide (i < 24))) i hi
theorem b_m251658241 (i : Nat) (hi : i < 32) : bt (-251658241) i = !(decide (24 ≤ i) && decide (i < 28)) := (by decide +kernel : ∀ i, i < 32 → bt (-251658241) i = !(decide (24 ≤ i) && decide (i < 28))) i hi
/-- a line out of six small numbers -/
def sPk (k m a s b c : Nat) : Int32 := ((((nI k ||| (nI m <<< 3)) ||| (nI a <<< 6)) ||| (nI s <<< 13)) ||| (nI b <<< 17)) ||| (nI c <<< 24)
def sRg (k m a s b c : Nat) : Prop := k < 8 ∧ m < 8 ∧ a < 128 ∧ s < 16 ∧ b < 128 ∧ c < 16
theorem bt_pk {k m a s b c i : Nat} (hi : i < 32) : bt (sPk k m a s b c) i = (bt (nI k) i || (decide (3 ≤ i) && bt (nI m) (i - 3)) || (decide (6 ≤ i) && bt (nI a) (i - 6)) || (decide (13 ≤ i) && bt (nI s) (i - 13)) || (decide (17 ≤ i) && bt (nI b) (i - 17)) || (decide (24 ≤ i) && bt (nI c) (i - 24))) := by
  unfold sPk
  rw [b_or, b_or, b_or, b_or, b_or, bl 3 3 (by decide) (by decide) _ hi, bl 6 6 (by decide) (by decide) _ hi, bl 13 13 (by decide) (by decide) _ hi, bl 17 17 (by decide) (by decide) _ hi, bl 24 24 (by decide) (by decide) _ hi]
section PK
variable {k m a s b c : Nat}
theorem pkK (h : sRg k m a s b c) {i : Nat} : 3 ≤ i → bt (nI k) i = false := fun q => bt_small (w := 3) h.1 q
theorem pkM (h : sRg k m a s b c) {i : Nat} : 3 ≤ i → bt (nI m) i = false := fun q => bt_small (w := 3) h.2.1 q
theorem pkA (h : sRg k m a s b c) {i : Nat} : 7 ≤ i → bt (nI a) i = false := fun q => bt_small (w := 7) h.2.2.1 q
theorem pkS (h : sRg k m a s b c) {i : Nat} : 4 ≤ i → bt (nI s) i = false := fun q => bt_small (w := 4) h.2.2.2.1 q
theorem pkB (h : sRg k m a s b c) {i : Nat} : 7 ≤ i → bt (nI b) i = false := fun q => bt_small (w := 7) h.2.2.2.2.1 q
theorem pkC (h : sRg k m a s b c) {i : Nat} : 4 ≤ i → bt (nI c) i = false := fun q => bt_small (w := 4) h.2.2.2.2.2 q
theorem pk_kind (h : sRg k m a s b c) : (sPk k m a s b c &&& 7 : Int32) = nI k := by
  refine b_ext fun i hi => ?_
  rw [b_and, b_7 i hi, bt_pk hi]
  by_cases hw : i < 3
  · simp [hw, show ¬ 3 ≤ i by omega, show ¬ 6 ≤ i by omega, show ¬ 13 ≤ i by omega, show ¬ 17 ≤ i by omega, show ¬ 24 ≤ i by omega]
  · rw [pkK h (by omega)]; simp [hw]
theorem pk_made (h : sRg k m a s b c) : ((sPk k m a s b c >>> 3) &&& 7 : Int32) = nI m := by
  refine b_ext fun i hi => ?_
  rw [b_and, b_7 i hi, br 3 3 (by decide) (by decide) _ hi]
  by_cases hw : i < 3
  · rw [if_pos (by omega), bt_pk (by omega)]
    simp [hw, pkK h (i := 3 + i) (by omega), show 3 + i - 3 = i by omega, show 3 ≤ 3 + i by omega, show ¬ 6 ≤ 3 + i by omega, show ¬ 13 ≤ 3 + i by omega, show ¬ 17 ≤ 3 + i by omega, show ¬ 24 ≤ 3 + i by omega]
  · rw [pkM h (by omega)]; simp [hw]
theorem pk_first (h : sRg k m a s b c) : ((sPk k m a s b c >>> 6) &&& 127 : Int32) = nI a := by
  refine b_ext fun i hi => ?_
  rw [b_and, b_127 i hi, br 6 6 (by decide) (by decide) _ hi]
  by_cases hw : i < 7
  · rw [if_pos (by omega), bt_pk (by omega)]
    simp [hw, pkK h (i := 6 + i) (by omega), pkM h (i := 6 + i - 3) (by omega), show 6 + i - 6 = i by omega, show 6 ≤ 6 + i by omega, show ¬ 13 ≤ 6 + i by omega, show ¬ 17 ≤ 6 + i by omega, show ¬ 24 ≤ 6 + i by omega]
  · rw [pkA h (by omega)]; simp [hw]
theorem pk_sign (h : sRg k m a s b c) : ((sPk k m a s b c >>> 13) &&& 15 : Int32) = nI s := by
  refine b_ext fun i hi => ?_
  rw [b_and, b_15 i hi, br 13 13 (by decide) (by decide) _ hi]
  by_cases hw : i < 4
  · rw [if_pos (by omega), bt_pk (by omega)]
    simp [hw, pkK h (i := 13 + i) (by omega), pkM h (i := 13 + i - 3) (by omega), pkA h (i := 13 + i - 6) (by omega), show 13 + i - 13 = i by omega, show 13 ≤ 13 + i by omega, show ¬ 17 ≤ 13 + i by omega, show ¬ 24 ≤ 13 + i by omega]
  · rw [pkS h (by omega)]; simp [hw]
theorem pk_second (h : sRg k m a s b c) : ((sPk k m a s b c >>> 17) &&& 127 : Int32) = nI b := by
  refine b_ext fun i hi => ?_
  rw [b_and, b_127 i hi, br 17 17 (by decide) (by decide) _ hi]
  by_cases hw : i < 7
  · rw [if_pos (by omega), bt_pk (by omega)]
    simp [hw, pkK h (i := 17 + i) (by omega), pkM h (i := 17 + i - 3) (by omega), pkA h (i := 17 + i - 6) (by omega), pkS h (i := 17 + i - 13) (by omega), show 17 + i - 17 = i by omega, show 17 ≤ 17 + i by omega, show ¬ 24 ≤ 17 + i by omega]
  · rw [pkB h (by omega)]; simp [hw]
theorem pk_count (h : sRg k m a s b c) : ((sPk k m a s b c >>> 24) &&& 15 : Int32) = nI c := by
  refine b_ext fun i hi => ?_
  rw [b_and, b_15 i hi, br 24 24 (by decide) (by decide) _ hi]
  by_cases hw : i < 4
  · rw [if_pos (by omega), bt_pk (by omega)]
    simp [hw, pkK h (i := 24 + i) (by omega), pkM h (i := 24 + i - 3) (by omega), pkA h (i := 24 + i - 6) (by omega), pkS h (i := 24 + i - 13) (by omega), pkB h (i := 24 + i - 17) (by omega), show 24 + i - 24 = i by omega, show 24 ≤ 24 + i by omega]
  · rw [pkC h (by omega)]; simp [hw]
theorem pk_withMade (h : sRg k m a s b c) {v : Nat} (hv : v < 8) : (sPk k m a s b c &&& (-57 : Int32)) ||| (nI v <<< 3) = sPk k v a s b c := by
  refine b_ext fun i hi => ?_
  rw [b_or, b_and, b_m57 i hi, bt_pk hi, bt_pk hi, bl 3 3 (by decide) (by decide) _ hi]
  by_cases h1 : i < 3
  · simp [show ¬ 3 ≤ i by omega]
  · by_cases h2 : i < 6
    · simp [show 3 ≤ i by omega, h2, pkK h (i := i) (by omega), show ¬ 6 ≤ i by omega, show ¬ 13 ≤ i by omega, show ¬ 17 ≤ i by omega, show ¬ 24 ≤ i by omega]
    · have z : bt (nI v) (i - 3) = false := bt_small (w := 3) hv (by omega)
      have z2 : bt (nI m) (i - 3) = false := pkM h (by omega)
      simp [h2, z, z2]
theorem pk_withFirst (h : sRg k m a s b c) {v : Nat} (hv : v < 128) : (sPk k m a s b c &&& (-8129 : Int32)) ||| (nI v <<< 6) = sPk k m v s b c := by
  refine b_ext fun i hi => ?_
  rw [b_or, b_and, b_m8129 i hi, bt_pk hi, bt_pk hi, bl 6 6 (by decide) (by decide) _ hi]
  by_cases h1 : i < 6
  · simp [show ¬ 6 ≤ i by omega]
  · by_cases h2 : i < 13
    · simp [show 6 ≤ i by omega, h2, pkK h (i := i) (by omega), pkM h (i := i - 3) (by omega), show ¬ 13 ≤ i by omega, show ¬ 17 ≤ i by omega, show ¬ 24 ≤ i by omega]
    · have z : bt (nI v) (i - 6) = false := bt_small (w := 7) hv (by omega)
      have z2 : bt (nI a) (i - 6) = false := pkA h (by omega)
      simp [h2, z, z2]
theorem pk_withSign (h : sRg k m a s b c) {v : Nat} (hv : v < 16) : (sPk k m a s b c &&& (-122881 : Int32)) ||| (nI v <<< 13) = sPk k m a v b c := by
  refine b_ext fun i hi => ?_
  rw [b_or, b_and, b_m122881 i hi, bt_pk hi, bt_pk hi, bl 13 13 (by decide) (by decide) _ hi]
  by_cases h1 : i < 13
  · simp [show ¬ 13 ≤ i by omega]
  · by_cases h2 : i < 17
    · simp [show 13 ≤ i by omega, h2, pkK h (i := i) (by omega), pkM h (i := i - 3) (by omega), pkA h (i := i - 6) (by omega), show ¬ 17 ≤ i by omega, show ¬ 24 ≤ i by omega]
    · have z : bt (nI v) (i - 13) = false := bt_small (w := 4) hv (by omega)
      have z2 : bt (nI s) (i - 13) = false := pkS h (by omega)
      simp [h2, z, z2]
theorem pk_withSecond (h : sRg k m a s b c) {v : Nat} (hv : v < 128) : (sPk k m a s b c &&& (-16646145 : Int32)) ||| (nI v <<< 17) = sPk k m a s v c := by
  refine b_ext fun i hi => ?_
  rw [b_or, b_and, b_m16646145 i hi, bt_pk hi, bt_pk hi, bl 17 17 (by decide) (by decide) _ hi]
  by_cases h1 : i < 17
  · simp [show ¬ 17 ≤ i by omega]
  · by_cases h2 : i < 24
    · simp [show 17 ≤ i by omega, h2, pkK h (i := i) (by omega), pkM h (i := i - 3) (by omega), pkA h (i := i - 6) (by omega), pkS h (i := i - 13) (by omega), show ¬ 24 ≤ i by omega]
    · have z : bt (nI v) (i - 17) = false := bt_small (w := 7) hv (by omega)
      have z2 : bt (nI b) (i - 17) = false := pkB h (by omega)
      simp [h2, z, z2]
theorem pk_withCount (h : sRg k m a s b c) {v : Nat} (hv : v < 16) : (sPk k m a s b c &&& (-251658241 : Int32)) ||| (nI v <<< 24) = sPk k m a s b v := by
  refine b_ext fun i hi => ?_
  rw [b_or, b_and, b_m251658241 i hi, bt_pk hi, bt_pk hi, bl 24 24 (by decide) (by decide) _ hi]
  by_cases h1 : i < 24
  · simp [show ¬ 24 ≤ i by omega]
  · by_cases h2 : i < 28
    · simp [show 24 ≤ i by omega, h2, pkK h (i := i) (by omega), pkM h (i := i - 3) (by omega), pkA h (i := i - 6) (by omega), pkS h (i := i - 13) (by omega), pkB h (i := i - 17) (by omega)]
    · have z : bt (nI v) (i - 24) = false := bt_small (w := 4) hv (by omega)
      have z2 : bt (nI c) (i - 24) = false := pkC h (by omega)
      simp [h2, z, z2]
end PK
