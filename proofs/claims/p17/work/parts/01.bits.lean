/-! ===== Int32 by its bits: bt x i ===== -/
def bt (x : Int32) (i : Nat) : Bool := x.toBitVec.getLsbD i
theorem b_ext {x y : Int32} (h : ∀ i, i < 32 → bt x i = bt y i) : x = y := Int32.toBitVec_inj.mp (BitVec.eq_of_getLsbD_eq (fun i hi => h i hi))
theorem b_or (x y : Int32) (i : Nat) : bt (x ||| y) i = (bt x i || bt y i) := by unfold bt; rw [Int32.toBitVec_or, BitVec.getLsbD_or]
theorem b_and (x y : Int32) (i : Nat) : bt (x &&& y) i = (bt x i && bt y i) := by unfold bt; rw [Int32.toBitVec_and, BitVec.getLsbD_and]
theorem b_xor (x y : Int32) (i : Nat) : bt (x ^^^ y) i = (bt x i ^^ bt y i) := by unfold bt; rw [Int32.toBitVec_xor, BitVec.getLsbD_xor]
theorem b_big {x : Int32} {i : Nat} (h : 32 ≤ i) : bt x i = false := BitVec.getLsbD_of_ge _ _ h
theorem b_255 (i : Nat) : bt 255 i = decide (i < 8) := by
  rcases Nat.lt_or_ge i 32 with h | h
  · exact (by decide +kernel : ∀ i, i < 32 → bt 255 i = decide (i < 8)) i h
  · rw [b_big h, decide_eq_false (by omega)]
theorem b_65535 (i : Nat) : bt 65535 i = decide (i < 16) := by
  rcases Nat.lt_or_ge i 32 with h | h
  · exact (by decide +kernel : ∀ i, i < 32 → bt 65535 i = decide (i < 16)) i h
  · rw [b_big h, decide_eq_false (by omega)]
theorem b_m1 : ∀ i, i < 32 → bt (-1) i = true := by decide +kernel
theorem b_0 (i : Nat) : bt 0 i = false := BitVec.getLsbD_zero
theorem s_l : ∀ n, n < 32 → ((nI n &&& 31).toBitVec.smod 32).toNat = n := by decide +kernel
theorem s_u : ∀ n, n < 32 → (((nI n).toUInt32 &&& Int32.toUInt32 31).toBitVec % 32).toNat = n := by decide +kernel
theorem b_shl (n : Nat) (hn : n < 32) (x : Int32) {i : Nat} (hi : i < 32) : bt (x <<< (nI n &&& 31)) i = (decide (n ≤ i) && bt x (i - n)) := by
  unfold bt
  rw [Int32.toBitVec_shiftLeft]
  show (x.toBitVec <<< ((nI n &&& 31).toBitVec.smod 32).toNat).getLsbD i = _
  rw [s_l n hn, BitVec.getLsbD_shiftLeft]
  rcases Nat.lt_or_ge i n with h | h
  · simp [h, Nat.not_le.mpr h]
  · simp [hi, h, Nat.not_lt.mpr h]
theorem b_ushr (n : Nat) (hn : n < 32) (x : Int32) (i : Nat) : bt ((x.toUInt32 >>> ((nI n).toUInt32 &&& Int32.toUInt32 31)).toInt32) i = bt x (n + i) := by
  show (x.toUInt32 >>> ((nI n).toUInt32 &&& Int32.toUInt32 31)).toBitVec.getLsbD i = x.toUInt32.toBitVec.getLsbD (n + i)
  rw [UInt32.toBitVec_shiftRight]
  show (x.toUInt32.toBitVec >>> (((nI n).toUInt32 &&& Int32.toUInt32 31).toBitVec % 32).toNat).getLsbD i = _
  rw [s_u n hn, BitVec.getLsbD_ushiftRight]
theorem b_sshr (n : Nat) (hn : n < 32) (x : Int32) {i : Nat} (hi : i < 32) : bt (x >>> (nI n &&& 31)) i = if n + i < 32 then bt x (n + i) else bt x 31 := by
  unfold bt
  rw [Int32.toBitVec_shiftRight]
  show (x.toBitVec.sshiftRight ((nI n &&& 31).toBitVec.smod 32).toNat).getLsbD i = _
  rw [s_l n hn, BitVec.getLsbD_sshiftRight, BitVec.msb_eq_getLsbD_last]
  simp [hi]
theorem b_shl8 (x : Int32) {i : Nat} (hi : i < 32) : bt (x <<< ((8 : Int32) &&& 31)) i = (decide (8 ≤ i) && bt x (i - 8)) := b_shl 8 (by omega) x hi
theorem b_shl16 (x : Int32) {i : Nat} (hi : i < 32) : bt (x <<< ((16 : Int32) &&& 31)) i = (decide (16 ≤ i) && bt x (i - 16)) := b_shl 16 (by omega) x hi
theorem b_shl24 (x : Int32) {i : Nat} (hi : i < 32) : bt (x <<< ((24 : Int32) &&& 31)) i = (decide (24 ≤ i) && bt x (i - 24)) := b_shl 24 (by omega) x hi
theorem b_sshr8 (x : Int32) {i : Nat} (hi : i < 32) : bt (x >>> ((8 : Int32) &&& 31)) i = if 8 + i < 32 then bt x (8 + i) else bt x 31 := b_sshr 8 (by omega) x hi
theorem zb_1 (k : Nat) : bt 1 k = decide (k = 0) := by
  rcases Nat.lt_or_ge k 32 with h | h
  · exact (by decide +kernel : ∀ i, i < 32 → bt 1 i = decide (i = 0)) k h
  · rw [b_big h, decide_eq_false (by omega)]
theorem zb_sh {l : Nat} (hl : l < 32) (i : Nat) : bt ((1 : Int32) <<< (nI l &&& 31)) i = decide (i = l) := by
  rcases Nat.lt_or_ge i 32 with h | h
  · rw [b_shl l hl 1 h, zb_1]
    rcases Nat.lt_or_ge i l with h2 | h2
    · rw [decide_eq_false (by omega : ¬ l ≤ i), decide_eq_false (by omega : ¬ i = l)]
      rfl
    · rw [decide_eq_true h2, Bool.true_and]
      by_cases e : i = l
      · rw [decide_eq_true e, decide_eq_true (by omega)]
      · rw [decide_eq_false e, decide_eq_false (by omega)]
  · rw [b_big h, decide_eq_false (by omega)]
theorem zb_con (x : Int32) {l : Nat} (hl : l < 32) : (x &&& ((1 : Int32) <<< (nI l &&& 31))) = 0 ↔ bt x l = false := by
  constructor
  · intro h
    have e := congrArg (fun z => bt z l) h
    rw [b_and, zb_sh hl, b_0, decide_eq_true rfl, Bool.and_true] at e
    exact e
  · intro h
    apply b_ext
    intro i _
    rw [b_and, zb_sh hl, b_0]
    by_cases e : i = l
    · subst e; rw [h]; rfl
    · rw [decide_eq_false e, Bool.and_false]
theorem zb_rs (x : Int32) {l : Nat} (hl : l < 32) : ((x >>> (nI l &&& 31)) &&& 1) = 0 ↔ bt x l = false := by
  have h0 : bt (x >>> (nI l &&& 31)) 0 = bt x l := by
    rw [b_sshr l hl x (by omega), if_pos (by omega)]
    rfl
  constructor
  · intro h
    have e := congrArg (fun z => bt z 0) h
    rw [b_and, zb_1, b_0, h0, decide_eq_true rfl, Bool.and_true] at e
    exact e
  · intro h
    apply b_ext
    intro i _
    rw [b_and, zb_1, b_0]
    by_cases e : i = 0
    · subst e; rw [h0, h]; rfl
    · rw [decide_eq_false e, Bool.and_false]
theorem zb_set (x : Int32) {l : Nat} (hl : l < 32) (i : Nat) : bt (x ||| ((1 : Int32) <<< (nI l &&& 31))) i = (bt x i || decide (i = l)) := by
  rw [b_or, zb_sh hl]
theorem zb_clr (x : Int32) {l : Nat} (hl : l < 32) (i : Nat) : bt (x &&& (((1 : Int32) <<< (nI l &&& 31)) ^^^ (-1))) i = (bt x i && !decide (i = l)) := by
  rw [b_and, b_xor, zb_sh hl]
  rcases Nat.lt_or_ge i 32 with h | h
  · rw [b_m1 i h, Bool.xor_true]
  · rw [b_big h, Bool.false_and, Bool.false_and]
theorem zb_nI (m i : Nat) : bt (nI m) i = (decide (i < 32) && m.testBit i) := by
  show (BitVec.ofNat 32 m).getLsbD i = _
  rw [BitVec.getLsbD_ofNat]
theorem zb_eq (x : Int32) : x = nI x.toBitVec.toNat := Int32.toBitVec_inj.mp (by show _ = BitVec.ofNat 32 _; simp)
theorem zb_lt {x : Int32} {R : Nat} (h : ∀ i, R ≤ i → bt x i = false) : x.toBitVec.toNat < 2 ^ R := by
  apply Nat.lt_pow_two_of_testBit
  intro i hi
  rw [BitVec.testBit_toNat]
  exact h i hi
theorem zb_of {x : Int32} {R : Nat} (h : ∀ i, R ≤ i → bt x i = false) : ∃ m : Nat, m < 2 ^ R ∧ x = nI m := ⟨_, zb_lt h, zb_eq x⟩
theorem zb_hi {m R : Nat} (h : m < 2 ^ R) {i : Nat} (hi : R ≤ i) : bt (nI m) i = false := by
  rw [zb_nI, Nat.testBit_lt_two_pow (Nat.lt_of_lt_of_le h (Nat.pow_le_pow_right (by omega) hi)), Bool.and_false]
theorem zb_p8 {R : Nat} (h : R ≤ 8) : 2 ^ R ≤ 256 := Nat.pow_le_pow_right (n := 2) (by omega) h
theorem zb_255 {m : Nat} (h : m < 256) : nI m &&& 255 = nI m := by
  rw [pk_andN (by omega) 8 (by decide), Nat.mod_eq_of_lt h]
theorem zb_nt {x : Bool} (h : ¬ x = true) : x = false := by cases x <;> first | rfl | exact absurd rfl h
theorem zb_nf {x : Bool} (h : ¬ x = false) : x = true := by cases x <;> first | rfl | exact absurd rfl h
def zx_ex (cl : Nat → Int32) (s : Int32) : Nat → Int32
  | 0 => 0
  | r + 1 => if bt s r = true then zx_ex cl s r ||| cl r else zx_ex cl s r
theorem zx_exb (cl : Nat → Int32) (s : Int32) (j : Nat) : ∀ R : Nat, bt (zx_ex cl s R) j = true ↔ ∃ r, r < R ∧ bt s r = true ∧ bt (cl r) j = true := by
  intro R
  induction R with
  | zero =>
    constructor
    · intro h
      rw [show zx_ex cl s 0 = 0 from rfl, b_0] at h
      exact absurd h (by decide)
    · intro ⟨r, hr, _⟩
      omega
  | succ R ih =>
    by_cases hb : bt s R = true
    · rw [show zx_ex cl s (R + 1) = zx_ex cl s R ||| cl R from if_pos hb, b_or, Bool.or_eq_true, ih]
      constructor
      · rintro (⟨r, h1, h2, h3⟩ | h)
        · exact ⟨r, by omega, h2, h3⟩
        · exact ⟨R, by omega, hb, h⟩
      · intro ⟨r, h1, h2, h3⟩
        rcases Nat.lt_or_ge r R with h | h
        · exact Or.inl ⟨r, h, h2, h3⟩
        · have e : r = R := by omega
          subst e
          exact Or.inr h3
    · rw [show zx_ex cl s (R + 1) = zx_ex cl s R from if_neg hb, ih]
      constructor
      · intro ⟨r, h1, h2, h3⟩
        exact ⟨r, by omega, h2, h3⟩
      · intro ⟨r, h1, h2, h3⟩
        rcases Nat.lt_or_ge r R with h | h
        · exact ⟨r, h, h2, h3⟩
        · have e : r = R := by omega
          subst e
          exact absurd h2 hb
theorem zx_exc {cl cl' : Nat → Int32} (s : Int32) : ∀ R : Nat, (∀ r, r < R → cl r = cl' r) → zx_ex cl s R = zx_ex cl' s R := by
  intro R
  induction R with
  | zero => exact fun _ => rfl
  | succ R ih =>
    intro h
    show (if bt s R = true then zx_ex cl s R ||| cl R else zx_ex cl s R) = (if bt s R = true then zx_ex cl' s R ||| cl' R else zx_ex cl' s R)
    rw [ih (fun r hr => h r (by omega)), h R (by omega)]
