section
/-! ===== Int32 by its bits: bt x i ===== -/
def bt (x : Int32) (i : Nat) : Bool := x.toBitVec.getLsbD i
theorem b_ext {x y : Int32} (h : ∀ i, i < 32 → bt x i = bt y i) : x = y := Int32.toBitVec_inj.mp (BitVec.eq_of_getLsbD_eq (fun i hi => h i hi))
theorem b_or (x y : Int32) (i : Nat) : bt (x ||| y) i = (bt x i || bt y i) := by unfold bt; rw [Int32.toBitVec_or, BitVec.getLsbD_or]
theorem b_and (x y : Int32) (i : Nat) : bt (x &&& y) i = (bt x i && bt y i) := by unfold bt; rw [Int32.toBitVec_and, BitVec.getLsbD_and]
theorem b_xor (x y : Int32) (i : Nat) : bt (x ^^^ y) i = (bt x i ^^ bt y i) := by unfold bt; rw [Int32.toBitVec_xor, BitVec.getLsbD_xor]
theorem b_big {x : Int32} {i : Nat} (h : 32 ≤ i) : bt x i = false := BitVec.getLsbD_of_ge _ _ h
theorem b_255 (i : Nat) : bt 255 i = decide (i < 8) := by
  rcases Nat.lt_or_ge i 32 with h | h
  · exact (by decide +kernel : ∀ i, i < 32 → bt 255 i = decide (i < 8)) i h
  · rw [b_big h, decide_eq_false (by omega)]
theorem b_65535 (i : Nat) : bt 65535 i = decide (i < 16) := by
  rcases Nat.lt_or_ge i 32 with h | h
  · exact (by decide +kernel : ∀ i, i < 32 → bt 65535 i = decide (i < 16)) i h
  · rw [b_big h, decide_eq_false (by omega)]
theorem b_m1 : ∀ i, i < 32 → bt (-1) i = true := by decide +kernel
theorem b_0 (i : Nat) : bt 0 i = false := BitVec.getLsbD_zero
theorem s_l : ∀ n, n < 32 → ((nI n &&& 31).toBitVec.smod 32).toNat = n := by decide +kernel
theorem s_u : ∀ n, n < 32 → (((nI n).toUInt32 &&& Int32.toUInt32 31).toBitVec % 32).toNat = n := by decide +kernel
theorem b_shl (n : Nat) (hn : n < 32) (x : Int32) {i : Nat} (hi : i < 32) : bt (x <<< (nI n &&& 31)) i = (decide (n ≤ i) && bt x (i - n)) := by
  unfold bt
  rw [Int32.toBitVec_shiftLeft]
  show (x.toBitVec <<< ((nI n &&& 31).toBitVec.smod 32).toNat).getLsbD i = _
  rw [s_l n hn, BitVec.getLsbD_shiftLeft]
  rcases Nat.lt_or_ge i n with h | h
  · simp [h, Nat.not_le.mpr h]
  · simp [hi, h, Nat.not_lt.mpr h]
theorem b_ushr (n : Nat) (hn : n < 32) (x : Int32) (i : Nat) : bt ((x.toUInt32 >>> ((nI n).toUInt32 &&& Int32.toUInt32 31)).toInt32) i = bt x (n + i) := by
  show (x.toUInt32 >>> ((nI n).toUInt32 &&& Int32.toUInt32 31)).toBitVec.getLsbD i = x.toUInt32.toBitVec.getLsbD (n + i)
  rw [UInt32.toBitVec_shiftRight]
  show (x.toUInt32.toBitVec >>> (((nI n).toUInt32 &&& Int32.toUInt32 31).toBitVec % 32).toNat).getLsbD i = _
  rw [s_u n hn, BitVec.getLsbD_ushiftRight]
theorem b_sshr (n : Nat) (hn : n < 32) (x : Int32) {i : Nat} (hi : i < 32) : bt (x >>> (nI n &&& 31)) i = if n + i < 32 then bt x (n + i) else bt x 31 := by
  unfold bt
  rw [Int32.toBitVec_shiftRight]
  show (x.toBitVec.sshiftRight ((nI n &&& 31).toBitVec.smod 32).toNat).getLsbD i = _
  rw [s_l n hn, BitVec.getLsbD_sshiftRight, BitVec.msb_eq_getLsbD_last]
  simp [hi]
theorem b_shl8 (x : Int32) {i : Nat} (hi : i < 32) : bt (x <<< ((8 : Int32) &&& 31)) i = (decide (8 ≤ i) && bt x (i - 8)) := b_shl 8 (by omega) x hi
theorem b_shl16 (x : Int32) {i : Nat} (hi : i < 32) : bt (x <<< ((16 : Int32) &&& 31)) i = (decide (16 ≤ i) && bt x (i - 16)) := b_shl 16 (by omega) x hi
theorem b_shl24 (x : Int32) {i : Nat} (hi : i < 32) : bt (x <<< ((24 : Int32) &&& 31)) i = (decide (24 ≤ i) && bt x (i - 24)) := b_shl 24 (by omega) x hi
theorem b_sshr8 (x : Int32) {i : Nat} (hi : i < 32) : bt (x >>> ((8 : Int32) &&& 31)) i = if 8 + i < 32 then bt x (8 + i) else bt x 31 := b_sshr 8 (by omega) x hi
theorem pk_us {f : Nat → Int32} {k : Nat} {x : Int32} : upd f k x k = x := if_pos rfl
theorem pk_un {f : Nat → Int32} {k j : Nat} {x : Int32} (h : j ≠ k) : upd f k x j = f j := if_neg h
theorem pk_sub {a b : Nat} (h : b ≤ a) : nI a - nI b = nI (a - b) := by
  obtain ⟨c, rfl⟩ : ∃ c, a = c + b := ⟨a - b, by omega⟩
  rw [← nI_add, Int32.add_sub_cancel, Nat.add_sub_cancel]
theorem pk_m1 (n : Nat) : nI (n + 1) + (-1) = nI n := by
  rw [← nI_1, Int32.add_assoc, show (1 : Int32) + (-1) = 0 from rfl, Int32.add_zero]
theorem pk_mul (a b : Nat) : nI a * nI b = nI (a * b) := (Int32.ofNat_mul a b).symm
theorem pk_ix (x : Int32) {n : Nat} (hn : n < 2 ^ 31) : x < 0 ∨ nI n ≤ x ∨ ∃ j : Nat, j < n ∧ x = nI j := by
  by_cases h : x < 0
  · exact Or.inl h
  · obtain ⟨j, hj, rfl⟩ := nI_of h
    by_cases h2 : j < n
    · exact Or.inr (Or.inr ⟨j, h2, rfl⟩)
    · exact Or.inr (Or.inl (nI_le (by omega) hj))
theorem pk_le {x y : Int32} {A B : Prop} (a b : Nat) (f : a ≤ b → A) (g : b < a → B) (hx : x = nI a := by rfl) (hy : y = nI b := by rfl) (ha : a < 2 ^ 31 := by omega) (hb : b < 2 ^ 31 := by omega) : (x ≤ y → A) ∧ (¬ x ≤ y → B) := by
  subst hx hy
  rw [nI_leI ha hb]
  exact ⟨f, fun z => g (by omega)⟩
theorem pk_lt {x y : Int32} {A B : Prop} (a b : Nat) (f : a < b → A) (g : b ≤ a → B) (hx : x = nI a := by rfl) (hy : y = nI b := by rfl) (ha : a < 2 ^ 31 := by omega) (hb : b < 2 ^ 31 := by omega) : (x < y → A) ∧ (¬ x < y → B) := by
  subst hx hy
  rw [nI_ltI ha hb]
  exact ⟨f, fun z => g (by omega)⟩
theorem pk_eq {x y : Int32} {A B : Prop} (a b : Nat) (f : a = b → A) (g : a ≠ b → B) (hx : x = nI a := by rfl) (hy : y = nI b := by rfl) (ha : a < 2 ^ 31 := by omega) (hb : b < 2 ^ 31 := by omega) : (x = y → A) ∧ (¬ x = y → B) := by
  subst hx hy
  rw [nI_eq ha hb]
  exact ⟨f, g⟩
theorem pk_in {x : Int32} (n N : Nat) (h : n < N) (hx : x = nI n := by rfl) (hN : N < 2 ^ 31 := by omega) : vp_in x N := by
  subst hx
  exact vp_in_nI h hN
theorem pk_cl {x : Int32} (n : Nat) (hx : x = nI n := by rfl) (h : n < 2 ^ 31 := by omega) : x.toNatClampNeg = n := by
  subst hx
  exact nI_clamp h
theorem pk_tn {n : Nat} (h : n < 2 ^ 32) : (nI n).toBitVec.toNat = n := Nat.mod_eq_of_lt h
theorem pk_and (x : Int32) {m : Int32} (k : Nat) (hm : m.toBitVec.toNat = 2 ^ k - 1) : x &&& m = nI (x.toBitVec.toNat % 2 ^ k) := by
  apply Int32.toBitVec_inj.mp
  apply BitVec.eq_of_toNat_eq
  rw [Int32.toBitVec_and, BitVec.toNat_and, hm, Nat.and_two_pow_sub_one_eq_mod]
  show _ = (BitVec.ofNat 32 _).toNat
  rw [BitVec.toNat_ofNat]
  exact (Nat.mod_eq_of_lt (Nat.lt_of_le_of_lt (Nat.mod_le _ _) x.toBitVec.isLt)).symm
theorem pk_andN {n : Nat} (h : n < 2 ^ 32) {m : Int32} (k : Nat) (hm : m.toBitVec.toNat = 2 ^ k - 1) : nI n &&& m = nI (n % 2 ^ k) := by
  rw [pk_and _ k hm, pk_tn h]
theorem pk_andE (x : Int32) {m : Int32} (k : Nat) (hm : m.toBitVec.toNat = 2 ^ k - 1) : ∃ j : Nat, j < 2 ^ k ∧ x &&& m = nI j := ⟨_, Nat.mod_lt _ (Nat.two_pow_pos k), pk_and x k hm⟩
theorem pk_andIn (x : Int32) {m : Int32} (k : Nat) (hm : m.toBitVec.toNat = 2 ^ k - 1) (hk : k ≤ 30) : vp_in (x &&& m) (2 ^ k) := by
  obtain ⟨j, hj, e⟩ := pk_andE x k hm
  rw [e]
  exact vp_in_nI hj (Nat.lt_of_le_of_lt (Nat.pow_le_pow_right (by decide) hk) (by decide))
theorem pk_shl (a s : Int32) (k : Nat) (hs : (s.toBitVec.smod 32).toNat = k) : (a <<< s).toBitVec.toNat = a.toBitVec.toNat * 2 ^ k % 2 ^ 32 := by
  show (a.toBitVec <<< (s.toBitVec.smod 32).toNat).toNat = _
  rw [hs, BitVec.toNat_shiftLeft, Nat.shiftLeft_eq]
theorem pk_shlN {n : Nat} (s : Int32) (k : Nat) (hs : (s.toBitVec.smod 32).toNat = k) (h : n * 2 ^ k < 2 ^ 32) : nI n <<< s = nI (n * 2 ^ k) := by
  apply Int32.toBitVec_inj.mp
  apply BitVec.eq_of_toNat_eq
  have hn : n < 2 ^ 32 := Nat.lt_of_le_of_lt (Nat.le_mul_of_pos_right n (Nat.two_pow_pos k)) h
  rw [pk_shl _ _ k hs, pk_tn hn, pk_tn h, Nat.mod_eq_of_lt h]
theorem pk_shr (a s : Int32) (k : Nat) (hs : (s.toBitVec.smod 32).toNat = k) : (a >>> s).toInt = a.toInt >>> k := by
  show (a.toBitVec.sshiftRight (s.toBitVec.smod 32).toNat).toInt = _
  rw [hs, BitVec.toInt_sshiftRight]
  rfl
theorem pk_shrN {n : Nat} (h : n < 2 ^ 31) (s : Int32) (k : Nat) (hs : (s.toBitVec.smod 32).toNat = k) : nI n >>> s = nI (n / 2 ^ k) := by
  apply Int32.toInt_inj.mp
  have h2 : n / 2 ^ k ≤ n := Nat.div_le_self _ _
  rw [pk_shr _ _ k hs, nI_toInt h, nI_toInt (by omega), Int.shiftRight_eq_div_pow]
  rfl
theorem pk_ushr (x s : Int32) (k : Nat) (hs : ((s.toUInt32 &&& Int32.toUInt32 31).toBitVec % 32).toNat = k) : (x.toUInt32 >>> (s.toUInt32 &&& Int32.toUInt32 31)).toInt32.toBitVec.toNat = x.toBitVec.toNat / 2 ^ k := by
  have e : (x.toUInt32 >>> (s.toUInt32 &&& Int32.toUInt32 31)).toInt32.toBitVec = x.toBitVec >>> k := by
    rw [← hs]
    exact UInt32.toBitVec_shiftRight _ _
  rw [e, BitVec.toNat_ushiftRight, Nat.shiftRight_eq_div_pow]
theorem pk_ushrN {n : Nat} (hn : n < 2 ^ 32) (s : Int32) (k : Nat) (hs : ((s.toUInt32 &&& Int32.toUInt32 31).toBitVec % 32).toNat = k) : ((nI n).toUInt32 >>> (s.toUInt32 &&& Int32.toUInt32 31)).toInt32 = nI (n / 2 ^ k) := by
  apply Int32.toBitVec_inj.mp
  apply BitVec.eq_of_toNat_eq
  rw [pk_ushr _ s k hs, pk_tn hn, pk_tn (Nat.lt_of_le_of_lt (Nat.div_le_self _ _) hn)]
theorem pk_loop {σ : Type} (W : Nat → Nat → σ → Prop) (I : Nat → σ → Prop) (e i0 : Nat) (s : σ) (hi : i0 ≤ e) (h0 : I i0 s) (hx : ∀ n s, I e s → W (n + 1) e s)
    (hs : ∀ n i s, i < e → I i s → (∀ s', I (i + 1) s' → W n (i + 1) s') → W (n + 1) i s) : ∃ n, W n i0 s :=
  ⟨e + 1, loop_i W I e hx hs (e + 1) i0 s hi (by omega) h0⟩
theorem pk_loopD {σ : Type} (W : Nat → Nat → σ → Prop) (I : Nat → σ → Prop) (hx : ∀ n s, I 0 s → W (n + 1) 0 s)
    (hs : ∀ n i s, I (i + 1) s → (∀ s', I i s' → W n i s') → W (n + 1) (i + 1) s) : ∀ (e : Nat) (s : σ), I e s → W (e + 1) e s := by
  intro e
  induction e with
  | zero => exact fun s h => hx 0 s h
  | succ e ih => exact fun s h => hs (e + 1) e s h (fun s' h' => ih s' h')
theorem zb_1 (k : Nat) : bt 1 k = decide (k = 0) := by
  rcases Nat.lt_or_ge k 32 with h | h
  · exact (by decide +kernel : ∀ i, i < 32 → bt 1 i = decide (i = 0)) k h
  · rw [b_big h, decide_eq_false (by omega)]
theorem zb_sh {l : Nat} (hl : l < 32) (i : Nat) : bt ((1 : Int32) <<< (nI l &&& 31)) i = decide (i = l) := by
  rcases Nat.lt_or_ge i 32 with h | h
  · rw [b_shl l hl 1 h, zb_1]
    rcases Nat.lt_or_ge i l with h2 | h2
    · rw [decide_eq_false (by omega : ¬ l ≤ i), decide_eq_false (by omega : ¬ i = l)]
      rfl
    · rw [decide_eq_true h2, Bool.true_and]
      by_cases e : i = l
      · rw [decide_eq_true e, decide_eq_true (by omega)]
      · rw [decide_eq_false e, decide_eq_false (by omega)]
  · rw [b_big h, decide_eq_false (by omega)]
theorem zb_con (x : Int32) {l : Nat} (hl : l < 32) : (x &&& ((1 : Int32) <<< (nI l &&& 31))) = 0 ↔ bt x l = false := by
  constructor
  · intro h
    have e := congrArg (fun z => bt z l) h
    rw [b_and, zb_sh hl, b_0, decide_eq_true rfl, Bool.and_true] at e
    exact e
  · intro h
    apply b_ext
    intro i _
    rw [b_and, zb_sh hl, b_0]
    by_cases e : i = l
    · subst e; rw [h]; rfl
    · rw [decide_eq_false e, Bool.and_false]
theorem zb_rs (x : Int32) {l : Nat} (hl : l < 32) : ((x >>> (nI l &&& 31)) &&& 1) = 0 ↔ bt x l = false := by
  have h0 : bt (x >>> (nI l &&& 31)) 0 = bt x l := by
    rw [b_sshr l hl x (by omega), if_pos (by omega)]
    rfl
  constructor
  · intro h
    have e := congrArg (fun z => bt z 0) h
    rw [b_and, zb_1, b_0, h0, decide_eq_true rfl, Bool.and_true] at e
    exact e
  · intro h
    apply b_ext
    intro i _
    rw [b_and, zb_1, b_0]
    by_cases e : i = 0
    · subst e; rw [h0, h]; rfl
    · rw [decide_eq_false e, Bool.and_false]
theorem zb_set (x : Int32) {l : Nat} (hl : l < 32) (i : Nat) : bt (x ||| ((1 : Int32) <<< (nI l &&& 31))) i = (bt x i || decide (i = l)) := by
  rw [b_or, zb_sh hl]
theorem zb_clr (x : Int32) {l : Nat} (hl : l < 32) (i : Nat) : bt (x &&& (((1 : Int32) <<< (nI l &&& 31)) ^^^ (-1))) i = (bt x i && !decide (i = l)) := by
  rw [b_and, b_xor, zb_sh hl]
  rcases Nat.lt_or_ge i 32 with h | h
  · rw [b_m1 i h, Bool.xor_true]
  · rw [b_big h, Bool.false_and, Bool.false_and]
theorem zb_nI (m i : Nat) : bt (nI m) i = (decide (i < 32) && m.testBit i) := by
  show (BitVec.ofNat 32 m).getLsbD i = _
  rw [BitVec.getLsbD_ofNat]
theorem zb_eq (x : Int32) : x = nI x.toBitVec.toNat := Int32.toBitVec_inj.mp (by show _ = BitVec.ofNat 32 _; simp)
theorem zb_lt {x : Int32} {R : Nat} (h : ∀ i, R ≤ i → bt x i = false) : x.toBitVec.toNat < 2 ^ R := by
  apply Nat.lt_pow_two_of_testBit
  intro i hi
  rw [BitVec.testBit_toNat]
  exact h i hi
theorem zb_of {x : Int32} {R : Nat} (h : ∀ i, R ≤ i → bt x i = false) : ∃ m : Nat, m < 2 ^ R ∧ x = nI m := ⟨_, zb_lt h, zb_eq x⟩
theorem zb_hi {m R : Nat} (h : m < 2 ^ R) {i : Nat} (hi : R ≤ i) : bt (nI m) i = false := by
  rw [zb_nI, Nat.testBit_lt_two_pow (Nat.lt_of_lt_of_le h (Nat.pow_le_pow_right (by omega) hi)), Bool.and_false]
theorem zb_p8 {R : Nat} (h : R ≤ 8) : 2 ^ R ≤ 256 := Nat.pow_le_pow_right (n := 2) (by omega) h
theorem zb_255 {m : Nat} (h : m < 256) : nI m &&& 255 = nI m := by
  rw [pk_andN (by omega) 8 (by decide), Nat.mod_eq_of_lt h]
theorem zb_nt {x : Bool} (h : ¬ x = true) : x = false := by cases x <;> first | rfl | exact absurd rfl h
theorem zb_nf {x : Bool} (h : ¬ x = false) : x = true := by cases x <;> first | rfl | exact absurd rfl h
def zx_ex (cl : Nat → Int32) (s : Int32) : Nat → Int32
  | 0 => 0
  | r + 1 => if bt s r = true then zx_ex cl s r ||| cl r else zx_ex cl s r
theorem zx_exb (cl : Nat → Int32) (s : Int32) (j : Nat) : ∀ R : Nat, bt (zx_ex cl s R) j = true ↔ ∃ r, r < R ∧ bt s r = true ∧ bt (cl r) j = true := by
  intro R
  induction R with
  | zero =>
    constructor
    · intro h
      rw [show zx_ex cl s 0 = 0 from rfl, b_0] at h
      exact absurd h (by decide)
    · intro ⟨r, hr, _⟩
      omega
  | succ R ih =>
    by_cases hb : bt s R = true
    · rw [show zx_ex cl s (R + 1) = zx_ex cl s R ||| cl R from if_pos hb, b_or, Bool.or_eq_true, ih]
      constructor
      · rintro (⟨r, h1, h2, h3⟩ | h)
        · exact ⟨r, by omega, h2, h3⟩
        · exact ⟨R, by omega, hb, h⟩
      · intro ⟨r, h1, h2, h3⟩
        rcases Nat.lt_or_ge r R with h | h
        · exact Or.inl ⟨r, h, h2, h3⟩
        · have e : r = R := by omega
          subst e
          exact Or.inr h3
    · rw [show zx_ex cl s (R + 1) = zx_ex cl s R from if_neg hb, ih]
      constructor
      · intro ⟨r, h1, h2, h3⟩
        exact ⟨r, by omega, h2, h3⟩
      · intro ⟨r, h1, h2, h3⟩
        rcases Nat.lt_or_ge r R with h | h
        · exact ⟨r, h, h2, h3⟩
        · have e : r = R := by omega
          subst e
          exact absurd h2 hb
theorem zx_exc {cl cl' : Nat → Int32} (s : Int32) : ∀ R : Nat, (∀ r, r < R → cl r = cl' r) → zx_ex cl s R = zx_ex cl' s R := by
  intro R
  induction R with
  | zero => exact fun _ => rfl
  | succ R ih =>
    intro h
    show (if bt s R = true then zx_ex cl s R ||| cl R else zx_ex cl s R) = (if bt s R = true then zx_ex cl' s R ||| cl' R else zx_ex cl' s R)
    rw [ih (fun r hr => h r (by omega)), h R (by omega)]
end
section
noncomputable def zc_n (p : Nat → Prop) : Nat → Nat
  | 0 => 0
  | m + 1 => zc_n p m + @ite Nat (p m) (Classical.propDecidable _) 1 0
theorem zc_s1 {p : Nat → Prop} {m : Nat} (h : p m) : zc_n p (m + 1) = zc_n p m + 1 := by
  show zc_n p m + @ite Nat (p m) (Classical.propDecidable _) 1 0 = _
  rw [if_pos h]
theorem zc_s0 {p : Nat → Prop} {m : Nat} (h : ¬ p m) : zc_n p (m + 1) = zc_n p m := by
  show zc_n p m + @ite Nat (p m) (Classical.propDecidable _) 1 0 = _
  rw [if_neg h]
  rfl
theorem zc_le (p : Nat → Prop) : ∀ m : Nat, zc_n p m ≤ m := by
  intro m
  induction m with
  | zero => exact Nat.le_refl _
  | succ m ih =>
    by_cases h : p m
    · rw [zc_s1 h]; omega
    · rw [zc_s0 h]; omega
theorem zc_mono {p q : Nat → Prop} : ∀ m : Nat, (∀ j, j < m → p j → q j) → zc_n p m ≤ zc_n q m := by
  intro m
  induction m with
  | zero => intro _; exact Nat.le_refl _
  | succ m ih =>
    intro h
    have i := ih (fun j hj => h j (by omega))
    by_cases hp : p m
    · rw [zc_s1 hp, zc_s1 (h m (by omega) hp)]; omega
    · rw [zc_s0 hp]
      by_cases hq : q m
      · rw [zc_s1 hq]; omega
      · rw [zc_s0 hq]; exact i
theorem zc_lt {p q : Nat → Prop} : ∀ m : Nat, (∀ j, j < m → p j → q j) → ∀ j, j < m → q j → ¬ p j → zc_n p m < zc_n q m := by
  intro m
  induction m with
  | zero => intro _ j hj; omega
  | succ m ih =>
    intro h j hj hq hp
    have i := zc_mono m (fun j hj => h j (by omega))
    rcases Nat.lt_or_ge j m with hl | hl
    · have i2 := ih (fun j hj => h j (by omega)) j hl hq hp
      by_cases hpm : p m
      · rw [zc_s1 hpm, zc_s1 (h m (by omega) hpm)]; omega
      · rw [zc_s0 hpm]
        by_cases hqm : q m
        · rw [zc_s1 hqm]; omega
        · rw [zc_s0 hqm]; exact i2
    · have e : j = m := by omega
      subst e
      rw [zc_s0 hp, zc_s1 hq]; omega
/-! walks of at most n edges from r -/
def zw_d (E : Nat → Nat → Prop) (r : Nat) : Nat → Nat → Prop
  | 0 => fun j => r = j
  | n + 1 => fun j => zw_d E r n j ∨ ∃ m, zw_d E r n m ∧ E m j
def zw_r (E : Nat → Nat → Prop) (r j : Nat) : Prop := ∃ n : Nat, zw_d E r n j
theorem zw_le {E : Nat → Nat → Prop} {r n : Nat} : ∀ {m j : Nat}, n ≤ m → zw_d E r n j → zw_d E r m j := by
  intro m
  induction m with
  | zero =>
    intro j h z
    have e : n = 0 := by omega
    subst e
    exact z
  | succ m ih =>
    intro j h z
    rcases Nat.lt_or_ge m n with h2 | h2
    · have e : n = m + 1 := by omega
      subst e
      exact z
    · exact Or.inl (ih h2 z)
theorem zw_in {E : Nat → Nat → Prop} {R r : Nat} (hE : ∀ a b, E a b → b < R) (hr : r < R) : ∀ {n j : Nat}, zw_d E r n j → j < R := by
  intro n
  induction n with
  | zero =>
    intro j h
    have e : r = j := h
    omega
  | succ n ih =>
    intro j h
    rcases h with h | ⟨m, _, h⟩
    · exact ih h
    · exact hE _ _ h
theorem zw_fix {E : Nat → Nat → Prop} {r n : Nat} (h : ∀ j, zw_d E r (n + 1) j → zw_d E r n j) : ∀ (m j : Nat), zw_d E r m j → zw_d E r n j := by
  intro m
  induction m with
  | zero => exact fun j z => zw_le (Nat.zero_le _) z
  | succ m ih =>
    intro j z
    rcases z with z | ⟨a, z, e⟩
    · exact ih j z
    · exact h j (Or.inr ⟨a, ih a z, e⟩)
theorem zw_cut {E : Nat → Nat → Prop} {R r : Nat} (hE : ∀ a b, E a b → b < R) (hr : r < R) {m j : Nat} (h : zw_d E r m j) : zw_d E r R j := by
  by_cases H : ∃ n, n ≤ R ∧ ∀ j, zw_d E r (n + 1) j → zw_d E r n j
  · obtain ⟨n, hn, hf⟩ := H
    exact zw_le hn (zw_fix hf m j h)
  · have hg : ∀ n, n ≤ R + 1 → n ≤ zc_n (zw_d E r n) R := by
      intro n
      induction n with
      | zero => intro _; exact Nat.zero_le _
      | succ n ih =>
        intro hn
        have i := ih (by omega)
        have hx : ∃ j, zw_d E r (n + 1) j ∧ ¬ zw_d E r n j := by
          apply Classical.byContradiction
          intro hc
          apply H
          refine ⟨n, by omega, fun j hj => ?_⟩
          apply Classical.byContradiction
          intro hc2
          exact hc ⟨j, hj, hc2⟩
        obtain ⟨j, h1, h2⟩ := hx
        have := zc_lt (p := zw_d E r n) (q := zw_d E r (n + 1)) R (fun j _ z => Or.inl z) j (zw_in hE hr h1) h1 h2
        omega
    have a := hg (R + 1) (by omega)
    have b := zc_le (zw_d E r (R + 1)) R
    omega
theorem zw_tr {E : Nat → Nat → Prop} {a b n : Nat} (h : zw_d E a n b) : ∀ {m c : Nat}, zw_d E b m c → zw_d E a (n + m) c := by
  intro m
  induction m with
  | zero =>
    intro c z
    have e : b = c := z
    subst e
    exact h
  | succ m ih =>
    intro c z
    rcases z with z | ⟨x, z, e⟩
    · exact Or.inl (ih z)
    · exact Or.inr ⟨x, ih z, e⟩
theorem zw_rt {E : Nat → Nat → Prop} {a b c : Nat} (h : zw_r E a b) (z : zw_r E b c) : zw_r E a c := by
  obtain ⟨n, h⟩ := h
  obtain ⟨m, z⟩ := z
  exact ⟨n + m, zw_tr h z⟩
theorem zw_r0 {E : Nat → Nat → Prop} (a : Nat) : zw_r E a a := ⟨0, rfl⟩
theorem zw_1 {E : Nat → Nat → Prop} {a b : Nat} (h : E a b) : zw_d E a 1 b := Or.inr ⟨a, rfl, h⟩
theorem zw_r1 {E : Nat → Nat → Prop} {a b : Nat} (h : E a b) : zw_r E a b := ⟨1, zw_1 h⟩
theorem zw_rin {E : Nat → Nat → Prop} {R r j : Nat} (hE : ∀ a b, E a b → b < R) (hr : r < R) (h : zw_r E r j) : j < R := by
  obtain ⟨n, h⟩ := h
  exact zw_in hE hr h
theorem zw_rc {E : Nat → Nat → Prop} {R r j n : Nat} (hE : ∀ a b, E a b → b < R) (hr : r < R) (hn : R ≤ n) (h : zw_r E r j) : zw_d E r n j := by
  obtain ⟨m, h⟩ := h
  exact zw_le hn (zw_cut hE hr h)
/-! plans -/
def zp_run (ap : Nat → Nat → Prop) (go : Nat → Nat → Nat) : List Nat → Nat → Nat → Prop
  | [], s, t => s = t
  | i :: p, s, t => ap s i ∧ zp_run ap go p (go s i) t
def zp_code : List Nat → Nat
  | [] => 0
  | i :: p => (i + 1) * 17 ^ p.length + zp_code p
theorem zp_sn {ap : Nat → Nat → Prop} {go : Nat → Nat → Nat} {m i : Nat} : ∀ {p : List Nat} {s : Nat}, zp_run ap go p s m → ap m i → zp_run ap go (p ++ [i]) s (go m i) := by
  intro p
  induction p with
  | nil =>
    intro s h a
    have e : s = m := h
    subst e
    exact ⟨a, rfl⟩
  | cons x p ih =>
    intro s h a
    exact ⟨h.1, ih h.2 a⟩
theorem zp_cs (p : List Nat) (i : Nat) : zp_code (p ++ [i]) = 17 * zp_code p + i + 1 := by
  induction p with
  | nil =>
    show (i + 1) * 17 ^ 0 + 0 = 17 * 0 + i + 1
    omega
  | cons x p ih =>
    show (x + 1) * 17 ^ (p ++ [i]).length + zp_code (p ++ [i]) = 17 * ((x + 1) * 17 ^ p.length + zp_code p) + i + 1
    rw [ih, List.length_append, List.length_singleton, Nat.pow_succ, ← Nat.mul_assoc]
    generalize (x + 1) * 17 ^ p.length = z
    omega
theorem zp_dg {ap : Nat → Nat → Prop} {go : Nat → Nat → Nat} (hA : ∀ s i, ap s i → i < 16) : ∀ {p : List Nat} {s t : Nat}, zp_run ap go p s t → ∀ i, i ∈ p → i < 16 := by
  intro p
  induction p with
  | nil =>
    intro s t _ i hi
    exact absurd hi (List.not_mem_nil)
  | cons x p ih =>
    intro s t h i hi
    rcases List.mem_cons.mp hi with e | hi
    · subst e
      exact hA _ _ h.1
    · exact ih h.2 i hi
theorem zp_lt {p : List Nat} (h : ∀ i, i ∈ p → i < 16) : zp_code p < 17 ^ p.length := by
  induction p with
  | nil => show 0 < 17 ^ 0; omega
  | cons x p ih =>
    have i := ih (fun i hi => h i (List.mem_cons_of_mem _ hi))
    have hx := h x (List.mem_cons_self)
    show (x + 1) * 17 ^ p.length + zp_code p < 17 ^ (p.length + 1)
    have hm : (x + 1) * 17 ^ p.length ≤ 16 * 17 ^ p.length := Nat.mul_le_mul_right _ (by omega)
    rw [Nat.pow_succ]
    omega
theorem zp_ge (i : Nat) (p : List Nat) : 17 ^ p.length ≤ zp_code (i :: p) := by
  show 17 ^ p.length ≤ (i + 1) * 17 ^ p.length + zp_code p
  have hm : 1 * 17 ^ p.length ≤ (i + 1) * 17 ^ p.length := Nat.mul_le_mul_right _ (by omega)
  omega
theorem zp_ln {p q : List Nat} (h : ∀ i, i ∈ p → i < 16) (hl : p.length < q.length) : zp_code p < zp_code q := by
  cases q with
  | nil => exact absurd hl (Nat.not_lt_zero _)
  | cons x q =>
    have a := zp_lt h
    have b := zp_ge x q
    have c : 17 ^ p.length ≤ 17 ^ q.length := Nat.pow_le_pow_right (by omega) (by simp only [List.length_cons] at hl; omega)
    omega
def zp_min (ap : Nat → Nat → Prop) (go : Nat → Nat → Nat) (T : Nat → Prop) (s : Nat) (p : List Nat) : Prop :=
  (∃ t, zp_run ap go p s t ∧ T t) ∧ ∀ q t, zp_run ap go q s t → T t → zp_code p ≤ zp_code q
theorem zp_mlen {ap : Nat → Nat → Prop} {go : Nat → Nat → Nat} {T : Nat → Prop} (hA : ∀ s i, ap s i → i < 16) {s : Nat} {p : List Nat} (h : zp_min ap go T s p) {q : List Nat} {t : Nat} (hq : zp_run ap go q s t) (ht : T t) : p.length ≤ q.length := by
  rcases Nat.lt_or_ge q.length p.length with hl | hl
  · have a := zp_ln (zp_dg hA hq) hl
    have b := h.2 q t hq ht
    omega
  · exact hl
theorem zp_mtl {ap : Nat → Nat → Prop} {go : Nat → Nat → Nat} {T : Nat → Prop} (hA : ∀ s i, ap s i → i < 16) {s i : Nat} {p : List Nat} (h : zp_min ap go T s (i :: p)) : ap s i ∧ zp_min ap go T (go s i) p := by
  obtain ⟨⟨t, hr, ht⟩, hm⟩ := h
  refine ⟨hr.1, ⟨t, hr.2, ht⟩, fun q t' hq ht' => ?_⟩
  have a : (i + 1) * 17 ^ p.length + zp_code p ≤ (i + 1) * 17 ^ q.length + zp_code q := hm (i :: q) t' ⟨hr.1, hq⟩ ht'
  rcases Nat.lt_or_ge p.length q.length with hl | hl
  · exact Nat.le_of_lt (zp_ln (zp_dg hA hr.2) hl)
  · have c : (i + 1) * 17 ^ q.length ≤ (i + 1) * 17 ^ p.length := Nat.mul_le_mul_left _ (Nat.pow_le_pow_right (by omega) hl)
    omega
theorem zp_mfst {ap : Nat → Nat → Prop} {go : Nat → Nat → Nat} {T : Nat → Prop} (hA : ∀ s i, ap s i → i < 16) {s i : Nat} {p : List Nat} (h : zp_min ap go T s (i :: p)) {j : Nat} (hj : j < i) (ha : ap s j) {q : List Nat} {t : Nat} (hq : zp_run ap go q (go s j) t) (ht : T t) : q.length ≠ p.length := by
  intro hl
  have a : (i + 1) * 17 ^ p.length + zp_code p ≤ (j + 1) * 17 ^ q.length + zp_code q := h.2 (j :: q) t ⟨ha, hq⟩ ht
  have b := zp_lt (zp_dg hA hq)
  rw [hl] at a b
  have c : (j + 2) * 17 ^ p.length ≤ (i + 1) * 17 ^ p.length := Nat.mul_le_mul_right _ (by omega)
  have d : (j + 2) * 17 ^ p.length = (j + 1) * 17 ^ p.length + 17 ^ p.length := by rw [Nat.add_mul (j + 1) 1, Nat.one_mul]
  omega
/-! the queue's end: n found sets, in the order of their codes -/
def zp_end (ap : Nat → Nat → Prop) (go : Nat → Nat → Nat) (st n : Nat) (Q : Nat → Nat) (P : Nat → List Nat) : Prop :=
  0 < n ∧ Q 0 = st ∧ P st = [] ∧
  (∀ j, j < n → zp_run ap go (P (Q j)) st (Q j)) ∧
  (∀ i j, i < j → j < n → zp_code (P (Q i)) < zp_code (P (Q j))) ∧
  (∀ j i, j < n → ap (Q j) i → ∃ k, k < n ∧ Q k = go (Q j) i ∧ zp_code (P (go (Q j) i)) ≤ 17 * zp_code (P (Q j)) + i + 1)
theorem zp_all {ap : Nat → Nat → Prop} {go : Nat → Nat → Nat} {st n : Nat} {Q : Nat → Nat} {P : Nat → List Nat} (h : zp_end ap go st n Q P) : ∀ (q : List Nat) (s t c j : Nat), j < n → Q j = s → zp_code (P s) ≤ c → zp_run ap go q s t → ∃ k, k < n ∧ Q k = t ∧ zp_code (P t) ≤ c * 17 ^ q.length + zp_code q := by
  obtain ⟨_, _, _, _, _, hc⟩ := h
  intro q
  induction q with
  | nil =>
    intro s t c j hj hQ hcd hr
    have e : s = t := hr
    subst e
    refine ⟨j, hj, hQ, ?_⟩
    show zp_code (P s) ≤ c * 17 ^ 0 + 0
    omega
  | cons i q ih =>
    intro s t c j hj hQ hcd hr
    subst hQ
    obtain ⟨k, hk, hQk, hle⟩ := hc j i hj hr.1
    obtain ⟨k2, h1, h2, h3⟩ := ih (go (Q j) i) t (17 * c + i + 1) k hk hQk (by omega) hr.2
    refine ⟨k2, h1, h2, ?_⟩
    show zp_code (P t) ≤ c * 17 ^ (q.length + 1) + ((i + 1) * 17 ^ q.length + zp_code q)
    have e : (17 * c + i + 1) * 17 ^ q.length = c * 17 ^ (q.length + 1) + (i + 1) * 17 ^ q.length := by
      rw [Nat.pow_succ, Nat.add_assoc, Nat.add_mul, Nat.mul_comm 17 c, Nat.mul_assoc, Nat.mul_comm 17 (17 ^ q.length)]
    omega
theorem zp_fnd {ap : Nat → Nat → Prop} {go : Nat → Nat → Nat} {st n : Nat} {Q : Nat → Nat} {P : Nat → List Nat} (h : zp_end ap go st n Q P) {q : List Nat} {t : Nat} (hr : zp_run ap go q st t) : ∃ k, k < n ∧ Q k = t ∧ zp_code (P t) ≤ zp_code q := by
  obtain ⟨k, h1, h2, h3⟩ := zp_all h q st t 0 0 h.1 h.2.1 (by rw [h.2.2.1]; exact Nat.le_refl _) hr
  exact ⟨k, h1, h2, by omega⟩
theorem zp_fst {ap : Nat → Nat → Prop} {go : Nat → Nat → Nat} {T : Nat → Prop} {st n : Nat} {Q : Nat → Nat} {P : Nat → List Nat} (h : zp_end ap go st n Q P) {j : Nat} (hj : j < n) (hT : T (Q j)) (hn : ∀ i, i < j → ¬ T (Q i)) : zp_min ap go T st (P (Q j)) := by
  refine ⟨⟨Q j, h.2.2.2.1 j hj, hT⟩, fun q t hr ht => ?_⟩
  obtain ⟨k, h1, h2, h3⟩ := zp_fnd h hr
  subst h2
  rcases Nat.lt_or_ge k j with hl | hl
  · exact absurd ht (hn k hl)
  · rcases Nat.lt_or_ge j k with hl2 | hl2
    · have := h.2.2.2.2.1 j k hl2 h1
      omega
    · have e : k = j := by omega
      subst e
      exact h3
theorem zp_non {ap : Nat → Nat → Prop} {go : Nat → Nat → Nat} {T : Nat → Prop} {st n : Nat} {Q : Nat → Nat} {P : Nat → List Nat} (h : zp_end ap go st n Q P) (hn : ∀ i, i < n → ¬ T (Q i)) {q : List Nat} {t : Nat} (hr : zp_run ap go q st t) : ¬ T t := by
  obtain ⟨k, h1, h2, _⟩ := zp_fnd h hr
  subst h2
  exact hn k h1
/-! the least j, j < d + b, with g j, or -1 -/
def zl_f (g : Nat → Bool) : Nat → Nat → Int32
  | 0, _ => -1
  | d + 1, j => if g j = true then nI j else zl_f g d (j + 1)
end
section
/-! rules over role sets: s a set as a number, i a rule -/
def zr_ef (cl : Nat → Int32) (R s : Nat) : Int32 := zx_ex cl (nI s) R
def zr_x (rk rt : Nat → Int32) (x : Int32) (i : Nat) : Int32 := if rk i = 1 then x ||| ((1 : Int32) <<< (rt i &&& 31)) else x &&& (((1 : Int32) <<< (rt i &&& 31)) ^^^ (-1))
def zr_go (rk rt : Nat → Int32) (s i : Nat) : Nat := (zr_x rk rt (nI s) i).toNatClampNeg
def zr_ap (cnt R : Nat) (cl la rk rt rp rn : Nat → Int32) (s i : Nat) : Prop :=
  i < cnt ∧ ¬ la i = -1 ∧ (zr_ef cl R s &&& rp i) = rp i ∧ (zr_ef cl R s &&& rn i) = 0 ∧ bt (nI s) (rt i).toNatClampNeg = decide (¬ rk i = 1)
theorem zr_xb {rk rt : Nat → Int32} {x : Int32} {i R t : Nat} (hR : R ≤ 8) (ht : t < R) (e : rt i = nI t) (hx : ∀ j, R ≤ j → bt x j = false) : ∀ j, R ≤ j → bt (zr_x rk rt x i) j = false := by
  intro j hj
  unfold zr_x
  rw [e]
  by_cases h : rk i = 1
  · rw [if_pos h, zb_set x (by omega), hx j hj, decide_eq_false (by omega), Bool.or_self]
  · rw [if_neg h, zb_clr x (by omega), hx j hj, Bool.false_and]
theorem zr_goE {rk rt : Nat → Int32} {s i R t : Nat} (hR : R ≤ 8) (ht : t < R) (e : rt i = nI t) (hs : s < 2 ^ R) : nI (zr_go rk rt s i) = zr_x rk rt (nI s) i ∧ zr_go rk rt s i < 2 ^ R := by
  obtain ⟨m, hm, he⟩ := zb_of (zr_xb (rk := rk) hR ht e (fun j hj => zb_hi hs hj))
  have h8 := zb_p8 hR
  have h2 : zr_go rk rt s i = m := by
    unfold zr_go
    rw [he, nI_clamp (by omega)]
  rw [h2, he]
  exact ⟨rfl, hm⟩
/-! the search's queue while set p is looked at and rule i is next -/
def zs_inv (ap : Nat → Nat → Prop) (go : Nat → Nat → Nat) (st R : Nat) (ds pv ar fs : Nat → Int32) (n p i : Nat) (Q : Nat → Nat) (P : Nat → List Nat) : Prop :=
  p < n ∧ n ≤ 256 ∧ n ≤ zc_n (fun s => ¬ ds s = -1) 256 ∧ Q 0 = st ∧ P st = [] ∧
  (∀ j, j < n → Q j < 2 ^ R ∧ fs j = nI (Q j) ∧ ds (Q j) = nI (P (Q j)).length ∧ (P (Q j)).length ≤ j ∧ zp_run ap go (P (Q j)) st (Q j) ∧ zp_code (P (Q j)) ≤ 17 * zp_code (P (Q p)) + i) ∧
  (∀ s, s < 256 → ds s = -1 ∨ ∃ j, j < n ∧ Q j = s) ∧
  (∀ a b, a < b → b < n → zp_code (P (Q a)) < zp_code (P (Q b))) ∧
  (∀ j, j < n → j = 0 ∨ ∃ k r, k < j ∧ pv (Q j) = nI (Q k) ∧ ar (Q j) = nI r ∧ P (Q j) = P (Q k) ++ [r] ∧ ap (Q k) r) ∧
  (∀ j r, j < p ∨ (j = p ∧ r < i) → ap (Q j) r → ∃ k, k < n ∧ Q k = go (Q j) r ∧ zp_code (P (go (Q j) r)) ≤ 17 * zp_code (P (Q j)) + r + 1)
def zs_fin (ap : Nat → Nat → Prop) (go : Nat → Nat → Nat) (st R : Nat) (ds pv ar fs : Nat → Int32) (n : Nat) (Q : Nat → Nat) (P : Nat → List Nat) : Prop :=
  zp_end ap go st n Q P ∧ n ≤ 256 ∧
  (∀ j, j < n → Q j < 2 ^ R ∧ fs j = nI (Q j) ∧ ds (Q j) = nI (P (Q j)).length ∧ (P (Q j)).length ≤ j) ∧
  (∀ j, j < n → j = 0 ∨ ∃ k r, k < j ∧ pv (Q j) = nI (Q k) ∧ ar (Q j) = nI r ∧ P (Q j) = P (Q k) ++ [r] ∧ ap (Q k) r)
theorem zs_m1 {n : Nat} (h : n < 2 ^ 31) : ¬ nI n = -1 := by
  intro e
  have a := congrArg Int32.toInt e
  rw [nI_toInt h, show (-1 : Int32).toInt = -1 from by decide] at a
  omega
theorem zs_0 {ap : Nat → Nat → Prop} {go : Nat → Nat → Nat} {st R : Nat} {ds pv ar fs : Nat → Int32} (hst : st < 2 ^ R) (h8 : 2 ^ R ≤ 256) (hd : ∀ s, s < 256 → ds s = -1) : zs_inv ap go st R (upd ds st 0) pv ar (upd fs 0 (nI st)) 1 0 0 (fun _ => st) (fun _ => []) := by
  have hz : ¬ (0 : Int32) = -1 := by decide
  refine ⟨by omega, by omega, ?_, rfl, rfl, ?_, ?_, ?_, ?_, ?_⟩
  · have h := zc_lt (p := fun _ => False) (q := fun s => ¬ upd ds st 0 s = -1) 256 (fun j _ z => z.elim) st (by omega) (by rw [pk_us]; exact hz) (fun z => z)
    omega
  · intro j hj
    have e : j = 0 := by omega
    subst e
    refine ⟨hst, pk_us, ?_, Nat.le_refl _, rfl, Nat.zero_le _⟩
    show upd ds st 0 st = nI 0
    rw [pk_us]
    rfl
  · intro s hs
    by_cases e : s = st
    · exact Or.inr ⟨0, by omega, e.symm⟩
    · exact Or.inl (by rw [pk_un e]; exact hd s hs)
  · intro a b _ _
    omega
  · intro j hj
    exact Or.inl (by omega)
  · intro j r h
    omega
theorem zs_skip {ap : Nat → Nat → Prop} {go : Nat → Nat → Nat} {st R : Nat} {ds pv ar fs : Nat → Int32} {n p i : Nat} {Q : Nat → Nat} {P : Nat → List Nat} (h : zs_inv ap go st R ds pv ar fs n p i Q P) (ha : ap (Q p) i → ∃ k, k < n ∧ Q k = go (Q p) i) : zs_inv ap go st R ds pv ar fs n p (i + 1) Q P := by
  obtain ⟨h1, h2, h3, h4, h5, h6, h7, h8, h9, h10⟩ := h
  refine ⟨h1, h2, h3, h4, h5, ?_, h7, h8, h9, ?_⟩
  · intro j hj
    obtain ⟨a, b, c, d, e, f⟩ := h6 j hj
    exact ⟨a, b, c, d, e, by omega⟩
  · intro j r hjr hap
    by_cases hc : j < p ∨ (j = p ∧ r < i)
    · exact h10 j r hc hap
    · have e1 : j = p := by omega
      have e2 : r = i := by omega
      subst e1 e2
      obtain ⟨k, hk, hQ⟩ := ha hap
      refine ⟨k, hk, hQ, ?_⟩
      rw [← hQ]
      have := (h6 k hk).2.2.2.2.2
      omega
theorem zs_room {ap : Nat → Nat → Prop} {go : Nat → Nat → Nat} {st R : Nat} {ds pv ar fs : Nat → Int32} {n p i : Nat} {Q : Nat → Nat} {P : Nat → List Nat} (h : zs_inv ap go st R ds pv ar fs n p i Q P) {t : Nat} (ht : t < 256) (hd : ds t = -1) : n < 256 := by
  have a := zc_lt (p := fun s => ¬ ds s = -1) (q := fun _ => True) 256 (fun _ _ _ => True.intro) t ht True.intro (fun z => z hd)
  have b := zc_le (fun _ => True) 256
  have c := h.2.2.1
  omega
theorem zs_new {ap : Nat → Nat → Prop} {go : Nat → Nat → Nat} {st R : Nat} {ds pv ar fs : Nat → Int32} {n p i : Nat} {Q : Nat → Nat} {P : Nat → List Nat} (h : zs_inv ap go st R ds pv ar fs n p i Q P) (h256 : 2 ^ R ≤ 256) (ha : ap (Q p) i) (hg : go (Q p) i < 2 ^ R) (hd : ds (go (Q p) i) = -1) :
    ∃ (Q' : Nat → Nat) (P' : Nat → List Nat), Q' p = Q p ∧ zs_inv ap go st R (upd ds (go (Q p) i) (ds (Q p) + 1)) (upd pv (go (Q p) i) (nI (Q p))) (upd ar (go (Q p) i) (nI i)) (upd fs n (nI (go (Q p) i))) (n + 1) p (i + 1) Q' P' := by
  have hn := zs_room h (by omega) hd
  obtain ⟨h1, h2, h3, h4, h5, h6, h7, h8, h9, h10⟩ := h
  generalize hgt : go (Q p) i = t at hg hd
  have hne : ∀ j, j < n → Q j ≠ t := by
    intro j hj e
    obtain ⟨_, _, c, d, _⟩ := h6 j hj
    have c2 : ds t = nI (P (Q j)).length := by rw [← e]; exact c
    exact zs_m1 (by omega) (c2.symm.trans hd)
  have hQ : ∀ j, j < n → (fun j => if j = n then t else Q j) j = Q j := fun j hj => if_neg (by omega)
  have hQn : (fun j => if j = n then t else Q j) n = t := if_pos rfl
  have hP : ∀ j, j < n → (fun s => if s = t then P (Q p) ++ [i] else P s) (Q j) = P (Q j) := fun j hj => if_neg (hne j hj)
  have hPt : (fun s => if s = t then P (Q p) ++ [i] else P s) t = P (Q p) ++ [i] := if_pos rfl
  generalize hq : (fun j => if j = n then t else Q j) = Q' at hQ hQn
  generalize hp : (fun s => if s = t then P (Q p) ++ [i] else P s) = P' at hP hPt
  obtain ⟨p1, p2, p3, p4, p5, p6⟩ := h6 p h1
  have hlast : ∀ j, j < n + 1 → ¬ j < n → j = n := by intro j a b; omega
  refine ⟨Q', P', hQ p h1, by omega, by omega, ?_, ?_, ?_, ?_, ?_, ?_, ?_, ?_⟩
  · have a := zc_lt (p := fun s => ¬ ds s = -1) (q := fun s => ¬ upd ds t (ds (Q p) + 1) s = -1) 256 (by
      intro j _ z
      by_cases e : j = t
      · subst e
        exact absurd hd z
      · rw [pk_un e]
        exact z) t (by omega) (by
      rw [pk_us, p3, nI_1]
      exact zs_m1 (by omega)) (fun z => z hd)
    omega
  · rw [hQ 0 (by omega)]
    exact h4
  · have e := hP 0 (by omega)
    rw [h4] at e
    rw [e]
    exact h5
  · intro j hj
    rw [hQ p h1, hP p h1]
    by_cases hjn : j < n
    · obtain ⟨a, b, c, d, e, f⟩ := h6 j hjn
      rw [hQ j hjn, hP j hjn, pk_un (by omega), pk_un (hne j hjn)]
      exact ⟨a, b, c, d, e, by omega⟩
    · have e := hlast j hj hjn
      subst e
      rw [hQn, hPt, pk_us, pk_us, List.length_append, List.length_singleton, zp_cs]
      refine ⟨hg, rfl, by rw [p3, nI_1], by omega, ?_, by omega⟩
      rw [← hgt]
      exact zp_sn p5 ha
  · intro s hs
    by_cases e : s = t
    · exact Or.inr ⟨n, by omega, by rw [hQn]; exact e.symm⟩
    · rw [pk_un e]
      rcases h7 s hs with z | ⟨j, hj, z⟩
      · exact Or.inl z
      · exact Or.inr ⟨j, by omega, by rw [hQ j hj]; exact z⟩
  · intro a b hab hb
    rw [hQ a (by omega), hP a (by omega)]
    by_cases hbn : b < n
    · rw [hQ b hbn, hP b hbn]
      exact h8 a b hab hbn
    · have e := hlast b hb hbn
      subst e
      rw [hQn, hPt, zp_cs]
      have := (h6 a hab).2.2.2.2.2
      omega
  · intro j hj
    by_cases hjn : j < n
    · rcases h9 j hjn with z | ⟨k, r, hk, z1, z2, z3, z4⟩
      · exact Or.inl z
      · refine Or.inr ⟨k, r, hk, ?_, ?_, ?_, ?_⟩
        · rw [hQ j hjn, hQ k (by omega), pk_un (hne j hjn)]
          exact z1
        · rw [hQ j hjn, pk_un (hne j hjn)]
          exact z2
        · rw [hQ j hjn, hQ k (by omega), hP j hjn, hP k (by omega)]
          exact z3
        · rw [hQ k (by omega)]
          exact z4
    · have e := hlast j hj hjn
      subst e
      refine Or.inr ⟨p, i, h1, ?_, ?_, ?_, ?_⟩
      · rw [hQn, pk_us, hQ p h1]
      · rw [hQn, pk_us]
      · rw [hQn, hPt, hQ p h1, hP p h1]
      · rw [hQ p h1]
        exact ha
  · intro j r hjr hap
    have hj : j < n := by omega
    rw [hQ j hj] at hap
    rw [hQ j hj, hP j hj]
    by_cases hc : j < p ∨ (j = p ∧ r < i)
    · obtain ⟨k, hk, z1, z2⟩ := h10 j r hc hap
      refine ⟨k, by omega, by rw [hQ k hk]; exact z1, ?_⟩
      rw [← z1, hP k hk, z1]
      exact z2
    · have e1 : j = p := by omega
      have e2 : r = i := by omega
      subst e1 e2
      refine ⟨n, by omega, by rw [hQn, hgt], ?_⟩
      rw [hgt, hPt, zp_cs]
      exact Nat.le_refl _
theorem zs_next {ap : Nat → Nat → Prop} {go : Nat → Nat → Nat} {st R : Nat} {ds pv ar fs : Nat → Int32} {n p c : Nat} {Q : Nat → Nat} {P : Nat → List Nat} (h : zs_inv ap go st R ds pv ar fs n p c Q P) (hc : c ≤ 16) (hA : ∀ s i, ap s i → i < c) (hp : p + 1 < n) : zs_inv ap go st R ds pv ar fs n (p + 1) 0 Q P := by
  obtain ⟨h1, h2, h3, h4, h5, h6, h7, h8, h9, h10⟩ := h
  refine ⟨hp, h2, h3, h4, h5, ?_, h7, h8, h9, ?_⟩
  · intro j hj
    obtain ⟨a, b, c1, d, e, f⟩ := h6 j hj
    have := h8 p (p + 1) (by omega) hp
    exact ⟨a, b, c1, d, e, by omega⟩
  · intro j r hjr hap
    have hr := hA _ _ hap
    exact h10 j r (by omega) hap
theorem zs_end {ap : Nat → Nat → Prop} {go : Nat → Nat → Nat} {st R : Nat} {ds pv ar fs : Nat → Int32} {n p c : Nat} {Q : Nat → Nat} {P : Nat → List Nat} (h : zs_inv ap go st R ds pv ar fs n p c Q P) (hA : ∀ s i, ap s i → i < c) (hp : ¬ p + 1 < n) : zs_fin ap go st R ds pv ar fs n Q P := by
  obtain ⟨h1, h2, h3, h4, h5, h6, h7, h8, h9, h10⟩ := h
  refine ⟨⟨by omega, h4, h5, fun j hj => (h6 j hj).2.2.2.2.1, h8, ?_⟩, h2, ?_, h9⟩
  · intro j r hj hap
    have hr := hA _ _ hap
    exact h10 j r (by omega) hap
  · intro j hj
    obtain ⟨a, b, c1, d, e, f⟩ := h6 j hj
    exact ⟨a, b, c1, d⟩
/-! what a plan writes -/
def zs_put (f : Nat → Int32) (w : Nat → Int32) (p : List Nat) : Nat → Int32 := fun x => if x < p.length then f (p.getD x 0) else w x
theorem zs_put0 (f w : Nat → Int32) : zs_put f w [] = w := by
  funext x
  exact if_neg (Nat.not_lt_zero x)
theorem zs_putV (f w : Nat → Int32) (p : List Nat) (r x : Nat) : zs_put f w (p ++ [r]) x = if x < p.length then f (p.getD x 0) else if x = p.length then f r else w x := by
  unfold zs_put
  rw [List.length_append, List.length_singleton]
  rcases Nat.lt_or_ge x p.length with h | h
  · rw [if_pos (by omega), if_pos h, List.getD_eq_getElem?_getD, List.getElem?_append_left h, List.getD_eq_getElem?_getD]
  · rw [if_neg (by omega : ¬ x < p.length)]
    by_cases e : x = p.length
    · rw [if_pos (by omega), if_pos e, List.getD_eq_getElem?_getD, List.getElem?_append_right h, e, Nat.sub_self]
      rfl
    · rw [if_neg (by omega), if_neg e]
theorem zs_putS (f w : Nat → Int32) (p : List Nat) (r : Nat) : zs_put f (upd w p.length (f r)) p = zs_put f w (p ++ [r]) := by
  funext x
  rw [zs_putV]
  show (if x < p.length then f (p.getD x 0) else upd w p.length (f r) x) = _
  by_cases h : x < p.length
  · rw [if_pos h, if_pos h]
  · rw [if_neg h, if_neg h]
    rfl
theorem zs_putF (f w : Nat → Int32) (p : List Nat) (r : Nat) : upd (zs_put f w p) p.length (f r) = zs_put f w (p ++ [r]) := by
  funext x
  rw [zs_putV]
  by_cases e : x = p.length
  · rw [e, pk_us, if_neg (by omega), if_pos rfl]
  · rw [pk_un e]
    show (if x < p.length then f (p.getD x 0) else w x) = _
    rw [if_neg e]
end
section
/-! the reference's way: d s the length of some plan from s, or 100000 -/
def zy_snd (ap : Nat → Nat → Prop) (go : Nat → Nat → Nat) (T : Nat → Prop) (R : Nat) (d : Nat → Nat) : Prop :=
  ∀ s, s < 2 ^ R → d s ≤ 100000 ∧ (d s < 100000 → ∃ q t, zp_run ap go q s t ∧ T t ∧ q.length = d s)
def zy_cmp (ap : Nat → Nat → Prop) (go : Nat → Nat → Nat) (T : Nat → Prop) (R : Nat) (d : Nat → Nat) (m : Nat) : Prop :=
  ∀ q s t, s < 2 ^ R → zp_run ap go q s t → T t → q.length ≤ m → d s ≤ q.length
def zy_pas (ap : Nat → Nat → Prop) (go : Nat → Nat → Nat) (R : Nat) (d0 d : Nat → Nat) (x : Nat) : Prop :=
  (∀ s, s < 2 ^ R → d s ≤ d0 s) ∧ (∀ s i, s < 2 ^ R → i < 16 → 16 * s + i < x → ap s i → d s ≤ d0 (go s i) + 1)
theorem zy_p0 {ap : Nat → Nat → Prop} {go : Nat → Nat → Nat} {R : Nat} (d : Nat → Nat) : zy_pas ap go R d d 0 := ⟨fun _ _ => Nat.le_refl _, fun _ _ _ _ h => by omega⟩
theorem zy_pskip {ap : Nat → Nat → Prop} {go : Nat → Nat → Nat} {R : Nat} {d0 d : Nat → Nat} {s i : Nat} (hg : ∀ s i, s < 2 ^ R → ap s i → go s i < 2 ^ R) (h : zy_pas ap go R d0 d (16 * s + i)) (hi : i < 16) (hs : s < 2 ^ R) (ha : ap s i → ¬ d (go s i) + 1 < d s) : zy_pas ap go R d0 d (16 * s + i + 1) := by
  refine ⟨h.1, fun s' i' hs' hi' hl hap => ?_⟩
  by_cases hc : 16 * s' + i' < 16 * s + i
  · exact h.2 s' i' hs' hi' hc hap
  · have e1 : s' = s := by omega
    have e2 : i' = i := by omega
    subst e1 e2
    have a := ha hap
    have b := h.1 (go s' i') (hg _ _ hs' hap)
    omega
theorem zy_pset {ap : Nat → Nat → Prop} {go : Nat → Nat → Nat} {R : Nat} {d0 d : Nat → Nat} {s i : Nat} (hg : ∀ s i, s < 2 ^ R → ap s i → go s i < 2 ^ R) (h : zy_pas ap go R d0 d (16 * s + i)) (hi : i < 16) (hs : s < 2 ^ R) (ha : ap s i) (hl : d (go s i) + 1 < d s) : zy_pas ap go R d0 (fun x => if x = s then d (go s i) + 1 else d x) (16 * s + i + 1) := by
  have b := h.1 (go s i) (hg _ _ hs ha)
  have b0 := h.1 s hs
  refine ⟨fun s' hs' => ?_, fun s' i' hs' hi' hl' hap => ?_⟩
  · dsimp only
    by_cases e : s' = s
    · rw [if_pos e, e]; omega
    · rw [if_neg e]; exact h.1 s' hs'
  · dsimp only
    by_cases hc : 16 * s' + i' < 16 * s + i
    · have a := h.2 s' i' hs' hi' hc hap
      by_cases e : s' = s
      · rw [if_pos e]
        rw [e] at a ⊢
        omega
      · rw [if_neg e]; exact a
    · have e1 : s' = s := by omega
      have e2 : i' = i := by omega
      subst e1 e2
      rw [if_pos rfl]
      omega
theorem zy_sset {ap : Nat → Nat → Prop} {go : Nat → Nat → Nat} {T : Nat → Prop} {R : Nat} {d : Nat → Nat} {s i : Nat} (hg : ∀ s i, s < 2 ^ R → ap s i → go s i < 2 ^ R) (h : zy_snd ap go T R d) (hs : s < 2 ^ R) (ha : ap s i) (hl : d (go s i) + 1 < d s) : zy_snd ap go T R (fun x => if x = s then d (go s i) + 1 else d x) := by
  intro s' hs'
  dsimp only
  by_cases e : s' = s
  · rw [if_pos e]
    subst e
    have a := (h s' hs').1
    obtain ⟨q, t, h1, h2, h3⟩ := (h (go s' i) (hg _ _ hs' ha)).2 (by omega)
    exact ⟨by omega, fun _ => ⟨i :: q, t, ⟨ha, h1⟩, h2, by rw [List.length_cons, h3]⟩⟩
  · rw [if_neg e]
    exact h s' hs'
theorem zy_pend {ap : Nat → Nat → Prop} {go : Nat → Nat → Nat} {T : Nat → Prop} {R : Nat} {d0 d : Nat → Nat} {m : Nat} (hA : ∀ s i, ap s i → i < 16) (hg : ∀ s i, s < 2 ^ R → ap s i → go s i < 2 ^ R) (h : zy_pas ap go R d0 d (16 * 2 ^ R)) (hc : zy_cmp ap go T R d0 m) : zy_cmp ap go T R d (m + 1) := by
  intro q s t hs hr hT hl
  cases q with
  | nil =>
    have a := hc [] s t hs hr hT (Nat.zero_le _)
    have b := h.1 s hs
    exact Nat.le_trans b a
  | cons i q =>
    have hi := hA _ _ hr.1
    have hgo := hg _ _ hs hr.1
    have a := hc q (go s i) t hgo hr.2 hT (by simp only [List.length_cons] at hl; omega)
    have b := h.2 s i hs hi (by omega) hr.1
    simp only [List.length_cons]
    omega
theorem zy_pfix {ap : Nat → Nat → Prop} {go : Nat → Nat → Nat} {T : Nat → Prop} {R : Nat} {d0 d : Nat → Nat} (hA : ∀ s i, ap s i → i < 16) (hg : ∀ s i, s < 2 ^ R → ap s i → go s i < 2 ^ R) (h : zy_pas ap go R d0 d (16 * 2 ^ R)) (he : ∀ s, s < 2 ^ R → d s = d0 s) (hc : zy_cmp ap go T R d0 0) (m : Nat) : zy_cmp ap go T R d m := by
  intro q
  induction q with
  | nil =>
    intro s t hs hr hT hl
    rw [he s hs]
    exact hc [] s t hs hr hT (Nat.zero_le _)
  | cons i q ih =>
    intro s t hs hr hT hl
    have hi := hA _ _ hr.1
    have hgo := hg _ _ hs hr.1
    have a := ih (go s i) t hgo hr.2 hT (by simp only [List.length_cons] at hl; omega)
    have b := h.2 s i hs hi (by omega) hr.1
    rw [he _ hgo] at a
    simp only [List.length_cons]
    omega
theorem zy_c0 {ap : Nat → Nat → Prop} {go : Nat → Nat → Nat} {T : Nat → Prop} {R : Nat} {d : Nat → Nat} (h : ∀ s, s < 2 ^ R → T s → d s = 0) : zy_cmp ap go T R d 0 := by
  intro q s t hs hr hT hl
  cases q with
  | nil =>
    have e : s = t := hr
    rw [h s hs (by rw [e]; exact hT)]
    exact Nat.zero_le _
  | cons i q => simp only [List.length_cons] at hl; omega
theorem zy_cle {ap : Nat → Nat → Prop} {go : Nat → Nat → Nat} {T : Nat → Prop} {R : Nat} {d : Nat → Nat} {m k : Nat} (h : zy_cmp ap go T R d m) (hk : k ≤ m) : zy_cmp ap go T R d k := fun q s t a b c e => h q s t a b c (by omega)
theorem zy_at {ap : Nat → Nat → Prop} {go : Nat → Nat → Nat} {T : Nat → Prop} {R : Nat} {d : Nat → Nat} (hA : ∀ s i, ap s i → i < 16) (h : zy_snd ap go T R d) (hc : zy_cmp ap go T R d 257) {s : Nat} (hs : s < 2 ^ R) {p : List Nat} (hm : zp_min ap go T s p) (hl : p.length ≤ 256) : d s = p.length := by
  obtain ⟨t, hr, hT⟩ := hm.1
  have a := hc p s t hs hr hT (by omega)
  obtain ⟨q, t', h1, h2, h3⟩ := (h s hs).2 (by omega)
  have b := zp_mlen hA hm h1 h2
  omega
theorem zy_not {ap : Nat → Nat → Prop} {go : Nat → Nat → Nat} {T : Nat → Prop} {R : Nat} {d : Nat → Nat} (hA : ∀ s i, ap s i → i < 16) (h : zy_snd ap go T R d) (hg : ∀ s i, s < 2 ^ R → ap s i → go s i < 2 ^ R) {s i : Nat} (hs : s < 2 ^ R) {p : List Nat} (hm : zp_min ap go T s (i :: p)) (hl : p.length < 100000) {j : Nat} (hj : j < i) (ha : ap s j) : d (go s j) ≠ p.length := by
  intro e
  obtain ⟨q, t', h1, h2, h3⟩ := (h (go s j) (hg _ _ hs ha)).2 (by omega)
  exact zp_mfst hA hm hj ha h1 h2 (by omega)
theorem zy_inf {ap : Nat → Nat → Prop} {go : Nat → Nat → Nat} {T : Nat → Prop} {R : Nat} {d : Nat → Nat} (h : zy_snd ap go T R d) {s : Nat} (hs : s < 2 ^ R) (hn : ∀ q t, zp_run ap go q s t → ¬ T t) : d s = 100000 := by
  have a := h s hs
  rcases Nat.lt_or_ge (d s) 100000 with hl | hl
  · obtain ⟨q, t, h1, h2, _⟩ := a.2 hl
    exact absurd h2 (hn q t h1)
  · omega
/-! seen sets -/
theorem zp_sp {ap : Nat → Nat → Prop} {go : Nat → Nat → Nat} : ∀ {q : List Nat} {s t : Nat}, zp_run ap go q s t → (q = [] ∧ s = t) ∨ ∃ q' i m, q = q' ++ [i] ∧ zp_run ap go q' s m ∧ ap m i ∧ go m i = t := by
  intro q
  induction q with
  | nil => exact fun h => Or.inl ⟨rfl, h⟩
  | cons x q ih =>
    intro s t h
    rcases ih h.2 with ⟨e, e2⟩ | ⟨q', i, m, e, h1, h2, h3⟩
    · subst e
      exact Or.inr ⟨[], x, s, rfl, rfl, h.1, e2⟩
    · subst e
      exact Or.inr ⟨x :: q', i, m, rfl, ⟨h.1, h1⟩, h2, h3⟩
theorem zp_ri {ap : Nat → Nat → Prop} {go : Nat → Nat → Nat} {R : Nat} (hg : ∀ s i, s < 2 ^ R → ap s i → go s i < 2 ^ R) : ∀ {q : List Nat} {s t : Nat}, s < 2 ^ R → zp_run ap go q s t → t < 2 ^ R := by
  intro q
  induction q with
  | nil =>
    intro s t hs h
    have e : s = t := h
    omega
  | cons x q ih =>
    intro s t hs h
    exact ih (hg _ _ hs h.1) h.2
def zy_rs (ap : Nat → Nat → Prop) (go : Nat → Nat → Nat) (st : Nat) (se : Nat → Int32) : Prop := ∀ s, s < 256 → ¬ se s = 0 → ∃ q, zp_run ap go q st s
def zy_rc (ap : Nat → Nat → Prop) (go : Nat → Nat → Nat) (st : Nat) (se : Nat → Int32) (m : Nat) : Prop := ∀ q t, zp_run ap go q st t → q.length ≤ m → ¬ se t = 0
def zy_rp (ap : Nat → Nat → Prop) (go : Nat → Nat → Nat) (R : Nat) (s0 se : Nat → Int32) (x : Nat) : Prop :=
  (∀ s, ¬ s0 s = 0 → ¬ se s = 0) ∧ (∀ s i, s < 2 ^ R → i < 16 → 16 * s + i < x → ¬ s0 s = 0 → ap s i → ¬ se (go s i) = 0)
theorem zy_r0 {ap : Nat → Nat → Prop} {go : Nat → Nat → Nat} {R : Nat} (se : Nat → Int32) : zy_rp ap go R se se 0 := ⟨fun _ h => h, fun _ _ _ _ h => by omega⟩
theorem zy_rskip {ap : Nat → Nat → Prop} {go : Nat → Nat → Nat} {R : Nat} {s0 se : Nat → Int32} {s i : Nat} (h : zy_rp ap go R s0 se (16 * s + i)) (hi : i < 16) (ha : ¬ se s = 0 → ap s i → ¬ se (go s i) = 0) : zy_rp ap go R s0 se (16 * s + i + 1) := by
  refine ⟨h.1, fun s' i' hs' hi' hl hz hap => ?_⟩
  by_cases hc : 16 * s' + i' < 16 * s + i
  · exact h.2 s' i' hs' hi' hc hz hap
  · have e1 : s' = s := by omega
    have e2 : i' = i := by omega
    subst e1 e2
    exact ha (h.1 _ hz) hap
theorem zy_uk {se : Nat → Int32} {t : Nat} : ∀ s, ¬ se s = 0 → ¬ upd se t 1 s = 0 := by
  intro s h
  by_cases e : s = t
  · rw [e, pk_us]; decide
  · rw [pk_un e]; exact h
theorem zy_rset {ap : Nat → Nat → Prop} {go : Nat → Nat → Nat} {R : Nat} {s0 se : Nat → Int32} {s i : Nat} (h : zy_rp ap go R s0 se (16 * s + i)) (hi : i < 16) : zy_rp ap go R s0 (upd se (go s i) 1) (16 * s + i + 1) := by
  refine ⟨fun s hz => zy_uk _ (h.1 s hz), fun s' i' hs' hi' hl hz hap => ?_⟩
  by_cases hc : 16 * s' + i' < 16 * s + i
  · exact zy_uk _ (h.2 s' i' hs' hi' hc hz hap)
  · have e1 : s' = s := by omega
    have e2 : i' = i := by omega
    subst e1 e2
    rw [pk_us]; decide
theorem zy_rsS {ap : Nat → Nat → Prop} {go : Nat → Nat → Nat} {st : Nat} {se : Nat → Int32} {s i : Nat} (h : zy_rs ap go st se) (hs : s < 256) (hz : ¬ se s = 0) (ha : ap s i) : zy_rs ap go st (upd se (go s i) 1) := by
  intro s' hs' hz'
  by_cases e : s' = go s i
  · obtain ⟨q, hq⟩ := h s hs hz
    exact ⟨q ++ [i], by rw [e]; exact zp_sn hq ha⟩
  · rw [pk_un e] at hz'
    exact h s' hs' hz'
theorem zy_rend {ap : Nat → Nat → Prop} {go : Nat → Nat → Nat} {R st : Nat} {s0 se : Nat → Int32} {m : Nat} (hA : ∀ s i, ap s i → i < 16) (hg : ∀ s i, s < 2 ^ R → ap s i → go s i < 2 ^ R) (hst : st < 2 ^ R) (h : zy_rp ap go R s0 se (16 * 2 ^ R)) (hc : zy_rc ap go st s0 m) : zy_rc ap go st se (m + 1) := by
  intro q t hr hl
  rcases zp_sp hr with ⟨e, e2⟩ | ⟨q', i, a, e, h1, h2, h3⟩
  · exact h.1 _ (hc q t hr (by rw [e]; exact Nat.zero_le _))
  · have hz := hc q' a h1 (by rw [e, List.length_append, List.length_singleton] at hl; omega)
    have hi := hA _ _ h2
    have ha := zp_ri hg hst h1
    rw [← h3]
    exact h.2 a i ha hi (by omega) hz h2
theorem zy_rfix {ap : Nat → Nat → Prop} {go : Nat → Nat → Nat} {R st : Nat} {s0 se : Nat → Int32} {m : Nat} (hA : ∀ s i, ap s i → i < 16) (hg : ∀ s i, s < 2 ^ R → ap s i → go s i < 2 ^ R) (hst : st < 2 ^ R) (h : zy_rp ap go R s0 se (16 * 2 ^ R)) (he : se = s0) (hc : zy_rc ap go st s0 0) : zy_rc ap go st se m := by
  subst he
  have hf : ∀ q s t, s < 2 ^ R → ¬ se s = 0 → zp_run ap go q s t → ¬ se t = 0 := by
    intro q
    induction q with
    | nil =>
      intro s t _ hz hr
      have e : s = t := hr
      rw [← e]; exact hz
    | cons i q ih =>
      intro s t hs hz hr
      have hi := hA _ _ hr.1
      exact ih _ t (hg _ _ hs hr.1) (h.2 s i hs hi (by omega) hz hr.1) hr.2
  exact fun q t hr _ => hf q st t hst (hc [] st rfl (Nat.zero_le _)) hr
theorem zo_ext {x y : Int32} (h : ∀ b, bt x b = true ↔ bt y b = true) : x = y := by
  apply b_ext
  intro i _
  have a := h i
  cases hx : bt x i
  · cases hy : bt y i
    · rfl
    · rw [a.mpr hy] at hx
      exact absurd hx (by decide)
  · exact (a.mp hx).symm
end
section
/-! the hierarchy -/
def zi_E (R : Nat) (dj : Nat → Int32) (a b : Nat) : Prop := a < R ∧ bt (dj a) b = true
def zi_dj (R : Nat) (dj : Nat → Int32) : Prop := ∀ a, a < 8 → ∀ b, bt (dj a) b = true → a < R ∧ b < R
def zi_ed (dj ed : Nat → Int32) : Prop := ∀ k, k < 64 → (¬ ed k = 0 ↔ bt (dj (k / 8)) (k % 8) = true)
def zi_cl (R : Nat) (dj cl : Nat → Int32) : Prop := ∀ r, r < R → ∀ j, bt (cl r) j = true ↔ zw_r (zi_E R dj) r j
theorem zi_hE {R : Nat} {dj : Nat → Int32} (hR : R ≤ 8) (h : zi_dj R dj) : ∀ a b, zi_E R dj a b → b < R := fun a b z => (h a (by have := z.1; omega) b z.2).2
def zk_c (R n : Nat) (dj cl : Nat → Int32) (role : Nat) : Prop :=
  (∀ r, r < R → ∀ j, bt (cl r) j = true → zw_r (zi_E R dj) r j) ∧
  (∀ r, r < R → ∀ j, zw_d (zi_E R dj) r (if r < role then n + 1 else n) j → bt (cl r) j = true)
theorem zk_in {R n role : Nat} {dj cl : Nat → Int32} (hR : R ≤ 8) (hd : zi_dj R dj) (hn : 1 ≤ n) (hr : role < R) (h : zk_c R n dj cl role) : zk_c R n dj (upd cl role (zx_ex cl (cl role) R)) (role + 1) := by
  have hE := zi_hE hR hd
  have hw : ∀ r, r < R → ∀ j, zw_d (zi_E R dj) r n j → bt (cl r) j = true := by
    intro r h1 j z
    apply h.2 r h1 j
    by_cases hc : r < role
    · rw [if_pos hc]; exact zw_le (by omega) z
    · rw [if_neg hc]; exact z
  refine ⟨fun r h1 j z => ?_, fun r h1 j z => ?_⟩
  · by_cases e : r = role
    · subst e
      rw [pk_us] at z
      obtain ⟨a, h2, h3, h4⟩ := (zx_exb cl (cl r) j R).mp z
      exact zw_rt (h.1 r h1 a h3) (h.1 a h2 j h4)
    · rw [pk_un e] at z
      exact h.1 r h1 j z
  · by_cases e : r = role
    · subst e
      rw [pk_us]
      rw [if_pos (by omega)] at z
      apply (zx_exb cl (cl r) j R).mpr
      rcases z with z | ⟨a, z, ea⟩
      · exact ⟨r, h1, hw r h1 r (zw_le (Nat.zero_le _) rfl), hw r h1 j z⟩
      · exact ⟨a, ea.1, hw r h1 a z, hw a ea.1 j (zw_le hn (zw_1 ea))⟩
    · rw [pk_un e]
      apply h.2 r h1 j
      by_cases hc : r < role
      · rw [if_pos hc]
        rw [if_pos (by omega)] at z
        exact z
      · rw [if_neg hc]
        rw [if_neg (by omega)] at z
        exact z
theorem zk_rd {R n : Nat} {dj cl : Nat → Int32} (h : zk_c R n dj cl R) : zk_c R (n + 1) dj cl 0 := by
  refine ⟨h.1, fun r h1 j z => h.2 r h1 j ?_⟩
  rw [if_neg (Nat.not_lt_zero r)] at z
  rw [if_pos h1]
  exact z
theorem zk_ok {R n : Nat} {dj cl : Nat → Int32} (hR : R ≤ 8) (hd : zi_dj R dj) (hn : R ≤ n) (h : zk_c R n dj cl 0) : zi_cl R dj cl := by
  intro r h1 j
  refine ⟨h.1 r h1 j, fun z => h.2 r h1 j ?_⟩
  rw [if_neg (Nat.not_lt_zero r)]
  exact zw_rc (zi_hE hR hd) h1 hn z
theorem zk_st {R : Nat} {dj cl : Nat → Int32} (hR : R ≤ 8) (h : ∀ r, r < R → cl r = dj r ||| ((1 : Int32) <<< (nI r &&& 31))) : zk_c R 1 dj cl 0 := by
  refine ⟨fun r h1 j z => ?_, fun r h1 j z => ?_⟩
  · rw [h r h1, zb_set _ (by omega), Bool.or_eq_true] at z
    rcases z with z | z
    · exact zw_r1 ⟨h1, z⟩
    · have e := of_decide_eq_true z
      subst e
      exact zw_r0 _
  · rw [if_neg (Nat.not_lt_zero r)] at z
    rw [h r h1, zb_set _ (by omega), Bool.or_eq_true]
    rcases z with z | ⟨a, z, e⟩
    · have e : r = j := z
      exact Or.inr (decide_eq_true e.symm)
    · have e2 : r = a := z
      subst e2
      exact Or.inl e.2
/-! the reference's closure of r: the set so far -/
def zk_ys (R : Nat) (dj : Nat → Int32) (r : Nat) (s : Int32) (n : Nat) : Prop :=
  (∀ j, bt s j = true → zw_r (zi_E R dj) r j) ∧ (∀ j, zw_d (zi_E R dj) r n j → bt s j = true)
def zk_yk (R : Nat) (dj ed : Nat → Int32) (r : Nat) (s0 s : Int32) (k : Nat) : Prop :=
  (∀ j, bt s j = true → zw_r (zi_E R dj) r j) ∧ (∀ j, bt s0 j = true → bt s j = true) ∧ (∀ k', k' < k → ¬ ed k' = 0 → bt s0 (k' / 8) = true → bt s (k' % 8) = true)
theorem zk_y0 {R r : Nat} {dj : Nat → Int32} (hr : r < 8) : zk_ys R dj r ((1 : Int32) <<< (nI r &&& 31)) 0 := by
  refine ⟨fun j z => ?_, fun j z => ?_⟩
  · rw [zb_sh (by omega)] at z
    have e := of_decide_eq_true z
    subst e
    exact zw_r0 _
  · have e : r = j := z
    rw [zb_sh (by omega)]
    exact decide_eq_true e.symm
theorem zk_yb {R r n : Nat} {dj ed : Nat → Int32} {s : Int32} (h : zk_ys R dj r s n) : zk_yk R dj ed r s s 0 := ⟨h.1, fun _ z => z, fun _ z => by omega⟩
theorem zk_yskip {R r k : Nat} {dj ed : Nat → Int32} {s0 s : Int32} (h : zk_yk R dj ed r s0 s k) (hc : ¬ ed k = 0 → bt s (k / 8) = false) : zk_yk R dj ed r s0 s (k + 1) := by
  refine ⟨h.1, h.2.1, fun k' h1 h2 h3 => ?_⟩
  by_cases e : k' = k
  · subst e
    have := h.2.1 _ h3
    rw [hc h2] at this
    exact absurd this (by decide)
  · exact h.2.2 k' (by omega) h2 h3
theorem zk_yset {R r k : Nat} {dj ed : Nat → Int32} {s0 s : Int32} (hd : zi_dj R dj) (he : zi_ed dj ed) (hk : k < 64) (h : zk_yk R dj ed r s0 s k) (hc : ¬ ed k = 0) (hb : bt s (k / 8) = true) : zk_yk R dj ed r s0 (s ||| ((1 : Int32) <<< (nI (k % 8) &&& 31))) (k + 1) := by
  have hx : ∀ j, bt s j = true → bt (s ||| ((1 : Int32) <<< (nI (k % 8) &&& 31))) j = true := by
    intro j z
    rw [zb_set _ (by omega), z, Bool.true_or]
  refine ⟨fun j z => ?_, fun j z => hx j (h.2.1 j z), fun k' h1 h2 h3 => ?_⟩
  · rw [zb_set _ (by omega), Bool.or_eq_true] at z
    rcases z with z | z
    · exact h.1 j z
    · have e := of_decide_eq_true z
      subst e
      have hb2 := (he k hk).mp hc
      exact zw_rt (h.1 _ hb) (zw_r1 ⟨(hd (k / 8) (by omega) _ hb2).1, hb2⟩)
  · by_cases e : k' = k
    · subst e
      rw [zb_set _ (by omega), decide_eq_true rfl, Bool.or_true]
    · exact hx _ (h.2.2 k' (by omega) h2 h3)
theorem zk_yend {R r n : Nat} {dj ed : Nat → Int32} {s0 s : Int32} (hR : R ≤ 8) (hd : zi_dj R dj) (he : zi_ed dj ed) (h0 : zk_ys R dj r s0 n) (h : zk_yk R dj ed r s0 s 64) : zk_ys R dj r s (n + 1) := by
  refine ⟨h.1, fun j z => ?_⟩
  rcases z with z | ⟨a, z, e⟩
  · exact h.2.1 j (h0.2 j z)
  · have ha := e.1
    have hj := (hd a (by omega) j e.2).2
    have e1 : (8 * a + j) / 8 = a := by omega
    have e2 : (8 * a + j) % 8 = j := by omega
    have q := h.2.2 (8 * a + j) (by omega) ((he _ (by omega)).mpr (by rw [e1, e2]; exact e.2)) (by rw [e1]; exact h0.2 a z)
    rw [e2] at q
    exact q
theorem zk_yv {R r n : Nat} {dj cl : Nat → Int32} {s : Int32} (hR : R ≤ 8) (hd : zi_dj R dj) (hn : R ≤ n) (hr : r < R) (hc : zi_cl R dj cl) (h : zk_ys R dj r s n) : s = cl r := by
  apply zo_ext
  intro b
  rw [hc r hr b]
  exact ⟨h.1 b, fun z => h.2 b (zw_rc (zi_hE hR hd) hr hn z)⟩
theorem zi_exb {R : Nat} {dj cl : Nat → Int32} (hR : R ≤ 8) (hd : zi_dj R dj) (hc : zi_cl R dj cl) (s : Int32) : ∀ j, R ≤ j → bt (zx_ex cl s R) j = false := by
  intro j hj
  apply zb_nt
  intro z
  obtain ⟨r, h1, _, h3⟩ := (zx_exb cl s j R).mp z
  have := zw_rin (zi_hE hR hd) h1 ((hc r h1 j).mp h3)
  omega
theorem zi_djA {R s j : Nat} {dj : Nat → Int32} (h : zi_dj R dj) (hR : R ≤ 8) (hs : s < R) (hj : j < R) : zi_dj R (upd dj s (dj s ||| ((1 : Int32) <<< (nI j &&& 31)))) := by
  intro a ha b z
  by_cases e : a = s
  · subst e
    rw [pk_us, zb_set _ (by omega), Bool.or_eq_true] at z
    rcases z with z | z
    · exact h a ha b z
    · have e := of_decide_eq_true z
      omega
  · rw [pk_un e] at z
    exact h a ha b z
theorem zi_djR {R s j : Nat} {dj : Nat → Int32} (h : zi_dj R dj) (hR : R ≤ 8) (hj : j < R) : zi_dj R (upd dj s (dj s &&& (((1 : Int32) <<< (nI j &&& 31)) ^^^ (-1)))) := by
  intro a ha b z
  by_cases e : a = s
  · subst e
    rw [pk_us, zb_clr _ (by omega), Bool.and_eq_true] at z
    exact h a ha b z.1
  · rw [pk_un e] at z
    exact h a ha b z
theorem zi_edA {s j : Nat} {dj ed : Nat → Int32} (h : zi_ed dj ed) (hs : s < 8) (hj : j < 8) : zi_ed (upd dj s (dj s ||| ((1 : Int32) <<< (nI j &&& 31)))) (upd ed (8 * s + j) 1) := by
  intro k hk
  by_cases e : k / 8 = s
  · rw [e, pk_us, zb_set _ (by omega), Bool.or_eq_true]
    by_cases e2 : k % 8 = j
    · have e3 : k = 8 * s + j := by omega
      rw [e3, pk_us]
      exact ⟨fun _ => Or.inr (decide_eq_true (by omega)), fun _ => by decide⟩
    · rw [pk_un (by omega), h k hk, e]
      exact ⟨Or.inl, fun z => z.elim (fun z => z) (fun z => absurd (of_decide_eq_true z) e2)⟩
  · rw [pk_un e, pk_un (by omega)]
    exact h k hk
theorem zi_edR {s j : Nat} {dj ed : Nat → Int32} (h : zi_ed dj ed) (hs : s < 8) (hj : j < 8) : zi_ed (upd dj s (dj s &&& (((1 : Int32) <<< (nI j &&& 31)) ^^^ (-1)))) (upd ed (8 * s + j) 0) := by
  intro k hk
  by_cases e : k / 8 = s
  · rw [e, pk_us, zb_clr _ (by omega), Bool.and_eq_true]
    by_cases e2 : k % 8 = j
    · have e3 : k = 8 * s + j := by omega
      rw [e3, pk_us]
      refine ⟨fun z => absurd rfl z, fun z => ?_⟩
      have e4 : (8 * s + j) % 8 = j := by omega
      rw [e4, decide_eq_true rfl] at z
      exact absurd z.2 (by decide)
    · rw [pk_un (by omega), h k hk, e]
      exact ⟨fun z => ⟨z, by rw [decide_eq_false e2]; rfl⟩, fun z => z.1⟩
  · rw [pk_un e, pk_un (by omega)]
    exact h k hk
end
section
def zb_i (b : Bool) : Int32 := if b = true then 1 else 0
theorem zb_br {A B : Prop} (b : Bool) (f : b = false → A) (g : b = true → B) : (zb_i b = 0 → A) ∧ (¬ zb_i b = 0 → B) := by
  cases b
  · exact ⟨fun _ => f rfl, fun z => absurd rfl z⟩
  · exact ⟨fun z => absurd z (by decide), fun _ => g rfl⟩
theorem zb_nar (b : Bool) : narrow .boolean (.int (zb_i b)) = .int (zb_i b) := by
  cases b <;> rfl
def zi_o (n : Nat) (x : Int32) : Prop := x < 0 ∨ nI n ≤ x
theorem zi_io (x : Int32) {n : Nat} (hn : n ≤ 256) : zi_o n x ∨ ∃ j : Nat, j < n ∧ x = nI j := by
  rcases pk_ix x (n := n) (by omega) with h | h | h
  · exact Or.inl (Or.inl h)
  · exact Or.inl (Or.inr h)
  · exact Or.inr h
theorem zi_no {x : Int32} {n : Nat} {A B : Prop} (h : zi_o n x) (a : A) : (x < 0 → A) ∧ (¬ x < 0 → ((nI n ≤ x → A) ∧ (¬ nI n ≤ x → B))) :=
  br_c (fun _ => a) (fun z => h.elim (fun y => absurd y z) (fun y => br_t y a))
theorem zi_ys {n j : Nat} {A B C : Prop} (hn : n ≤ 256) (h : j < n) (b : B) : (nI j < 0 → A) ∧ (¬ nI j < 0 → ((nI n ≤ nI j → C) ∧ (¬ nI n ≤ nI j → B))) :=
  br_f (nI_pos (by omega)) (br_f (nI_ge h (by omega)) b)
theorem zx_con {post : Int32 → Prop} {x : Int32} {l : Nat} (hl : l < 32) (h : post (zb_i (bt x l))) : wpX_contains post  x (nI l) := by
  cases hb : bt x l
  · rw [hb] at h
    exact br_t ((zb_con x hl).mpr hb) h
  · rw [hb] at h
    exact br_f (fun z => by rw [(zb_con x hl).mp z] at hb; exact absurd hb (by decide)) h
section
variable {U R C cn : Nat} {wl fc : Int32} {dj cl pm asg rk ra rt rp rn wr wa la ds pv ar fs : Nat → Int32}
theorem zx_roleN {post : Int32 → Prop} {x : Int32} (h : zi_o R x) (hp : post 0) : wpX_isRole post (nI U, nI R, nI C, nI cn, wl, fc, dj, cl, pm, asg, rk, ra, rt, rp, rn, wr, wa, la, ds, pv, ar, fs) x := zi_no h hp
theorem zx_roleY {post : Int32 → Prop} {j : Nat} (hR : R ≤ 8) (h : j < R) (hp : post 1) : wpX_isRole post (nI U, nI R, nI C, nI cn, wl, fc, dj, cl, pm, asg, rk, ra, rt, rp, rn, wr, wa, la, ds, pv, ar, fs) (nI j) := zi_ys (by omega) h hp
theorem zx_userN {post : Int32 → Prop} {x : Int32} (h : zi_o U x) (hp : post 0) : wpX_isUser post (nI U, nI R, nI C, nI cn, wl, fc, dj, cl, pm, asg, rk, ra, rt, rp, rn, wr, wa, la, ds, pv, ar, fs) x := zi_no h hp
theorem zx_userY {post : Int32 → Prop} {j : Nat} (hU : U ≤ 8) (h : j < U) (hp : post 1) : wpX_isUser post (nI U, nI R, nI C, nI cn, wl, fc, dj, cl, pm, asg, rk, ra, rt, rp, rn, wr, wa, la, ds, pv, ar, fs) (nI j) := zi_ys (by omega) h hp
theorem zx_ruleN {post : Int32 → Prop} {x : Int32} (h : zi_o cn x) (hp : post 0) : wpX_isRule post (nI U, nI R, nI C, nI cn, wl, fc, dj, cl, pm, asg, rk, ra, rt, rp, rn, wr, wa, la, ds, pv, ar, fs) x := zi_no h hp
theorem zx_ruleY {post : Int32 → Prop} {j : Nat} (hc : cn ≤ 16) (h : j < cn) (hp : post 1) : wpX_isRule post (nI U, nI R, nI C, nI cn, wl, fc, dj, cl, pm, asg, rk, ra, rt, rp, rn, wr, wa, la, ds, pv, ar, fs) (nI j) := zi_ys (by omega) h hp
theorem zx_expand {post : Int32 → Prop} {s : Int32} (hR : R ≤ 8) (h : post (zx_ex cl s R)) : wpX_expand post (nI U, nI R, nI C, nI cn, wl, fc, dj, cl, pm, asg, rk, ra, rt, rp, rn, wr, wa, la, ds, pv, ar, fs) s := by
  have H : ∀ d r n : Nat, r + d = R → d < n → wX_expand_4 post s (nI U) (nI R) (nI C) (nI cn) wl fc dj cl pm asg rk ra rt rp rn wr wa la ds pv ar fs n (zx_ex cl s r) (nI r) := by
    intro d
    induction d with
    | zero =>
      intro r n hr hn
      obtain ⟨n, rfl⟩ : ∃ m, n = m + 1 := ⟨n - 1, by omega⟩
      have e : r = R := by omega
      subst e
      exact pk_le r r (fun _ => h) (fun z => absurd z (by omega))
    | succ d ih =>
      intro r n hr hn
      obtain ⟨n, rfl⟩ : ∃ m, n = m + 1 := ⟨n - 1, by omega⟩
      have i := ih (r + 1) n (by omega) (by omega)
      refine pk_le R r (fun z => absurd z (by omega)) (fun _ => ?_)
      by_cases hb : bt s r = true
      · have e : zx_ex cl s (r + 1) = zx_ex cl s r ||| cl r := if_pos hb
        rw [e] at i
        refine br_f (fun z => by rw [(zb_con s (by omega)).mp z] at hb; exact absurd hb (by decide)) ⟨pk_in r 8 (by omega), ?_⟩
        exact nm_r (by rw [nI_clamp (by omega)]) (nm_r (nI_1 r) i)
      · have e : zx_ex cl s (r + 1) = zx_ex cl s r := if_neg hb
        rw [e] at i
        exact br_t ((zb_con s (by omega)).mpr (zb_nt hb)) (nm_r (nI_1 r) i)
  exact ⟨R + 1, H R 0 (R + 1) (by omega) (by omega)⟩
theorem zx_may {post : Int32 → Prop} {v i a : Nat} (hR : R ≤ 8) (hv : v < 8) (hi : i < 16) (ha : a < 32) (e : ra i = nI a) (h : post (zb_i (bt (zx_ex cl (asg v) R) a))) : wpX_mayAdminister post (nI U, nI R, nI C, nI cn, wl, fc, dj, cl, pm, asg, rk, ra, rt, rp, rn, wr, wa, la, ds, pv, ar, fs) (nI v) (nI i) := by
  refine ⟨pk_in v 8 hv, ?_⟩
  rw [nI_clamp (show v < 2 ^ 31 by omega), nI_clamp (show i < 2 ^ 31 by omega), e]
  exact zx_expand hR ⟨pk_in i 16 hi, zx_con ha ⟨zb_nar _, h⟩⟩
theorem zx_meets {post : Int32 → Prop} {i : Nat} {x : Int32} (hi : i < 16) (h : post (zb_i (decide ((x &&& rp i) = rp i ∧ (x &&& rn i) = 0)))) : wpX_meetsPreconditions post (nI U, nI R, nI C, nI cn, wl, fc, dj, cl, pm, asg, rk, ra, rt, rp, rn, wr, wa, la, ds, pv, ar, fs) (nI i) x := by
  refine ⟨pk_in i 16 hi, ?_⟩
  rw [nI_clamp (show i < 2 ^ 31 by omega)]
  refine nm_e (br_c (fun h1 => ⟨pk_in i 16 hi, br_c (fun h2 => ?_) (fun h2 => ?_)⟩) (fun h1 => ?_))
  · rw [decide_eq_true ⟨h1, h2⟩] at h
    exact h
  · rw [decide_eq_false (fun z => h2 z.2)] at h
    exact h
  · rw [decide_eq_false (fun z => h1 z.1)] at h
    exact h
theorem zx_makes {post : Int32 → Prop} {i t : Nat} {x : Int32} (hi : i < 16) (ht : t < 32) (e : rt i = nI t) (h : post (zb_i (decide (bt x t = decide (¬ rk i = 1))))) : wpX_makesChange post (nI U, nI R, nI C, nI cn, wl, fc, dj, cl, pm, asg, rk, ra, rt, rp, rn, wr, wa, la, ds, pv, ar, fs) (nI i) x := by
  refine ⟨pk_in i 16 hi, ?_⟩
  rw [nI_clamp (show i < 2 ^ 31 by omega), e]
  refine zx_con ht ⟨pk_in i 16 hi, br_c (fun h1 => ?_) (fun h1 => ?_)⟩
  · rw [show decide (¬ rk i = 1) = false from decide_eq_false (fun z => z h1)] at h
    refine zb_br _ (fun hb => ?_) (fun hb => ?_)
    · rw [hb] at h
      exact h
    · rw [hb] at h
      exact h
  · rw [decide_eq_true h1] at h
    refine ⟨zb_nar _, ?_⟩
    cases hb : bt x t
    · rw [hb] at h
      exact h
    · rw [hb] at h
      exact h
theorem zx_res {post : Int32 → Prop} {i : Nat} {x : Int32} (hi : i < 16) (h : post (zr_x rk rt x i)) : wpX_resultOf post (nI U, nI R, nI C, nI cn, wl, fc, dj, cl, pm, asg, rk, ra, rt, rp, rn, wr, wa, la, ds, pv, ar, fs) (nI i) x := by
  refine ⟨pk_in i 16 hi, pk_in i 16 hi, ?_⟩
  rw [nI_clamp (show i < 2 ^ 31 by omega)]
  unfold zr_x at h
  refine br_c (fun h1 => ?_) (fun h1 => ?_)
  · rw [if_pos h1] at h
    exact br_f (by decide) h
  · rw [if_neg h1] at h
    exact br_t rfl h
theorem zx_reb1 {post : SX → Prop} (hR : R ≤ 8) (hd : zi_dj R dj) (h : ∀ cl', zi_cl R dj cl' → post (nI U, nI R, nI C, nI cn, wl, fc, dj, cl', pm, asg, rk, ra, rt, rp, rn, wr, wa, la, ds, pv, ar, fs)) : ∀ d rnd n : Nat, ∀ cl' : Nat → Int32, rnd + d = R → d < n → zk_c R (rnd + 1) dj cl' 0 → wX_rebuildClosures_34 post (nI U) (nI R) (nI C) (nI cn) wl fc n (nI rnd) dj cl' pm asg rk ra rt rp rn wr wa la ds pv ar fs := by
  intro d
  induction d with
  | zero =>
    intro rnd n cl' hr hn hc
    obtain ⟨n, rfl⟩ : ∃ m, n = m + 1 := ⟨n - 1, by omega⟩
    have e : rnd = R := by omega
    subst e
    exact pk_le rnd rnd (fun _ => h cl' (zk_ok hR hd (by omega) hc)) (fun z => absurd z (by omega))
  | succ d ih =>
    intro rnd n cl' hr hn hc
    obtain ⟨n, rfl⟩ : ∃ m, n = m + 1 := ⟨n - 1, by omega⟩
    refine pk_le R rnd (fun z => absurd z (by omega)) (fun _ => ?_)
    have H : ∀ f role m : Nat, ∀ c : Nat → Int32, role + f = R → f < m → zk_c R (rnd + 1) dj c role → wX_rebuildClosures_44 post (wX_rebuildClosures_34 post (nI U) (nI R) (nI C) (nI cn) wl fc n) (nI rnd) (nI U) (nI R) (nI C) (nI cn) wl fc m (nI role) dj c pm asg rk ra rt rp rn wr wa la ds pv ar fs := by
      intro f
      induction f with
      | zero =>
        intro role m c hr2 hm hz
        obtain ⟨m, rfl⟩ : ∃ k, m = k + 1 := ⟨m - 1, by omega⟩
        have e : role = R := by omega
        subst e
        refine pk_le role role (fun _ => nm_r (nI_1 rnd) ?_) (fun z => absurd z (by omega))
        exact ih (rnd + 1) n c (by omega) (by omega) (zk_rd hz)
      | succ f ih2 =>
        intro role m c hr2 hm hz
        obtain ⟨m, rfl⟩ : ∃ k, m = k + 1 := ⟨m - 1, by omega⟩
        refine pk_le R role (fun z => absurd z (by omega)) (fun _ => ⟨pk_in role 8 (by omega), ?_⟩)
        rw [nI_clamp (show role < 2 ^ 31 by omega)]
        refine zx_expand hR ⟨pk_in role 8 (by omega), nm_e (nm_r (nI_1 role) ?_)⟩
        exact ih2 (role + 1) m _ (by omega) (by omega) (zk_in hR hd (by omega) (by omega) hz)
    exact ⟨R + 1, H R 0 (R + 1) cl' (by omega) (by omega) hc⟩
theorem zx_reb {post : SX → Prop} (hR : R ≤ 8) (hd : zi_dj R dj) (h : ∀ cl', zi_cl R dj cl' → post (nI U, nI R, nI C, nI cn, wl, fc, dj, cl', pm, asg, rk, ra, rt, rp, rn, wr, wa, la, ds, pv, ar, fs)) : wpX_rebuildClosures post (nI U, nI R, nI C, nI cn, wl, fc, dj, cl, pm, asg, rk, ra, rt, rp, rn, wr, wa, la, ds, pv, ar, fs) := by
  have H : ∀ d role n : Nat, ∀ c : Nat → Int32, role + d = R → d < n → (∀ r, r < role → c r = dj r ||| ((1 : Int32) <<< (nI r &&& 31))) → wX_rebuildClosures_2 post (nI U) (nI R) (nI C) (nI cn) wl fc n (nI role) dj c pm asg rk ra rt rp rn wr wa la ds pv ar fs := by
    intro d
    induction d with
    | zero =>
      intro role n c hr hn hc
      obtain ⟨n, rfl⟩ : ∃ m, n = m + 1 := ⟨n - 1, by omega⟩
      have e : role = R := by omega
      subst e
      exact pk_le role role (fun _ => ⟨role + 1, zx_reb1 hR hd h role 0 (role + 1) c (by omega) (by omega) (zk_st hR hc)⟩) (fun z => absurd z (by omega))
    | succ d ih =>
      intro role n c hr hn hc
      obtain ⟨n, rfl⟩ : ∃ m, n = m + 1 := ⟨n - 1, by omega⟩
      refine pk_le R role (fun z => absurd z (by omega)) (fun _ => ⟨pk_in role 8 (by omega), pk_in role 8 (by omega), nm_e (nm_r (nI_1 role) ?_)⟩)
      rw [nI_clamp (show role < 2 ^ 31 by omega)]
      refine ih (role + 1) n _ (by omega) (by omega) (fun r hr2 => ?_)
      by_cases e : r = role
      · rw [e, pk_us]
      · rw [pk_un e]
        exact hc r (by omega)
  exact ⟨R + 1, H R 0 (R + 1) cl (by omega) (by omega) (fun r hr => absurd hr (Nat.not_lt_zero r))⟩
end
end
section
def zl_a (U R u : Nat) (cl asg ra : Nat → Int32) (i : Nat) : Int32 := zl_f (fun v => !decide (v = u) && bt (zx_ex cl (asg v) R) (ra i).toNatClampNeg) U 0
def zi_ru (cn R : Nat) (ra rt : Nat → Int32) : Prop := ∀ i, i < cn → (∃ a, a < R ∧ ra i = nI a) ∧ ∃ t, t < R ∧ rt i = nI t
theorem zl_in (g : Nat → Bool) : ∀ d j : Nat, zl_f g d j = -1 ∨ ∃ v, v < j + d ∧ g v = true ∧ zl_f g d j = nI v := by
  intro d
  induction d with
  | zero => intro j; exact Or.inl rfl
  | succ d ih =>
    intro j
    by_cases h : g j = true
    · exact Or.inr ⟨j, by omega, h, if_pos h⟩
    · have e : zl_f g (d + 1) j = zl_f g d (j + 1) := if_neg h
      rw [e]
      rcases ih (j + 1) with z | ⟨v, h1, h2, h3⟩
      · exact Or.inl z
      · exact Or.inr ⟨v, by omega, h2, h3⟩
section
variable {U R C cn : Nat} {wl fc : Int32} {dj cl pm asg rk ra rt rp rn wr wa la ds pv ar fs : Nat → Int32}
theorem zx_least {post : Int32 → Prop} {u i a : Nat} (hR : R ≤ 8) (hU : U ≤ 8) (hu : u < U) (hi : i < 16) (ha : a < 32) (e : ra i = nI a) (h : post (zl_a U R u cl asg ra i)) : wpX_leastAdminFor post (nI U, nI R, nI C, nI cn, wl, fc, dj, cl, pm, asg, rk, ra, rt, rp, rn, wr, wa, la, ds, pv, ar, fs) (nI i) (nI u) := by
  have ea : (ra i).toNatClampNeg = a := by rw [e, nI_clamp (by omega)]
  unfold zl_a at h
  rw [ea] at h
  have H : ∀ d v n : Nat, v + d = U → d < n → post (zl_f (fun v => !decide (v = u) && bt (zx_ex cl (asg v) R) a) d v) → wX_leastAdminFor_2 post (nI i) (nI u) (nI U) (nI R) (nI C) (nI cn) wl fc dj cl pm asg rk ra rt rp rn wr wa la ds pv ar fs n (nI v) := by
    intro d
    induction d with
    | zero =>
      intro v n hv hn hp
      obtain ⟨n, rfl⟩ : ∃ m, n = m + 1 := ⟨n - 1, by omega⟩
      have e : v = U := by omega
      subst e
      exact pk_le v v (fun _ => hp) (fun z => absurd z (by omega))
    | succ d ih =>
      intro v n hv hn hp
      obtain ⟨n, rfl⟩ : ∃ m, n = m + 1 := ⟨n - 1, by omega⟩
      have ih2 : ((fun v => !decide (v = u) && bt (zx_ex cl (asg v) R) a) v = false) → wX_leastAdminFor_2 post (nI i) (nI u) (nI U) (nI R) (nI C) (nI cn) wl fc dj cl pm asg rk ra rt rp rn wr wa la ds pv ar fs n (nI (v + 1)) := by
        intro hg
        refine ih (v + 1) n (by omega) (by omega) ?_
        have e2 : zl_f (fun v => !decide (v = u) && bt (zx_ex cl (asg v) R) a) (d + 1) v = zl_f (fun v => !decide (v = u) && bt (zx_ex cl (asg v) R) a) d (v + 1) := if_neg (by rw [hg]; decide)
        rw [e2] at hp
        exact hp
      refine pk_le U v (fun z => absurd z (by omega)) (fun _ => pk_eq v u (fun z => ?_) (fun z => ?_))
      · refine nm_r (nI_1 v) (ih2 ?_)
        dsimp only
        rw [decide_eq_true z]
        rfl
      · refine zx_may hR (by omega) hi ha e (zb_br _ (fun hb => nm_r (nI_1 v) (ih2 ?_)) (fun hb => ?_))
        · dsimp only
          rw [hb, Bool.and_false]
        · have e2 : zl_f (fun v => !decide (v = u) && bt (zx_ex cl (asg v) R) a) (d + 1) v = nI v := if_pos (by dsimp only; rw [hb, decide_eq_false z]; rfl)
          rw [e2] at hp
          exact hp
  exact ⟨U + 1, H U 0 (U + 1) (by omega) (by omega) h⟩
theorem zx_note {post : SX → Prop} {s i t n : Nat} (hs : s < 256) (ht : t < 256) (h1 : ¬ ds t = -1 → post (nI U, nI R, nI C, nI cn, wl, nI n, dj, cl, pm, asg, rk, ra, rt, rp, rn, wr, wa, la, ds, pv, ar, fs)) (h2 : ds t = -1 → n < 256 ∧ post (nI U, nI R, nI C, nI cn, wl, nI (n + 1), dj, cl, pm, asg, rk, ra, rt, rp, rn, wr, wa, la, upd ds t (ds s + 1), upd pv t (nI s), upd ar t (nI i), upd fs n (nI t))) : wpX_noteArrival post (nI U, nI R, nI C, nI cn, wl, nI n, dj, cl, pm, asg, rk, ra, rt, rp, rn, wr, wa, la, ds, pv, ar, fs) (nI s) (nI i) (nI t) := by
  refine ⟨pk_in t 256 ht, ?_⟩
  rw [nI_clamp (show t < 2 ^ 31 by omega), nI_clamp (show s < 2 ^ 31 by omega)]
  refine br_c (fun z => ?_) (fun z => h1 z)
  obtain ⟨hn, h2⟩ := h2 z
  rw [nI_clamp (show n < 2 ^ 31 by omega)]
  exact ⟨pk_in s 256 hs, pk_in t 256 ht, nm_e ⟨pk_in t 256 ht, nm_e ⟨pk_in t 256 ht, nm_e ⟨pk_in n 256 hn, nm_e (nm_r (nI_1 n) h2)⟩⟩⟩⟩
theorem zx_sf {post : SX → Prop} {l : Nat → Int32} {st p s : Nat} (hR : R ≤ 8) (hc : cn ≤ 16) (hr : zi_ru cn R ra rt) (hl : ∀ i, i < cn → la i = l i)
    (hp : ∀ (ds pv ar fs : Nat → Int32) (n : Nat) (Q : Nat → Nat) (P : Nat → List Nat), Q p = s → zs_inv (zr_ap cn R cl l rk rt rp rn) (zr_go rk rt) st R ds pv ar fs n p cn Q P → post (nI U, nI R, nI C, nI cn, wl, nI n, dj, cl, pm, asg, rk, ra, rt, rp, rn, wr, wa, la, ds, pv, ar, fs)) :
    ∀ (d i m : Nat) (ds pv ar fs : Nat → Int32) (n : Nat) (Q : Nat → Nat) (P : Nat → List Nat), i + d = cn → d < m → Q p = s → zs_inv (zr_ap cn R cl l rk rt rp rn) (zr_go rk rt) st R ds pv ar fs n p i Q P → wX_searchFrom_8 post (nI s) (zr_ef cl R s) m (nI i) (nI U) (nI R) (nI C) (nI cn) wl (nI n) dj cl pm asg rk ra rt rp rn wr wa la ds pv ar fs := by
  intro d
  have h8 := zb_p8 hR
  induction d with
  | zero =>
    intro i m ds pv ar fs n Q P hi hm hs hv
    obtain ⟨m, rfl⟩ : ∃ k, m = k + 1 := ⟨m - 1, by omega⟩
    have e : i = cn := by omega
    subst e
    exact pk_le i i (fun _ => hp ds pv ar fs n Q P hs hv) (fun z => absurd z (by omega))
  | succ d ih =>
    intro i m ds pv ar fs n Q P hi hm hs hv
    obtain ⟨m, rfl⟩ : ∃ k, m = k + 1 := ⟨m - 1, by omega⟩
    have hs2 : s < 2 ^ R := by
      have := (hv.2.2.2.2.2.1 p hv.1).1
      rw [hs] at this
      exact this
    obtain ⟨_, t, ht, et⟩ := hr i (by omega)
    have ett : (rt i).toNatClampNeg = t := by rw [et, nI_clamp (by omega)]
    have hgo := zr_goE (rk := rk) hR ht et hs2
    have skip : (zr_ap cn R cl l rk rt rp rn s i → ∃ k, k < n ∧ Q k = zr_go rk rt s i) → wX_searchFrom_8 post (nI s) (zr_ef cl R s) m (nI (i + 1)) (nI U) (nI R) (nI C) (nI cn) wl (nI n) dj cl pm asg rk ra rt rp rn wr wa la ds pv ar fs := by
      intro hx
      exact ih (i + 1) m ds pv ar fs n Q P (by omega) (by omega) hs (zs_skip hv (by rw [hs]; exact hx))
    refine pk_le cn i (fun z => absurd z (by omega)) (fun _ => ⟨pk_in i 16 (by omega), ?_⟩)
    rw [nI_clamp (show i < 2 ^ 31 by omega), hl i (by omega)]
    refine br_c (fun z => ?_) (fun z => ?_)
    · unfold wX_searchFrom_39 wX_searchFrom_40
      exact br_t rfl (nm_r (nI_1 i) (skip (fun ha => absurd z ha.2.1)))
    · refine zx_meets (by omega) (zb_br _ (fun hb => ?_) (fun hb => ?_))
      · unfold wX_searchFrom_39 wX_searchFrom_40
        exact br_t rfl (nm_r (nI_1 i) (skip (fun ha => absurd (And.intro ha.2.2.1 ha.2.2.2.1) (of_decide_eq_false hb))))
      · unfold wX_searchFrom_40
        refine br_f (by decide) (zx_makes (by omega) (by omega) et (zb_br _ (fun hb2 => ?_) (fun hb2 => ?_)))
        · refine nm_r (nI_1 i) (skip (fun ha => absurd ?_ (of_decide_eq_false hb2)))
          have := ha.2.2.2.2
          rw [ett] at this
          exact this
        · have hap : zr_ap cn R cl l rk rt rp rn s i := ⟨by omega, z, (of_decide_eq_true hb).1, (of_decide_eq_true hb).2, by rw [ett]; exact of_decide_eq_true hb2⟩
          refine zx_res (by omega) ?_
          rw [← hgo.1]
          have hg := hgo.2
          refine zx_note (by omega) (by omega) (fun hd => ?_) (fun hd => ⟨zs_room hv (by omega) hd, ?_⟩)
          · refine nm_r (nI_1 i) (skip (fun _ => ?_))
            rcases hv.2.2.2.2.2.2.1 (zr_go rk rt s i) (by omega) with y | y
            · exact absurd y hd
            · exact y
          · refine nm_r (nI_1 i) ?_
            have hn := zs_new hv h8 (by rw [hs]; exact hap) (by rw [hs]; exact hg) (by rw [hs]; exact hd)
            rw [hs] at hn
            obtain ⟨Q', P', hq, hv'⟩ := hn
            exact ih (i + 1) m _ _ _ _ (n + 1) Q' P' (by omega) (by omega) hq hv'
theorem zx_s78 {post : SX → Prop} {l : Nat → Int32} {st : Nat} (hR : R ≤ 8) (hc : cn ≤ 16) (hr : zi_ru cn R ra rt) (hl : ∀ i, i < cn → la i = l i)
    (hp : ∀ (ds pv ar fs : Nat → Int32) (n : Nat) (Q : Nat → Nat) (P : Nat → List Nat), zs_fin (zr_ap cn R cl l rk rt rp rn) (zr_go rk rt) st R ds pv ar fs n Q P → post (nI U, nI R, nI C, nI cn, wl, nI n, dj, cl, pm, asg, rk, ra, rt, rp, rn, wr, wa, la, ds, pv, ar, fs)) :
    ∀ (d p m : Nat) (ds pv ar fs : Nat → Int32) (n : Nat) (Q : Nat → Nat) (P : Nat → List Nat), p + d = 256 → d < m → (zs_inv (zr_ap cn R cl l rk rt rp rn) (zr_go rk rt) st R ds pv ar fs n p 0 Q P ∨ (n ≤ p ∧ zs_fin (zr_ap cn R cl l rk rt rp rn) (zr_go rk rt) st R ds pv ar fs n Q P)) → wX_search_78 post m (nI p) (nI U) (nI R) (nI C) (nI cn) wl (nI n) dj cl pm asg rk ra rt rp rn wr wa la ds pv ar fs := by
  intro d
  have hA : ∀ s i, zr_ap cn R cl l rk rt rp rn s i → i < cn := fun s i h => h.1
  induction d with
  | zero =>
    intro p m ds pv ar fs n Q P hd hm hv
    obtain ⟨m, rfl⟩ : ∃ k, m = k + 1 := ⟨m - 1, by omega⟩
    have e : p = 256 := by omega
    subst e
    refine pk_le 256 256 (fun _ => ?_) (fun z => absurd z (by omega))
    rcases hv with hv | ⟨_, hv⟩
    · have h1 := hv.1
      have h2 := hv.2.1
      omega
    · exact hp ds pv ar fs n Q P hv
  | succ d ih =>
    intro p m ds pv ar fs n Q P hd hm hv
    obtain ⟨m, rfl⟩ : ∃ k, m = k + 1 := ⟨m - 1, by omega⟩
    have hn : n ≤ 256 := by
      rcases hv with hv | ⟨_, hv⟩
      · exact hv.2.1
      · exact hv.2.1
    refine pk_le 256 p (fun z => absurd z (by omega)) (fun _ => pk_le n p (fun z => ?_) (fun z => ⟨pk_in p 256 (by omega), ?_⟩))
    · rcases hv with hv | ⟨_, hv⟩
      · have h1 := hv.1
        omega
      · exact hp ds pv ar fs n Q P hv
    · rcases hv with hv | ⟨h1, _⟩
      · rw [nI_clamp (show p < 2 ^ 31 by omega), (hv.2.2.2.2.2.1 p hv.1).2.1]
        unfold wpX_searchFrom
        refine zx_expand hR ⟨cn + 1, ?_⟩
        refine zx_sf (l := l) (st := st) (p := p) (s := Q p) hR hc hr hl (fun ds pv ar fs n Q' P' hq hv' => ?_) cn 0 (cn + 1) ds pv ar fs n Q P (by omega) (by omega) rfl hv
        refine nm_r (nI_1 p) (ih (p + 1) m ds pv ar fs n Q' P' (by omega) (by omega) ?_)
        by_cases hx : p + 1 < n
        · exact Or.inl (zs_next hv' hc hA hx)
        · exact Or.inr ⟨by omega, zs_end hv' hA hx⟩
      · omega
theorem zx_s30 {post : SX → Prop} {l : Nat → Int32} {st u : Nat} (hR : R ≤ 8) (hc : cn ≤ 16) (hr : zi_ru cn R ra rt) (hl : ∀ i, i < cn → la i = l i) (hu : u < 8) (hst : st < 2 ^ R) (eu : asg u = nI st)
    (hp : ∀ (ds pv ar fs : Nat → Int32) (n : Nat) (Q : Nat → Nat) (P : Nat → List Nat), zs_fin (zr_ap cn R cl l rk rt rp rn) (zr_go rk rt) st R ds pv ar fs n Q P → post (nI U, nI R, nI C, nI cn, wl, nI n, dj, cl, pm, asg, rk, ra, rt, rp, rn, wr, wa, la, ds, pv, ar, fs)) :
    ∀ (d s m : Nat) (ds : Nat → Int32), s + d = 256 → d < m → (∀ x, x < s → ds x = -1) → wX_search_30 post (nI u) (nI U) (nI R) (nI C) (nI cn) wl fc m (nI s) dj cl pm asg rk ra rt rp rn wr wa la ds pv ar fs := by
  intro d
  have h8 := zb_p8 hR
  induction d with
  | zero =>
    intro s m ds hd hm hv
    obtain ⟨m, rfl⟩ : ∃ k, m = k + 1 := ⟨m - 1, by omega⟩
    have e : s = 256 := by omega
    subst e
    refine pk_le 256 256 (fun _ => ⟨pk_in u 8 hu, ?_⟩) (fun z => absurd z (by omega))
    rw [nI_clamp (show u < 2 ^ 31 by omega), eu]
    refine nm_e ⟨pk_in st 256 (by omega), ?_⟩
    rw [nI_clamp (show st < 2 ^ 31 by omega)]
    refine nm_e (nm_e ⟨257, ?_⟩)
    exact zx_s78 (l := l) (st := st) hR hc hr hl hp 256 0 257 _ pv ar _ 1 _ _ (by omega) (by omega) (Or.inl (zs_0 hst h8 (fun x hx => hv x hx)))
  | succ d ih =>
    intro s m ds hd hm hv
    obtain ⟨m, rfl⟩ : ∃ k, m = k + 1 := ⟨m - 1, by omega⟩
    refine pk_le 256 s (fun z => absurd z (by omega)) (fun _ => ⟨pk_in s 256 (by omega), ?_⟩)
    rw [nI_clamp (show s < 2 ^ 31 by omega)]
    refine nm_e (nm_r (nI_1 s) (ih (s + 1) m _ (by omega) (by omega) (fun x hx => ?_)))
    by_cases e : x = s
    · rw [e, pk_us]
    · rw [pk_un e]
      exact hv x (by omega)
theorem zx_search {post : SX → Prop} {st u : Nat} (hR : R ≤ 8) (hU : U ≤ 8) (hc : cn ≤ 16) (hr : zi_ru cn R ra rt) (hu : u < U) (hst : st < 2 ^ R) (eu : asg u = nI st)
    (hp : ∀ (la ds pv ar fs : Nat → Int32) (n : Nat) (Q : Nat → Nat) (P : Nat → List Nat), (∀ i, i < cn → la i = zl_a U R u cl asg ra i) → zs_fin (zr_ap cn R cl (zl_a U R u cl asg ra) rk rt rp rn) (zr_go rk rt) st R ds pv ar fs n Q P → post (nI U, nI R, nI C, nI cn, wl, nI n, dj, cl, pm, asg, rk, ra, rt, rp, rn, wr, wa, la, ds, pv, ar, fs)) : wpX_search post (nI U, nI R, nI C, nI cn, wl, fc, dj, cl, pm, asg, rk, ra, rt, rp, rn, wr, wa, la, ds, pv, ar, fs) (nI u) := by
  have H : ∀ (d i m : Nat) (la : Nat → Int32), i + d = cn → d < m → (∀ x, x < i → la x = zl_a U R u cl asg ra x) → wX_search_2 post (nI u) (nI U) (nI R) (nI C) (nI cn) wl fc m (nI i) dj cl pm asg rk ra rt rp rn wr wa la ds pv ar fs := by
    intro d
    induction d with
    | zero =>
      intro i m la hd hm hv
      obtain ⟨m, rfl⟩ : ∃ k, m = k + 1 := ⟨m - 1, by omega⟩
      have e : i = cn := by omega
      subst e
      refine pk_le i i (fun _ => ⟨257, ?_⟩) (fun z => absurd z (by omega))
      exact zx_s30 (l := zl_a U R u cl asg ra) hR hc hr hv (by omega) hst eu (fun ds pv ar fs n Q P h => hp la ds pv ar fs n Q P hv h) 256 0 257 ds (by omega) (by omega) (fun x hx => absurd hx (Nat.not_lt_zero x))
    | succ d ih =>
      intro i m la hd hm hv
      obtain ⟨m, rfl⟩ : ∃ k, m = k + 1 := ⟨m - 1, by omega⟩
      obtain ⟨⟨a, ha, ea⟩, _⟩ := hr i (by omega)
      refine pk_le cn i (fun z => absurd z (by omega)) (fun _ => zx_least hR hU hu (by omega) (by omega) ea ⟨pk_in i 16 (by omega), ?_⟩)
      rw [nI_clamp (show i < 2 ^ 31 by omega)]
      refine nm_e (nm_r (nI_1 i) (ih (i + 1) m _ (by omega) (by omega) (fun x hx => ?_)))
      by_cases e : x = i
      · rw [e, pk_us]
      · rw [pk_un e]
        exact hv x (by omega)
  exact ⟨cn + 1, H cn 0 (cn + 1) la (by omega) (by omega) (fun x hx => absurd hx (Nat.not_lt_zero x))⟩
theorem zx_first {post : Int32 → Prop} {g n : Nat} {Q : Nat → Nat} (hR : R ≤ 8) (hg : g < 32) (hn : n ≤ 256) (hf : ∀ j, j < n → fs j = nI (Q j))
    (h1 : ∀ j, j < n → bt (zr_ef cl R (Q j)) g = true → (∀ i, i < j → ¬ bt (zr_ef cl R (Q i)) g = true) → post (nI (Q j))) (h2 : (∀ i, i < n → ¬ bt (zr_ef cl R (Q i)) g = true) → post (-1)) : wpX_firstFoundWith post (nI U, nI R, nI C, nI cn, wl, nI n, dj, cl, pm, asg, rk, ra, rt, rp, rn, wr, wa, la, ds, pv, ar, fs) (nI g) := by
  have H : ∀ d j m : Nat, j + d = n → d < m → (∀ i, i < j → ¬ bt (zr_ef cl R (Q i)) g = true) → wX_firstFoundWith_2 post (nI g) (nI U) (nI R) (nI C) (nI cn) wl (nI n) dj cl pm asg rk ra rt rp rn wr wa la ds pv ar fs m (nI j) := by
    intro d
    induction d with
    | zero =>
      intro j m hj hm hv
      obtain ⟨m, rfl⟩ : ∃ k, m = k + 1 := ⟨m - 1, by omega⟩
      have e : j = n := by omega
      subst e
      exact pk_le j j (fun _ => h2 hv) (fun z => absurd z (by omega))
    | succ d ih =>
      intro j m hj hm hv
      obtain ⟨m, rfl⟩ : ∃ k, m = k + 1 := ⟨m - 1, by omega⟩
      refine pk_le n j (fun z => absurd z (by omega)) (fun _ => ⟨pk_in j 256 (by omega), ?_⟩)
      rw [nI_clamp (show j < 2 ^ 31 by omega), hf j (by omega)]
      refine zx_expand hR (zx_con hg (zb_br _ (fun hb => nm_r (nI_1 j) (ih (j + 1) m (by omega) (by omega) (fun i hi => ?_))) (fun hb => ⟨pk_in j 256 (by omega), h1 j (by omega) hb hv⟩)))
      by_cases e : i = j
      · rw [e]
        intro y
        have hb' : bt (zr_ef cl R (Q j)) g = false := hb
        rw [hb'] at y
        exact absurd y (by decide)
      · exact hv i (by omega)
  exact ⟨n + 1, H n 0 (n + 1) (by omega) (by omega) (fun x hx => absurd hx (Nat.not_lt_zero x))⟩
theorem zx_store {post : SX → Prop} {ap : Nat → Nat → Prop} {go : Nat → Nat → Nat} {l : Nat → Int32} {st n : Nat} {Q : Nat → Nat} {P : Nat → List Nat} (hR : R ≤ 8) (hc : cn ≤ 16) (hA : ∀ s i, ap s i → i < cn) (hl : ∀ i, i < cn → la i = l i) (hv : zs_fin ap go st R ds pv ar fs n Q P) :
    ∀ (len j m : Nat) (x : Int32) (wr wa : Nat → Int32), j < n → (P (Q j)).length = len → len < m → x = nI len - 1 → post (nI U, nI R, nI C, nI cn, wl, fc, dj, cl, pm, asg, rk, ra, rt, rp, rn, zs_put nI wr (P (Q j)), zs_put l wa (P (Q j)), la, ds, pv, ar, fs) → wX_storeWitness_19 post (nI U) (nI R) (nI C) (nI cn) wl fc m (nI (Q j)) x dj cl pm asg rk ra rt rp rn wr wa la ds pv ar fs := by
  intro len
  have h8 := zb_p8 hR
  obtain ⟨he, hn, hq, hs⟩ := hv
  induction len with
  | zero =>
    intro j m x wr wa hj hlen hm hx hp
    obtain ⟨m, rfl⟩ : ∃ k, m = k + 1 := ⟨m - 1, by omega⟩
    have e : P (Q j) = [] := List.eq_nil_of_length_eq_zero hlen
    rw [e, zs_put0, zs_put0] at hp
    subst hx
    exact br_t (by decide) hp
  | succ len ih =>
    intro j m x wr wa hj hlen hm hx hp
    obtain ⟨m, rfl⟩ : ∃ k, m = k + 1 := ⟨m - 1, by omega⟩
    rw [nI_pred] at hx
    subst hx
    have hjq := hq j hj
    rcases hs j hj with e | ⟨k, r, hk, e1, e2, e3, e4⟩
    · subst e
      have e5 : P (Q 0) = [] := by rw [he.2.1]; exact he.2.2.1
      rw [e5] at hlen
      exact absurd hlen (by simp)
    · have hr := hA _ _ e4
      have hlk : (P (Q k)).length = len := by
        rw [e3, List.length_append, List.length_singleton] at hlen
        omega
      refine br_f (nI_pos (by omega)) ⟨pk_in (Q j) 256 (by omega), ?_⟩
      rw [nI_clamp (show Q j < 2 ^ 31 by omega), nI_clamp (show len < 2 ^ 31 by omega), e1, e2]
      refine nm_e ⟨pk_in len 256 (by omega), nm_e ⟨pk_in r 16 (by omega), pk_in len 256 (by omega), ?_⟩⟩
      rw [nI_clamp (show r < 2 ^ 31 by omega), hl r hr]
      refine nm_e ⟨pk_in (Q j) 256 (by omega), nm_e (nm_e ?_)⟩
      refine ih k m _ _ _ (by omega) hlk (by omega) (by rw [Int32.sub_eq_add_neg]) ?_
      rw [e3, ← zs_putS nI wr, ← zs_putS l wa, hlk] at hp
      exact hp
end
end
section
section
variable {U R C cn : Nat} {wl fc : Int32} {dj cl pm asg rk ra rt rp rn wr wa la ds pv ar fs : Nat → Int32}
theorem zx_analyse {post : Int32 → SX → Prop} {u g st : Nat} (hR : R ≤ 8) (hU : U ≤ 8) (hc : cn ≤ 16) (hr : zi_ru cn R ra rt) (hu : u < U) (hg : g < R) (hst : st < 2 ^ R) (eu : asg u = nI st)
    (h2 : (∀ q t, zp_run (zr_ap cn R cl (zl_a U R u cl asg ra) rk rt rp rn) (zr_go rk rt) q st t → ¬ bt (zr_ef cl R t) g = true) → ∀ (fc : Int32) (la ds pv ar fs : Nat → Int32), post 2 (nI U, nI R, nI C, nI cn, -1, fc, dj, cl, pm, asg, rk, ra, rt, rp, rn, wr, wa, la, ds, pv, ar, fs))
    (h1 : ∀ p, zp_min (zr_ap cn R cl (zl_a U R u cl asg ra) rk rt rp rn) (zr_go rk rt) (fun t => bt (zr_ef cl R t) g = true) st p → p.length ≤ 255 → ∀ (fc : Int32) (la ds pv ar fs : Nat → Int32), post 1 (nI U, nI R, nI C, nI cn, nI p.length, fc, dj, cl, pm, asg, rk, ra, rt, rp, rn, zs_put nI wr p, zs_put (zl_a U R u cl asg ra) wa p, la, ds, pv, ar, fs)) :
    wpX_analyse post (nI U, nI R, nI C, nI cn, wl, fc, dj, cl, pm, asg, rk, ra, rt, rp, rn, wr, wa, la, ds, pv, ar, fs) (nI u) (nI g) := by
  have h8 := zb_p8 hR
  unfold wpX_analyse
  refine zx_userY hU hu (br_f (by decide) (zx_roleY hR hg (br_f (by decide) ?_)))
  refine zx_search hR hU hc hr hu hst eu (fun la ds pv ar fs n Q P hl hv => ?_)
  have hq := hv.2.2.1
  refine zx_first (Q := Q) hR (by omega) hv.2.1 (fun j hj => (hq j hj).2.1) (fun j hj hT hn => ?_) (fun hn => ?_)
  · have hjq := hq j hj
    have hn256 := hv.2.1
    have hm : zp_min (zr_ap cn R cl (zl_a U R u cl asg ra) rk rt rp rn) (zr_go rk rt) (fun t => bt (zr_ef cl R t) g = true) st (P (Q j)) := zp_fst hv.1 hj hT hn
    have hx := h1 (P (Q j)) hm (by omega) (nI n) la ds pv ar fs
    refine br_f (zs_m1 (by omega)) ⟨pk_in (Q j) 256 (by omega), ?_⟩
    rw [nI_clamp (show Q j < 2 ^ 31 by omega), hjq.2.2.1]
    refine nm_e (nm_e ⟨(P (Q j)).length + 1, ?_⟩)
    exact zx_store hR hc (fun s i h => h.1) hl hv (P (Q j)).length j _ _ wr wa hj rfl (by omega) rfl hx
  · exact br_t rfl (h2 (fun q t hrun => zp_non (T := fun t => bt (zr_ef cl R t) g = true) hv.1 hn hrun) (nI n) la ds pv ar fs)
theorem zx_reach {post : Int32 → SX → Prop} {u st : Nat} (hR : R ≤ 8) (hU : U ≤ 8) (hc : cn ≤ 16) (hr : zi_ru cn R ra rt) (hu : u < U) (hst : st < 2 ^ R) (eu : asg u = nI st)
    (h : ∀ (n : Nat) (Q : Nat → Nat) (P : Nat → List Nat) (x : Int32), zp_end (zr_ap cn R cl (zl_a U R u cl asg ra) rk rt rp rn) (zr_go rk rt) st n Q P → (∀ j, j < n → Q j < 2 ^ R ∧ (P (Q j)).length ≤ 255) → (∀ b, bt x b = true ↔ ∃ j, j < n ∧ bt (zr_ef cl R (Q j)) b = true) → ∀ (fc : Int32) (la ds pv ar fs : Nat → Int32), post x (nI U, nI R, nI C, nI cn, wl, fc, dj, cl, pm, asg, rk, ra, rt, rp, rn, wr, wa, la, ds, pv, ar, fs)) :
    wpX_reachableRoles post (nI U, nI R, nI C, nI cn, wl, fc, dj, cl, pm, asg, rk, ra, rt, rp, rn, wr, wa, la, ds, pv, ar, fs) (nI u) := by
  have h8 := zb_p8 hR
  unfold wpX_reachableRoles
  refine zx_userY hU hu (br_f (by decide) ?_)
  refine zx_search hR hU hc hr hu hst eu (fun la ds pv ar fs n Q P hl hv => ?_)
  have hq := hv.2.2.1
  have hn := hv.2.1
  have H : ∀ (d i m : Nat) (x : Int32), i + d = n → d < m → (∀ b, bt x b = true ↔ ∃ j, j < i ∧ bt (zr_ef cl R (Q j)) b = true) → wX_reachableRoles_19 post (nI U) (nI R) (nI C) (nI cn) wl (nI n) dj cl pm asg rk ra rt rp rn wr wa la ds pv ar fs m x (nI i) := by
    intro d
    induction d with
    | zero =>
      intro i m x hi hm hx
      obtain ⟨m, rfl⟩ : ∃ k, m = k + 1 := ⟨m - 1, by omega⟩
      have e : i = n := by omega
      subst e
      exact pk_le i i (fun _ => h i Q P x hv.1 (fun j hj => ⟨(hq j hj).1, by have := (hq j hj).2.2.2; omega⟩) hx (nI i) la ds pv ar fs) (fun z => absurd z (by omega))
    | succ d ih =>
      intro i m x hi hm hx
      obtain ⟨m, rfl⟩ : ∃ k, m = k + 1 := ⟨m - 1, by omega⟩
      refine pk_le n i (fun z => absurd z (by omega)) (fun _ => ⟨pk_in i 256 (by omega), ?_⟩)
      rw [nI_clamp (show i < 2 ^ 31 by omega), (hq i (by omega)).2.1]
      refine zx_expand hR (nm_e (nm_r (nI_1 i) (ih (i + 1) m _ (by omega) (by omega) (fun b => ?_))))
      rw [b_or, Bool.or_eq_true, hx b]
      constructor
      · rintro (⟨j, h1, h2⟩ | h2)
        · exact ⟨j, by omega, h2⟩
        · exact ⟨i, by omega, h2⟩
      · intro ⟨j, h1, h2⟩
        by_cases e : j = i
        · subst e
          exact Or.inr h2
        · exact Or.inl ⟨j, by omega, h2⟩
  exact ⟨n + 1, H n 0 (n + 1) 0 (by omega) (by omega) (fun b => by rw [b_0]; exact ⟨fun z => absurd z (by decide), fun ⟨j, hj, _⟩ => absurd hj (Nat.not_lt_zero j)⟩)⟩
end
end
section
def zi_h (R : Nat) (dj cl ed : Nat → Int32) : Prop := R ≤ 8 ∧ zi_dj R dj ∧ zi_ed dj ed ∧ zi_cl R dj cl
theorem zy_b0 : vp_nar .boolean 0 = 0 := rfl
theorem zy_b1 : vp_nar .boolean 1 = 1 := rfl
theorem zy_sh8 {k : Nat} (h : k < 2 ^ 31) : nI k >>> ((3 : Int32) &&& 31) = nI (k / 8) := pk_shrN h _ 3 (by decide)
theorem zy_an8 {k : Nat} (h : k < 2 ^ 31) : nI k &&& 7 = nI (k % 8) := pk_andN (by omega) 3 (by decide)
theorem zy_sh16 {k : Nat} (h : k < 2 ^ 31) : nI k >>> ((4 : Int32) &&& 31) = nI (k / 16) := pk_shrN h _ 4 (by decide)
theorem zy_an16 {k : Nat} (h : k < 2 ^ 31) : nI k &&& 15 = nI (k % 16) := pk_andN (by omega) 4 (by decide)
theorem zy_full : ∀ R, R < 9 → (1 : Int32) <<< (nI R &&& 31) = nI (2 ^ R) := by decide +kernel
theorem zy_m16 (a : Nat) : nI a * 16 = nI (a * 16) := (Int32.ofNat_mul a 16).symm
theorem zy_ln {u a : Nat} {cl asg : Nat → Int32} {U R : Nat} (hU : U ≤ 8) : zl_f (fun v => !decide (v = u) && bt (zx_ex cl (asg v) R) a) U 0 < 0 ↔ zl_f (fun v => !decide (v = u) && bt (zx_ex cl (asg v) R) a) U 0 = -1 := by
  rcases zl_in (fun v => !decide (v = u) && bt (zx_ex cl (asg v) R) a) U 0 with e | ⟨v, hv, _, e⟩
  · rw [e]
    exact ⟨fun _ => rfl, fun _ => by decide⟩
  · rw [e]
    exact ⟨fun z => absurd z (nI_pos (by omega)), fun z => absurd z (zs_m1 (by omega))⟩
section
variable {U R C cn : Nat} {wl : Int32} {ed asg pm rk ra rt rp rn wr wa ef dg se ok : Nat → Int32} {dj cl : Nat → Int32}
theorem zy_roleN {post : Int32 → Prop} {x : Int32} (h : zi_o R x) (hp : post 1) : wpY_badRole post (nI U, nI R, nI C, nI cn, wl, ed, asg, pm, rk, ra, rt, rp, rn, wr, wa, ef, dg, se, ok) x :=
  br_c (fun _ => hp) (fun z => h.elim (fun y => absurd y z) (fun y => br_f (Int32.not_lt.mpr y) hp))
theorem zy_roleY {post : Int32 → Prop} {j : Nat} (hR : R ≤ 8) (h : j < R) (hp : post 0) : wpY_badRole post (nI U, nI R, nI C, nI cn, wl, ed, asg, pm, rk, ra, rt, rp, rn, wr, wa, ef, dg, se, ok) (nI j) :=
  br_f (nI_pos (by omega)) (br_t (nI_lt h (by omega)) hp)
theorem zy_userN {post : Int32 → Prop} {x : Int32} (h : zi_o U x) (hp : post 1) : wpY_badUser post (nI U, nI R, nI C, nI cn, wl, ed, asg, pm, rk, ra, rt, rp, rn, wr, wa, ef, dg, se, ok) x :=
  br_c (fun _ => hp) (fun z => h.elim (fun y => absurd y z) (fun y => br_f (Int32.not_lt.mpr y) hp))
theorem zy_userY {post : Int32 → Prop} {j : Nat} (hU : U ≤ 8) (h : j < U) (hp : post 0) : wpY_badUser post (nI U, nI R, nI C, nI cn, wl, ed, asg, pm, rk, ra, rt, rp, rn, wr, wa, ef, dg, se, ok) (nI j) :=
  br_f (nI_pos (by omega)) (br_t (nI_lt h (by omega)) hp)
theorem zy_clo {post : Int32 → Prop} {r : Nat} (H : zi_h R dj cl ed) (hr : r < R) (h : post (cl r)) : wpY_closure post (nI U, nI R, nI C, nI cn, wl, ed, asg, pm, rk, ra, rt, rp, rn, wr, wa, ef, dg, se, ok) (nI r) := by
  obtain ⟨hR, hd, he, hc⟩ := H
  have I : ∀ (d k m p : Nat) (J : Int32 → Int32 → Prop) (s0 s : Int32), k + d = 64 → d < m → zk_yk R dj ed r s0 s k → (∀ s', zk_yk R dj ed r s0 s' 64 → J s' (nI (p + 1))) → wY_closure_15 post J (nI p) (nI U) (nI R) (nI C) (nI cn) wl ed asg pm rk ra rt rp rn wr wa ef dg se ok m s (nI k) := by
    intro d
    induction d with
    | zero =>
      intro k m p J s0 s hk hm hv hJ
      obtain ⟨m, rfl⟩ : ∃ x, m = x + 1 := ⟨m - 1, by omega⟩
      have e : k = 64 := by omega
      subst e
      exact pk_le 64 64 (fun _ => nm_r (nI_1 p) (hJ s hv)) (fun z => absurd z (by omega))
    | succ d ih =>
      intro k m p J s0 s hk hm hv hJ
      obtain ⟨m, rfl⟩ : ∃ x, m = x + 1 := ⟨m - 1, by omega⟩
      refine pk_le 64 k (fun z => absurd z (by omega)) (fun _ => ⟨pk_in k 64 (by omega), ?_⟩)
      rw [nI_clamp (show k < 2 ^ 31 by omega), zy_sh8 (by omega), zy_an8 (by omega)]
      refine br_c (fun z => nm_r (nI_1 k) (ih (k + 1) m p J s0 s (by omega) (by omega) (zk_yskip hv (fun y => absurd z y)) hJ)) (fun z => br_c (fun y => ?_) (fun y => ?_))
      · exact nm_r (nI_1 k) (ih (k + 1) m p J s0 s (by omega) (by omega) (zk_yskip hv (fun _ => (zb_rs s (by omega)).mp y)) hJ)
      · exact nm_e (nm_r (nI_1 k) (ih (k + 1) m p J s0 _ (by omega) (by omega) (zk_yset hd he (by omega) hv z (zb_nf (fun w => y ((zb_rs s (by omega)).mpr w)))) hJ))
  have O : ∀ (d p m : Nat) (s : Int32), p + d = 8 → d < m → zk_ys R dj r s p → wY_closure_6 post (nI U) (nI R) (nI C) (nI cn) wl ed asg pm rk ra rt rp rn wr wa ef dg se ok m s (nI p) := by
    intro d
    induction d with
    | zero =>
      intro p m s hp hm hv
      obtain ⟨m, rfl⟩ : ∃ x, m = x + 1 := ⟨m - 1, by omega⟩
      have e : p = 8 := by omega
      subst e
      refine pk_le 8 8 (fun _ => ?_) (fun z => absurd z (by omega))
      rw [zk_yv hR hd hR hr hc hv]
      exact h
    | succ d ih =>
      intro p m s hp hm hv
      obtain ⟨m, rfl⟩ : ∃ x, m = x + 1 := ⟨m - 1, by omega⟩
      refine pk_le 8 p (fun z => absurd z (by omega)) (fun _ => ⟨65, ?_⟩)
      exact I 64 0 65 p _ s s (by omega) (by omega) (zk_yb hv) (fun s' hs' => ih (p + 1) m s' (by omega) (by omega) (zk_yend hR hd he hv hs'))
  exact nm_e ⟨9, O 8 0 9 _ (by omega) (by omega) (zk_y0 (by omega))⟩
theorem zy_eff {post : Int32 → Prop} {s : Int32} (H : zi_h R dj cl ed) (h : post (zx_ex cl s R)) : wpY_eff post (nI U, nI R, nI C, nI cn, wl, ed, asg, pm, rk, ra, rt, rp, rn, wr, wa, ef, dg, se, ok) s := by
  have hR := H.1
  have L : ∀ d r n : Nat, r + d = R → d < n → wY_eff_4 post s (nI U) (nI R) (nI C) (nI cn) wl ed asg pm rk ra rt rp rn wr wa ef dg se ok n (zx_ex cl s r) (nI r) := by
    intro d
    induction d with
    | zero =>
      intro r n hr hn
      obtain ⟨n, rfl⟩ : ∃ m, n = m + 1 := ⟨n - 1, by omega⟩
      have e : r = R := by omega
      rw [e]
      exact pk_le R R (fun _ => h) (fun z => absurd z (by omega))
    | succ d ih =>
      intro r n hr hn
      obtain ⟨n, rfl⟩ : ∃ m, n = m + 1 := ⟨n - 1, by omega⟩
      have i := ih (r + 1) n (by omega) (by omega)
      refine pk_le R r (fun z => absurd z (by omega)) (fun _ => ?_)
      by_cases hb : bt s r = true
      · have e : zx_ex cl s (r + 1) = zx_ex cl s r ||| cl r := if_pos hb
        rw [e] at i
        refine br_f (fun z => by rw [(zb_rs s (by omega)).mp z] at hb; exact absurd hb (by decide)) (zy_clo H (by omega) ?_)
        exact nm_e (nm_r (nI_1 r) i)
      · have e : zx_ex cl s (r + 1) = zx_ex cl s r := if_neg hb
        rw [e] at i
        exact br_t ((zb_rs s (by omega)).mpr (zb_nt hb)) (nm_r (nI_1 r) i)
  exact ⟨R + 1, L R 0 (R + 1) (by omega) (by omega)⟩
theorem zy_adm {post : Int32 → Prop} {u a : Nat} (H : zi_h R dj cl ed) (hU : U ≤ 8) (hu : u < U) (ha : a < 32) (h : post (zl_f (fun v => !decide (v = u) && bt (zx_ex cl (asg v) R) a) U 0)) : wpY_adminUser post (nI U, nI R, nI C, nI cn, wl, ed, asg, pm, rk, ra, rt, rp, rn, wr, wa, ef, dg, se, ok) (nI u) (nI a) := by
  have L : ∀ d v n : Nat, v + d = U → d < n → post (zl_f (fun v => !decide (v = u) && bt (zx_ex cl (asg v) R) a) d v) → wY_adminUser_2 post (nI u) (nI a) (nI U) (nI R) (nI C) (nI cn) wl ed asg pm rk ra rt rp rn wr wa ef dg se ok n (nI v) := by
    intro d
    induction d with
    | zero =>
      intro v n hv hn hp
      obtain ⟨n, rfl⟩ : ∃ m, n = m + 1 := ⟨n - 1, by omega⟩
      have e : v = U := by omega
      rw [e]
      exact pk_le U U (fun _ => hp) (fun z => absurd z (by omega))
    | succ d ih =>
      intro v n hv hn hp
      obtain ⟨n, rfl⟩ : ∃ m, n = m + 1 := ⟨n - 1, by omega⟩
      have ih2 : ((fun v => !decide (v = u) && bt (zx_ex cl (asg v) R) a) v = false) → wY_adminUser_2 post (nI u) (nI a) (nI U) (nI R) (nI C) (nI cn) wl ed asg pm rk ra rt rp rn wr wa ef dg se ok n (nI (v + 1)) := by
        intro hg
        refine ih (v + 1) n (by omega) (by omega) ?_
        have e2 : zl_f (fun v => !decide (v = u) && bt (zx_ex cl (asg v) R) a) (d + 1) v = zl_f (fun v => !decide (v = u) && bt (zx_ex cl (asg v) R) a) d (v + 1) := if_neg (by rw [hg]; decide)
        rw [e2] at hp
        exact hp
      refine pk_le U v (fun z => absurd z (by omega)) (fun _ => pk_eq v u (fun z => ?_) (fun z => ⟨pk_in v 8 (by omega), ?_⟩))
      · refine nm_r (nI_1 v) (ih2 ?_)
        dsimp only
        rw [decide_eq_true z]
        rfl
      · rw [nI_clamp (show v < 2 ^ 31 by omega)]
        refine zy_eff H (br_c (fun y => nm_r (nI_1 v) (ih2 ?_)) (fun y => ?_))
        · dsimp only
          rw [(zb_rs _ ha).mp y, Bool.and_false]
        · have hb := zb_nf (fun w => y ((zb_rs _ ha).mpr w))
          have e2 : zl_f (fun v => !decide (v = u) && bt (zx_ex cl (asg v) R) a) (d + 1) v = nI v := if_pos (by dsimp only; rw [hb, decide_eq_false z]; rfl)
          rw [e2] at hp
          exact hp
  exact ⟨U + 1, L U 0 (U + 1) (by omega) (by omega) h⟩
theorem zy_prep {post : SY → Prop} {u : Nat} (H : zi_h R dj cl ed) (hU : U ≤ 8) (hc : cn ≤ 16) (hr : zi_ru cn R ra rt) (hu : u < U) (h : ∀ ef ok : Nat → Int32, (∀ s, s < 256 → ef s = zr_ef cl R s) → (∀ i, i < 16 → (¬ ok i = 0 ↔ (i < cn ∧ ¬ zl_a U R u cl asg ra i = -1))) → post (nI U, nI R, nI C, nI cn, wl, ed, asg, pm, rk, ra, rt, rp, rn, wr, wa, ef, dg, se, ok)) : wpY_prepare post (nI U, nI R, nI C, nI cn, wl, ed, asg, pm, rk, ra, rt, rp, rn, wr, wa, ef, dg, se, ok) (nI u) := by
  have L2 : ∀ (d i m : Nat) (ef ok : Nat → Int32), i + d = 16 → d < m → (∀ s, s < 256 → ef s = zr_ef cl R s) → (∀ x, x < i → (¬ ok x = 0 ↔ (x < cn ∧ ¬ zl_a U R u cl asg ra x = -1))) → wY_prepare_28 post (nI u) (nI U) (nI R) (nI C) (nI cn) wl m (nI i) ed asg pm rk ra rt rp rn wr wa ef dg se ok := by
    intro d
    induction d with
    | zero =>
      intro i m ef ok hi hm hef hok
      obtain ⟨m, rfl⟩ : ∃ x, m = x + 1 := ⟨m - 1, by omega⟩
      have e : i = 16 := by omega
      subst e
      exact pk_le 16 16 (fun _ => h ef ok hef hok) (fun z => absurd z (by omega))
    | succ d ih =>
      intro i m ef ok hi hm hef hok
      obtain ⟨m, rfl⟩ : ∃ x, m = x + 1 := ⟨m - 1, by omega⟩
      have nx : ∀ b : Int32, (¬ b = 0 ↔ (i < cn ∧ ¬ zl_a U R u cl asg ra i = -1)) → wY_prepare_28 post (nI u) (nI U) (nI R) (nI C) (nI cn) wl m (nI (i + 1)) ed asg pm rk ra rt rp rn wr wa ef dg se (upd ok i b) := by
        intro b hb
        refine ih (i + 1) m ef _ (by omega) (by omega) hef (fun x hx => ?_)
        by_cases e : x = i
        · rw [e, pk_us]
          exact hb
        · rw [pk_un e]
          exact hok x (by omega)
      refine pk_le 16 i (fun z => absurd z (by omega)) (fun _ => pk_le cn i (fun z => ⟨pk_in i 16 (by omega), ?_⟩) (fun z => ⟨pk_in i 16 (by omega), ?_⟩))
      · rw [nI_clamp (show i < 2 ^ 31 by omega)]
        exact nm_e (nm_r (nI_1 i) (nx _ (by rw [zy_b0]; exact ⟨fun w => absurd rfl w, fun w => absurd w.1 (by omega)⟩)))
      · obtain ⟨⟨a, ha, ea⟩, _⟩ := hr i z
        have hR := H.1
        have ez : zl_a U R u cl asg ra i = zl_f (fun v => !decide (v = u) && bt (zx_ex cl (asg v) R) a) U 0 := by
          unfold zl_a
          rw [ea, nI_clamp (show a < 2 ^ 31 by omega)]
        rw [nI_clamp (show i < 2 ^ 31 by omega), ea]
        refine zy_adm H hU hu (by omega) (br_c (fun y => ⟨pk_in i 16 (by omega), ?_⟩) (fun y => ⟨pk_in i 16 (by omega), ?_⟩))
        · exact nm_e (nm_r (nI_1 i) (nx _ (by rw [zy_b0, ez]; exact ⟨fun w => absurd rfl w, fun w => absurd ((zy_ln hU).mp y) w.2⟩)))
        · exact nm_e (nm_r (nI_1 i) (nx _ (by rw [zy_b1, ez]; exact ⟨fun _ => ⟨z, fun w => y ((zy_ln hU).mpr w)⟩, fun _ => by decide⟩)))
  have L1 : ∀ (d s m : Nat) (ef : Nat → Int32), s + d = 256 → d < m → (∀ x, x < s → ef x = zr_ef cl R x) → wY_prepare_2 post (nI u) (nI U) (nI R) (nI C) (nI cn) wl m (nI s) ed asg pm rk ra rt rp rn wr wa ef dg se ok := by
    intro d
    induction d with
    | zero =>
      intro s m ef hs hm hef
      obtain ⟨m, rfl⟩ : ∃ x, m = x + 1 := ⟨m - 1, by omega⟩
      have e : s = 256 := by omega
      subst e
      exact pk_le 256 256 (fun _ => ⟨17, L2 16 0 17 ef ok (by omega) (by omega) hef (fun x hx => absurd hx (Nat.not_lt_zero x))⟩) (fun z => absurd z (by omega))
    | succ d ih =>
      intro s m ef hs hm hef
      obtain ⟨m, rfl⟩ : ∃ x, m = x + 1 := ⟨m - 1, by omega⟩
      refine pk_le 256 s (fun z => absurd z (by omega)) (fun _ => zy_eff H ⟨pk_in s 256 (by omega), ?_⟩)
      rw [nI_clamp (show s < 2 ^ 31 by omega)]
      refine nm_e (nm_r (nI_1 s) (ih (s + 1) m _ (by omega) (by omega) (fun x hx => ?_)))
      by_cases e : x = s
      · rw [e, pk_us]
        rfl
      · rw [pk_un e]
        exact hef x (by omega)
  exact ⟨257, L1 256 0 257 ef (by omega) (by omega) (fun x hx => absurd hx (Nat.not_lt_zero x))⟩
theorem zy_apl {post : Int32 → Prop} {l : Nat → Int32} {s i : Nat} (hR : R ≤ 8) (hc : cn ≤ 16) (hr : zi_ru cn R ra rt) (hef : ∀ s, s < 256 → ef s = zr_ef cl R s) (hok : ∀ i, i < 16 → (¬ ok i = 0 ↔ (i < cn ∧ ¬ l i = -1))) (hs : s < 2 ^ R) (hi : i < 16)
    (h1 : zr_ap cn R cl l rk rt rp rn s i → post 1) (h0 : ¬ zr_ap cn R cl l rk rt rp rn s i → post 0) : wpY_applicable post (nI U, nI R, nI C, nI cn, wl, ed, asg, pm, rk, ra, rt, rp, rn, wr, wa, ef, dg, se, ok) (nI s) (nI i) := by
  have h8 := zb_p8 hR
  refine br_f (nI_pos (by omega)) (pk_le cn i (fun z => h0 (fun a => absurd a.1 (by omega))) (fun z => ⟨pk_in i 16 hi, ?_⟩))
  rw [nI_clamp (show i < 2 ^ 31 by omega), zb_255 (show s < 256 by omega), nI_clamp (show s < 2 ^ 31 by omega), hef s (by omega)]
  obtain ⟨_, t, ht, et⟩ := hr i z
  have ett : (rt i).toNatClampNeg = t := by rw [et, nI_clamp (by omega)]
  refine br_c (fun y => h0 (fun a => absurd y ((hok i hi).mpr ⟨a.1, a.2.1⟩))) (fun y => ⟨pk_in s 256 (by omega), nm_e ⟨pk_in i 16 hi, pk_in i 16 hi, br_c (fun y1 => ⟨pk_in i 16 hi, br_c (fun y2 => ⟨pk_in i 16 hi, ?_⟩) (fun y2 => h0 (fun a => y2 a.2.2.2.1))⟩) (fun y1 => h0 (fun a => y1 a.2.2.1))⟩⟩)
  have hl := ((hok i hi).mp y).2
  rw [et]
  unfold wY_applicable_82
  rw [nI_clamp (show i < 2 ^ 31 by omega)]
  refine br_c (fun y3 => ⟨pk_in i 16 hi, ?_⟩) (fun y3 => ⟨pk_in i 16 hi, ?_⟩)
  · have hb := (zb_rs (nI s) (l := t) (by omega)).mp y3
    refine br_c (fun k1 => br_t rfl (h1 ⟨z, hl, y1, y2, ?_⟩)) (fun k1 => ⟨rfl, h0 (fun a => ?_)⟩)
    · rw [ett, hb, show decide (¬ rk i = 1) = false from decide_eq_false (fun w => w k1)]
    · have w := a.2.2.2.2
      rw [ett, hb, decide_eq_true k1] at w
      exact absurd w (by decide)
  · have hb := zb_nf (fun w => y3 ((zb_rs (nI s) (l := t) (by omega)).mpr w))
    refine br_c (fun k1 => br_f (by decide) (h0 (fun a => ?_))) (fun k1 => ⟨rfl, h1 ⟨z, hl, y1, y2, ?_⟩⟩)
    · have w := a.2.2.2.2
      rw [ett, hb, show decide (¬ rk i = 1) = false from decide_eq_false (fun w => w k1)] at w
      exact absurd w (by decide)
    · rw [ett, hb, decide_eq_true k1]
theorem zy_app {post : Int32 → Prop} {s i t : Nat} (hR : R ≤ 8) (hs : s < 2 ^ R) (hi : i < 16) (ht : t < R) (et : rt i = nI t) (h : post (nI (zr_go rk rt s i))) : wpY_apply post (nI U, nI R, nI C, nI cn, wl, ed, asg, pm, rk, ra, rt, rp, rn, wr, wa, ef, dg, se, ok) (nI s) (nI i) := by
  have h8 := zb_p8 hR
  obtain ⟨e, hl⟩ := zr_goE (rk := rk) hR ht et hs
  have e2 := zb_255 (show zr_go rk rt s i < 256 by omega)
  refine ⟨pk_in i 16 hi, ?_⟩
  rw [nI_clamp (show i < 2 ^ 31 by omega)]
  unfold zr_x at e
  refine br_c (fun y => ⟨pk_in i 16 hi, ?_⟩) (fun y => ⟨pk_in i 16 hi, ?_⟩)
  · rw [if_pos y] at e
    rw [← e, e2]
    exact h
  · rw [if_neg y] at e
    rw [← e, e2]
    exact h
end
end
section
theorem zr_hg {cn R : Nat} {cl l rk ra rt rp rn : Nat → Int32} (hR : R ≤ 8) (hr : zi_ru cn R ra rt) : ∀ s i, s < 2 ^ R → zr_ap cn R cl l rk rt rp rn s i → zr_go rk rt s i < 2 ^ R := by
  intro s i hs ha
  obtain ⟨_, t, ht, et⟩ := hr i ha.1
  exact (zr_goE hR ht et hs).2
theorem zr_hA {cn R : Nat} {cl l rk rt rp rn : Nat → Int32} (hc : cn ≤ 16) : ∀ s i, zr_ap cn R cl l rk rt rp rn s i → i < 16 := fun s i h => Nat.lt_of_lt_of_le h.1 hc
section
variable {U R C cn : Nat} {wl : Int32} {ed asg pm rk ra rt rp rn wr wa ef dg se ok : Nat → Int32} {dj cl : Nat → Int32}
theorem zy_260 {post : Int32 → SY → Prop} {J : Int32 → Int32 → (Nat → Int32) → (Nat → Int32) → (Nat → Int32) → (Nat → Int32) → (Nat → Int32) → (Nat → Int32) → (Nat → Int32) → (Nat → Int32) → (Nat → Int32) → (Nat → Int32) → (Nat → Int32) → (Nat → Int32) → (Nat → Int32) → (Nat → Int32) → Prop} {T : Nat → Prop} {u s len k i0 : Nat} {d : Nat → Nat} {p : List Nat} (H : zi_h R dj cl ed) (hU : U ≤ 8) (hc : cn ≤ 16) (hr : zi_ru cn R ra rt) (hu : u < U) (hef : ∀ s, s < 256 → ef s = zr_ef cl R s) (hok : ∀ i, i < 16 → (¬ ok i = 0 ↔ (i < cn ∧ ¬ zl_a U R u cl asg ra i = -1)))
    (hdg : ∀ x, x < 2 ^ R → dg x = nI (d x)) (hsn : zy_snd (zr_ap cn R cl (zl_a U R u cl asg ra) rk rt rp rn) (zr_go rk rt) T R d) (hcm : zy_cmp (zr_ap cn R cl (zl_a U R u cl asg ra) rk rt rp rn) (zr_go rk rt) T R d 257)
    (hv : zp_min (zr_ap cn R cl (zl_a U R u cl asg ra) rk rt rp rn) (zr_go rk rt) T s (i0 :: p)) (hs : s < 2 ^ R) (hk : k + (p.length + 1) = len) (hlen : len ≤ 255)
    (hJ : J (nI (zr_go rk rt s i0)) (nI (k + 1)) ed asg pm rk ra rt rp rn (upd wr k (nI i0)) (upd wa k (zl_a U R u cl asg ra i0)) ef dg se ok) : ∃ n, wY_analyse_260 post J (nI u) (nI s) (nI len) (nI k) (nI U) (nI R) (nI C) (nI cn) wl ed asg pm rk ra rt rp rn wr wa ef dg se ok n (-1) 0 := by
  have hR := H.1
  have h8 := zb_p8 hR
  have hA : ∀ s i, zr_ap cn R cl (zl_a U R u cl asg ra) rk rt rp rn s i → i < 16 := zr_hA hc
  have hg : ∀ s i, s < 2 ^ R → zr_ap cn R cl (zl_a U R u cl asg ra) rk rt rp rn s i → zr_go rk rt s i < 2 ^ R := zr_hg hR hr
  obtain ⟨hap, hmn⟩ := zp_mtl hA hv
  have hi0 : i0 < cn := hap.1
  have hge := hg _ _ hs hap
  have hde : d (zr_go rk rt s i0) = p.length := zy_at hA hsn hcm hge hmn (by omega)
  obtain ⟨⟨a, ha, ea⟩, t, ht, et⟩ := hr i0 hi0
  have ez : zl_a U R u cl asg ra i0 = zl_f (fun v => !decide (v = u) && bt (zx_ex cl (asg v) R) a) U 0 := by
    unfold zl_a
    rw [ea, nI_clamp (show a < 2 ^ 31 by omega)]
  have esub : nI len - nI k - 1 = nI p.length := by
    rw [pk_sub (by omega), show len - k = p.length + 1 by omega, nI_pred]
  have F2 : ∀ f j m : Nat, j + f = cn → f < m → wY_analyse_260 post J (nI u) (nI s) (nI len) (nI k) (nI U) (nI R) (nI C) (nI cn) wl ed asg pm rk ra rt rp rn wr wa ef dg se ok m (nI i0) (nI j) := by
    intro f
    induction f with
    | zero =>
      intro j m hj hm
      obtain ⟨m, rfl⟩ : ∃ x, m = x + 1 := ⟨m - 1, by omega⟩
      have e : j = cn := by omega
      rw [e]
      refine pk_le cn cn (fun _ => br_t (nI_pos' (by omega)) ⟨pk_in k 256 (by omega), ?_⟩) (fun z => absurd z (by omega))
      rw [nI_clamp (show k < 2 ^ 31 by omega), nI_clamp (show i0 < 2 ^ 31 by omega), ea]
      refine nm_e ⟨pk_in i0 16 (by omega), zy_adm H hU hu (by omega) ⟨pk_in k 256 (by omega), nm_e ?_⟩⟩
      rw [← ez]
      exact zy_app hR hs (by omega) ht et (nm_r (nI_1 k) hJ)
    | succ f ih =>
      intro j m hj hm
      obtain ⟨m, rfl⟩ : ∃ x, m = x + 1 := ⟨m - 1, by omega⟩
      exact pk_le cn j (fun z => absurd z (by omega)) (fun _ => br_t (nI_pos' (by omega)) (nm_r (nI_1 j) (ih (j + 1) m (by omega) (by omega))))
  have F1 : ∀ f j m : Nat, j + f = i0 → cn - j < m → wY_analyse_260 post J (nI u) (nI s) (nI len) (nI k) (nI U) (nI R) (nI C) (nI cn) wl ed asg pm rk ra rt rp rn wr wa ef dg se ok m (-1) (nI j) := by
    intro f
    induction f with
    | zero =>
      intro j m hj hm
      obtain ⟨m, rfl⟩ : ∃ x, m = x + 1 := ⟨m - 1, by omega⟩
      have e : j = i0 := by omega
      rw [e]
      rw [e] at hm
      refine pk_le cn i0 (fun z => absurd z (by omega)) (fun _ => br_f (by decide) (zy_apl hR hc hr hef hok hs (by omega) (fun _ => br_f (by decide) (zy_app hR hs (by omega) ht et ⟨pk_in (zr_go rk rt s i0) 256 (by omega), ?_⟩)) (fun hn => absurd hap hn)))
      rw [nI_clamp (show zr_go rk rt s i0 < 2 ^ 31 by omega), hdg _ hge, hde, esub]
      exact br_t rfl (nm_r (nI_1 i0) (F2 (cn - (i0 + 1)) (i0 + 1) m (by omega) (by omega)))
    | succ f ih =>
      intro j m hj hm
      obtain ⟨m, rfl⟩ : ∃ x, m = x + 1 := ⟨m - 1, by omega⟩
      have nx := ih (j + 1) m (by omega) (by omega)
      refine pk_le cn j (fun z => absurd z (by omega)) (fun _ => br_f (by decide) (zy_apl hR hc hr hef hok hs (by omega) (fun hj2 => br_f (by decide) ?_) (fun hn => br_t rfl (nm_r (nI_1 j) nx))))
      obtain ⟨_, t2, ht2, et2⟩ := hr j (by omega)
      have hgj := hg _ _ hs hj2
      refine zy_app hR hs (by omega) ht2 et2 ⟨pk_in (zr_go rk rt s j) 256 (by omega), ?_⟩
      rw [nI_clamp (show zr_go rk rt s j < 2 ^ 31 by omega), hdg _ hgj, esub]
      have hne := zy_not hA hsn hg hs hv (by omega) (by omega : j < i0) hj2
      have hd1 := (hsn _ hgj).1
      refine br_f ?_ (nm_r (nI_1 j) nx)
      rw [nI_eq (by omega) (by omega)]
      exact hne
  exact ⟨cn + 1, F1 i0 0 (cn + 1) (by omega) (by omega)⟩
theorem zy_239 {post : Int32 → SY → Prop} {T : Nat → Prop} {u len : Nat} {d : Nat → Nat} (H : zi_h R dj cl ed) (hU : U ≤ 8) (hc : cn ≤ 16) (hr : zi_ru cn R ra rt) (hu : u < U) (hef : ∀ s, s < 256 → ef s = zr_ef cl R s) (hok : ∀ i, i < 16 → (¬ ok i = 0 ↔ (i < cn ∧ ¬ zl_a U R u cl asg ra i = -1)))
    (hdg : ∀ x, x < 2 ^ R → dg x = nI (d x)) (hsn : zy_snd (zr_ap cn R cl (zl_a U R u cl asg ra) rk rt rp rn) (zr_go rk rt) T R d) (hcm : zy_cmp (zr_ap cn R cl (zl_a U R u cl asg ra) rk rt rp rn) (zr_go rk rt) T R d 257) (hlen : len ≤ 255) :
    ∀ (p dn : List Nat) (s m : Nat), zp_min (zr_ap cn R cl (zl_a U R u cl asg ra) rk rt rp rn) (zr_go rk rt) T s p → s < 2 ^ R → dn.length + p.length = len → p.length < m → post 1 (nI U, nI R, nI C, nI cn, nI len, ed, asg, pm, rk, ra, rt, rp, rn, zs_put nI wr (dn ++ p), zs_put (zl_a U R u cl asg ra) wa (dn ++ p), ef, dg, se, ok) → wY_analyse_239 post (nI u) (nI len) (nI U) (nI R) (nI C) (nI cn) (nI len) m (nI s) (nI dn.length) ed asg pm rk ra rt rp rn (zs_put nI wr dn) (zs_put (zl_a U R u cl asg ra) wa dn) ef dg se ok := by
  intro p
  have hR := H.1
  have hA : ∀ s i, zr_ap cn R cl (zl_a U R u cl asg ra) rk rt rp rn s i → i < 16 := zr_hA hc
  have hg : ∀ s i, s < 2 ^ R → zr_ap cn R cl (zl_a U R u cl asg ra) rk rt rp rn s i → zr_go rk rt s i < 2 ^ R := zr_hg hR hr
  induction p with
  | nil =>
    intro dn s m hv hs hl hm hp
    obtain ⟨m, rfl⟩ : ∃ x, m = x + 1 := ⟨m - 1, by omega⟩
    have e : dn.length = len := hl
    rw [List.append_nil] at hp
    exact pk_le len dn.length (fun _ => hp) (fun z => absurd z (by omega))
  | cons i p ih =>
    intro dn s m hv hs hl hm hp
    obtain ⟨m, rfl⟩ : ∃ x, m = x + 1 := ⟨m - 1, by omega⟩
    simp only [List.length_cons] at hl hm
    refine pk_le len dn.length (fun z => absurd z (by omega)) (fun _ => pk_le 256 dn.length (fun z => absurd z (by omega)) (fun _ => ?_))
    obtain ⟨hap, hmn⟩ := zp_mtl hA hv
    refine zy_260 H hU hc hr hu hef hok hdg hsn hcm hv hs hl hlen ?_
    rw [zs_putF, zs_putF]
    have e : dn ++ i :: p = (dn ++ [i]) ++ p := by simp
    rw [e] at hp
    have nx := ih (dn ++ [i]) (zr_go rk rt s i) m hmn (hg _ _ hs hap) (by rw [List.length_append, List.length_singleton]; omega) (by omega) hp
    rw [List.length_append, List.length_singleton] at nx
    exact nx
theorem zy_194 {post : Int32 → SY → Prop} {T : Nat → Prop} {u st : Nat} {d : Nat → Nat} (H : zi_h R dj cl ed) (hU : U ≤ 8) (hc : cn ≤ 16) (hr : zi_ru cn R ra rt) (hu : u < U) (hef : ∀ s, s < 256 → ef s = zr_ef cl R s) (hok : ∀ i, i < 16 → (¬ ok i = 0 ↔ (i < cn ∧ ¬ zl_a U R u cl asg ra i = -1)))
    (hdg : ∀ x, x < 2 ^ R → dg x = nI (d x)) (hsn : zy_snd (zr_ap cn R cl (zl_a U R u cl asg ra) rk rt rp rn) (zr_go rk rt) T R d) (hcm : zy_cmp (zr_ap cn R cl (zl_a U R u cl asg ra) rk rt rp rn) (zr_go rk rt) T R d 257) (hst : st < 2 ^ R) (eu : asg u = nI st)
    (hx : ((∀ q t, zp_run (zr_ap cn R cl (zl_a U R u cl asg ra) rk rt rp rn) (zr_go rk rt) q st t → ¬ T t) ∧ post 2 (nI U, nI R, nI C, nI cn, -1, ed, asg, pm, rk, ra, rt, rp, rn, wr, wa, ef, dg, se, ok)) ∨ (∃ p, zp_min (zr_ap cn R cl (zl_a U R u cl asg ra) rk rt rp rn) (zr_go rk rt) T st p ∧ p.length ≤ 255 ∧ post 1 (nI U, nI R, nI C, nI cn, nI p.length, ed, asg, pm, rk, ra, rt, rp, rn, zs_put nI wr p, zs_put (zl_a U R u cl asg ra) wa p, ef, dg, se, ok))) : wY_analyse_194 post (nI u) (nI U) (nI R) (nI C) (nI cn) wl ed asg pm rk ra rt rp rn wr wa ef dg se ok := by
  have h8 := zb_p8 H.1
  have hd := (hsn st hst).1
  refine ⟨pk_in u 8 (by omega), ?_⟩
  rw [nI_clamp (show u < 2 ^ 31 by omega), eu]
  refine nm_e ⟨pk_in st 256 (by omega), ?_⟩
  rw [nI_clamp (show st < 2 ^ 31 by omega), hdg st hst]
  rcases hx with ⟨hn, hp⟩ | ⟨p, hm, hl, hp⟩
  · have e := zy_inf hsn hst hn
    exact pk_lt (d st) 100000 (fun z => absurd z (by omega)) (fun _ => hp)
  · have e := zy_at (zr_hA hc) hsn hcm hst hm (by omega)
    rw [e]
    refine pk_lt p.length 100000 (fun _ => ⟨pk_in st 256 (by omega), nm_e ⟨p.length + 1, ?_⟩⟩) (fun z => absurd z (by omega))
    have L := zy_239 (post := post) (T := T) (wr := wr) (wa := wa) (pm := pm) (C := C) (se := se) (u := u) (len := p.length) H hU hc hr hu hef hok hdg hsn hcm hl p [] st (p.length + 1) hm hst (by simp) (by omega) hp
    rw [zs_put0, zs_put0] at L
    exact L
theorem zy_91 {post : Int32 → SY → Prop} {J : Int32 → (Nat → Int32) → (Nat → Int32) → (Nat → Int32) → (Nat → Int32) → (Nat → Int32) → (Nat → Int32) → (Nat → Int32) → (Nat → Int32) → (Nat → Int32) → (Nat → Int32) → (Nat → Int32) → (Nat → Int32) → (Nat → Int32) → (Nat → Int32) → Prop} {T : Nat → Prop} {u pass : Nat} {d0 : Nat → Nat} (H : zi_h R dj cl ed) (hU : U ≤ 8) (hc : cn ≤ 16) (hr : zi_ru cn R ra rt) (hu : u < U) (hef : ∀ s, s < 256 → ef s = zr_ef cl R s) (hok : ∀ i, i < 16 → (¬ ok i = 0 ↔ (i < cn ∧ ¬ zl_a U R u cl asg ra i = -1)))
    (hend : ∀ (ch : Int32) (dg : Nat → Int32) (d : Nat → Nat), (∀ x, x < 2 ^ R → dg x = nI (d x)) → zy_snd (zr_ap cn R cl (zl_a U R u cl asg ra) rk rt rp rn) (zr_go rk rt) T R d → zy_pas (zr_ap cn R cl (zl_a U R u cl asg ra) rk rt rp rn) (zr_go rk rt) R d0 d (16 * 2 ^ R) → (ch = 0 → ∀ s, s < 2 ^ R → d s = d0 s) → (ch = 0 → wY_analyse_194 post (nI u) (nI U) (nI R) (nI C) (nI cn) wl ed asg pm rk ra rt rp rn wr wa ef dg se ok) ∧ (¬ ch = 0 → J (nI (pass + 1)) ed asg pm rk ra rt rp rn wr wa ef dg se ok)) :
    ∀ (f x m : Nat) (ch : Int32) (dg : Nat → Int32) (d : Nat → Nat), x + f = 16 * 2 ^ R → f < m → (∀ x, x < 2 ^ R → dg x = nI (d x)) → zy_snd (zr_ap cn R cl (zl_a U R u cl asg ra) rk rt rp rn) (zr_go rk rt) T R d → zy_pas (zr_ap cn R cl (zl_a U R u cl asg ra) rk rt rp rn) (zr_go rk rt) R d0 d x → (ch = 0 → ∀ s, s < 2 ^ R → d s = d0 s) → wY_analyse_91 post J (nI u) (nI (2 ^ R)) (nI pass) (nI U) (nI R) (nI C) (nI cn) wl m ch (nI x) ed asg pm rk ra rt rp rn wr wa ef dg se ok := by
  intro f
  have hR := H.1
  have h8 := zb_p8 hR
  have hg : ∀ s i, s < 2 ^ R → zr_ap cn R cl (zl_a U R u cl asg ra) rk rt rp rn s i → zr_go rk rt s i < 2 ^ R := zr_hg hR hr
  induction f with
  | zero =>
    intro x m ch dg d hx hm hdg hsn hpa hch
    obtain ⟨m, rfl⟩ : ∃ y, m = y + 1 := ⟨m - 1, by omega⟩
    have e : x = 16 * 2 ^ R := by omega
    rw [e] at hpa
    obtain ⟨e0, e1⟩ := hend ch dg d hdg hsn hpa hch
    exact pk_le (2 ^ R * 16) x (fun _ => br_c e0 (fun z => nm_r (nI_1 pass) (e1 z))) (fun z => absurd z (by omega)) (hx := zy_m16 _)
  | succ f ih =>
    intro x m ch dg d hx hm hdg hsn hpa hch
    obtain ⟨m, rfl⟩ : ∃ y, m = y + 1 := ⟨m - 1, by omega⟩
    have ex : 16 * (x / 16) + x % 16 = x := Nat.div_add_mod x 16
    have hs : x / 16 < 2 ^ R := by omega
    have hi : x % 16 < 16 := Nat.mod_lt _ (by omega)
    refine pk_le (2 ^ R * 16) x (fun z => absurd z (by omega)) (fun _ => ?_) (hx := zy_m16 _)
    rw [zy_sh16 (by omega), zy_an16 (by omega)]
    refine nm_e (nm_e ?_)
    rw [← ex] at hpa
    generalize x / 16 = s at hs hpa ex
    generalize x % 16 = i at hi hpa ex
    have skip : (zr_ap cn R cl (zl_a U R u cl asg ra) rk rt rp rn s i → ¬ d (zr_go rk rt s i) + 1 < d s) → wY_analyse_91 post J (nI u) (nI (2 ^ R)) (nI pass) (nI U) (nI R) (nI C) (nI cn) wl m ch (nI (x + 1)) ed asg pm rk ra rt rp rn wr wa ef dg se ok := by
      intro hn
      have q := zy_pskip hg hpa hi hs hn
      rw [ex] at q
      exact ih (x + 1) m ch dg d (by omega) (by omega) hdg hsn q hch
    refine zy_apl hR hc hr hef hok hs hi (fun hap => br_f (by decide) ?_) (fun hn => br_t rfl (nm_r (nI_1 x) (skip (fun z => absurd z hn))))
    obtain ⟨_, t, ht, et⟩ := hr i hap.1
    have hgo := hg _ _ hs hap
    have hb1 := (hsn _ hgo).1
    have hb2 := (hsn _ hs).1
    refine zy_app hR hs hi ht et ⟨pk_in (zr_go rk rt s i) 256 (by omega), pk_in s 256 (by omega), ?_⟩
    rw [nI_clamp (show zr_go rk rt s i < 2 ^ 31 by omega), nI_clamp (show s < 2 ^ 31 by omega), hdg _ hgo, hdg _ hs, nI_1]
    refine pk_le (d s) (d (zr_go rk rt s i) + 1) (fun z => nm_r (nI_1 x) (skip (fun _ => by omega))) (fun z => ?_)
    refine zy_app hR hs hi ht et ⟨pk_in (zr_go rk rt s i) 256 (by omega), pk_in s 256 (by omega), ?_⟩
    rw [nI_clamp (show zr_go rk rt s i < 2 ^ 31 by omega), hdg _ hgo, nI_1]
    refine nm_e (nm_r (nI_1 x) ?_)
    have q := zy_pset hg hpa hi hs hap z
    rw [ex] at q
    refine ih (x + 1) m 1 _ _ (by omega) (by omega) (fun y hy => ?_) (zy_sset hg hsn hs hap z) q (fun w => absurd w (by decide))
    by_cases e : y = s
    · rw [e, pk_us, if_pos rfl]
    · rw [pk_un e, if_neg e]
      exact hdg y hy
theorem zy_77 {post : Int32 → SY → Prop} {T : Nat → Prop} {u st : Nat} (H : zi_h R dj cl ed) (hU : U ≤ 8) (hc : cn ≤ 16) (hr : zi_ru cn R ra rt) (hu : u < U) (hef : ∀ s, s < 256 → ef s = zr_ef cl R s) (hok : ∀ i, i < 16 → (¬ ok i = 0 ↔ (i < cn ∧ ¬ zl_a U R u cl asg ra i = -1))) (hst : st < 2 ^ R) (eu : asg u = nI st)
    (hx : ((∀ q t, zp_run (zr_ap cn R cl (zl_a U R u cl asg ra) rk rt rp rn) (zr_go rk rt) q st t → ¬ T t) ∧ ∀ dg, post 2 (nI U, nI R, nI C, nI cn, -1, ed, asg, pm, rk, ra, rt, rp, rn, wr, wa, ef, dg, se, ok)) ∨ (∃ p, zp_min (zr_ap cn R cl (zl_a U R u cl asg ra) rk rt rp rn) (zr_go rk rt) T st p ∧ p.length ≤ 255 ∧ ∀ dg, post 1 (nI U, nI R, nI C, nI cn, nI p.length, ed, asg, pm, rk, ra, rt, rp, rn, zs_put nI wr p, zs_put (zl_a U R u cl asg ra) wa p, ef, dg, se, ok))) :
    ∀ (f pass m : Nat) (dg : Nat → Int32) (d : Nat → Nat), pass + f = 257 → f < m → (∀ x, x < 2 ^ R → dg x = nI (d x)) → zy_snd (zr_ap cn R cl (zl_a U R u cl asg ra) rk rt rp rn) (zr_go rk rt) T R d → zy_cmp (zr_ap cn R cl (zl_a U R u cl asg ra) rk rt rp rn) (zr_go rk rt) T R d pass → wY_analyse_77 post (nI u) (nI (2 ^ R)) (nI U) (nI R) (nI C) (nI cn) wl m (nI pass) ed asg pm rk ra rt rp rn wr wa ef dg se ok := by
  intro f
  have hR := H.1
  have h8 := zb_p8 hR
  have hA : ∀ s i, zr_ap cn R cl (zl_a U R u cl asg ra) rk rt rp rn s i → i < 16 := zr_hA hc
  have hg : ∀ s i, s < 2 ^ R → zr_ap cn R cl (zl_a U R u cl asg ra) rk rt rp rn s i → zr_go rk rt s i < 2 ^ R := zr_hg hR hr
  have F : ∀ (dg : Nat → Int32) (d : Nat → Nat), (∀ x, x < 2 ^ R → dg x = nI (d x)) → zy_snd (zr_ap cn R cl (zl_a U R u cl asg ra) rk rt rp rn) (zr_go rk rt) T R d → zy_cmp (zr_ap cn R cl (zl_a U R u cl asg ra) rk rt rp rn) (zr_go rk rt) T R d 257 → wY_analyse_194 post (nI u) (nI U) (nI R) (nI C) (nI cn) wl ed asg pm rk ra rt rp rn wr wa ef dg se ok := by
    intro dg d hdg hsn hcm
    refine zy_194 H hU hc hr hu hef hok hdg hsn hcm hst eu ?_
    rcases hx with ⟨a, b⟩ | ⟨p, a, b, c⟩
    · exact Or.inl ⟨a, b dg⟩
    · exact Or.inr ⟨p, a, b, c dg⟩
  induction f with
  | zero =>
    intro pass m dg d hp hm hdg hsn hcm
    obtain ⟨m, rfl⟩ : ∃ y, m = y + 1 := ⟨m - 1, by omega⟩
    have e : pass = 257 := by omega
    subst e
    exact pk_le 257 257 (fun _ => F dg d hdg hsn hcm) (fun z => absurd z (by omega))
  | succ f ih =>
    intro pass m dg d hp hm hdg hsn hcm
    obtain ⟨m, rfl⟩ : ∃ y, m = y + 1 := ⟨m - 1, by omega⟩
    refine pk_le 257 pass (fun z => absurd z (by omega)) (fun _ => ⟨16 * 2 ^ R + 1, ?_⟩)
    refine zy_91 (d0 := d) (T := T) H hU hc hr hu hef hok (fun ch dg' d' a1 a2 a3 a4 => ⟨fun z => ?_, fun z => ?_⟩) (16 * 2 ^ R) 0 _ 0 dg d (by omega) (by omega) hdg hsn (zy_p0 d) (fun _ _ _ => rfl)
    · exact F dg' d' a1 a2 (zy_pfix hA hg a3 (a4 z) (zy_cle hcm (by omega)) 257)
    · exact ih (pass + 1) m dg' d' (by omega) (by omega) a1 a2 (zy_pend hA hg a3 hcm)
theorem zy_33 {post : Int32 → SY → Prop} {u g st : Nat} (H : zi_h R dj cl ed) (hU : U ≤ 8) (hc : cn ≤ 16) (hr : zi_ru cn R ra rt) (hu : u < U) (hgR : g < R) (hef : ∀ s, s < 256 → ef s = zr_ef cl R s) (hok : ∀ i, i < 16 → (¬ ok i = 0 ↔ (i < cn ∧ ¬ zl_a U R u cl asg ra i = -1))) (hst : st < 2 ^ R) (eu : asg u = nI st)
    (hx : ((∀ q t, zp_run (zr_ap cn R cl (zl_a U R u cl asg ra) rk rt rp rn) (zr_go rk rt) q st t → ¬ bt (zr_ef cl R t) g = true) ∧ ∀ dg, post 2 (nI U, nI R, nI C, nI cn, -1, ed, asg, pm, rk, ra, rt, rp, rn, wr, wa, ef, dg, se, ok)) ∨ (∃ p, zp_min (zr_ap cn R cl (zl_a U R u cl asg ra) rk rt rp rn) (zr_go rk rt) (fun t => bt (zr_ef cl R t) g = true) st p ∧ p.length ≤ 255 ∧ ∀ dg, post 1 (nI U, nI R, nI C, nI cn, nI p.length, ed, asg, pm, rk, ra, rt, rp, rn, zs_put nI wr p, zs_put (zl_a U R u cl asg ra) wa p, ef, dg, se, ok))) :
    ∀ (f s m : Nat) (dg : Nat → Int32), s + f = 256 → f < m → (∀ x, x < s → dg x = nI (if bt (zr_ef cl R x) g = true then 0 else 100000)) → wY_analyse_33 post (nI u) (nI g) (nI (2 ^ R)) (nI U) (nI R) (nI C) (nI cn) wl m (nI s) ed asg pm rk ra rt rp rn wr wa ef dg se ok := by
  intro f
  have hR := H.1
  have h8 := zb_p8 hR
  induction f with
  | zero =>
    intro s m dg hs hm hdg
    obtain ⟨m, rfl⟩ : ∃ y, m = y + 1 := ⟨m - 1, by omega⟩
    have e : s = 256 := by omega
    subst e
    refine pk_le 256 256 (fun _ => ⟨258, ?_⟩) (fun z => absurd z (by omega))
    refine zy_77 (T := fun t => bt (zr_ef cl R t) g = true) H hU hc hr hu hef hok hst eu hx 257 0 258 dg (fun x => if bt (zr_ef cl R x) g = true then 0 else 100000) (by omega) (by omega) (fun x hxx => hdg x (by omega)) ?_ ?_
    · intro x hxx
      dsimp only
      by_cases hb : bt (zr_ef cl R x) g = true
      · rw [if_pos hb]
        exact ⟨by omega, fun _ => ⟨[], x, rfl, hb, rfl⟩⟩
      · rw [if_neg hb]
        exact ⟨by omega, fun z => absurd z (by omega)⟩
    · exact zy_c0 (fun x _ hb => if_pos hb)
  | succ f ih =>
    intro s m dg hs hm hdg
    obtain ⟨m, rfl⟩ : ∃ y, m = y + 1 := ⟨m - 1, by omega⟩
    have nx : ∀ b : Int32, b = nI (if bt (zr_ef cl R s) g = true then 0 else 100000) → wY_analyse_33 post (nI u) (nI g) (nI (2 ^ R)) (nI U) (nI R) (nI C) (nI cn) wl m (nI (s + 1)) ed asg pm rk ra rt rp rn wr wa ef (upd dg s b) se ok := by
      intro b hb
      refine ih (s + 1) m _ (by omega) (by omega) (fun x hxx => ?_)
      by_cases e : x = s
      · rw [e, pk_us]
        exact hb
      · rw [pk_un e]
        exact hdg x (by omega)
    refine pk_le 256 s (fun z => absurd z (by omega)) (fun _ => ⟨pk_in s 256 (by omega), ?_⟩)
    rw [nI_clamp (show s < 2 ^ 31 by omega), hef s (by omega)]
    refine br_c (fun z => ⟨pk_in s 256 (by omega), nm_e (nm_r (nI_1 s) (nx _ ?_))⟩) (fun z => ⟨pk_in s 256 (by omega), nm_e (nm_r (nI_1 s) (nx _ ?_))⟩)
    · rw [if_neg (by rw [(zb_rs _ (by omega)).mp z]; decide)]
      rfl
    · rw [if_pos (zb_nf (fun w => z ((zb_rs _ (by omega)).mpr w)))]
      rfl
theorem zy_ana {post : Int32 → SY → Prop} {u g st : Nat} (H : zi_h R dj cl ed) (hU : U ≤ 8) (hc : cn ≤ 16) (hr : zi_ru cn R ra rt) (hu : u < U) (hgR : g < R) (hst : st < 2 ^ R) (eu : asg u = nI st)
    (hx : ((∀ q t, zp_run (zr_ap cn R cl (zl_a U R u cl asg ra) rk rt rp rn) (zr_go rk rt) q st t → ¬ bt (zr_ef cl R t) g = true) ∧ ∀ ef dg ok, post 2 (nI U, nI R, nI C, nI cn, -1, ed, asg, pm, rk, ra, rt, rp, rn, wr, wa, ef, dg, se, ok)) ∨ (∃ p, zp_min (zr_ap cn R cl (zl_a U R u cl asg ra) rk rt rp rn) (zr_go rk rt) (fun t => bt (zr_ef cl R t) g = true) st p ∧ p.length ≤ 255 ∧ ∀ ef dg ok, post 1 (nI U, nI R, nI C, nI cn, nI p.length, ed, asg, pm, rk, ra, rt, rp, rn, zs_put nI wr p, zs_put (zl_a U R u cl asg ra) wa p, ef, dg, se, ok))) : wpY_analyse post (nI U, nI R, nI C, nI cn, wl, ed, asg, pm, rk, ra, rt, rp, rn, wr, wa, ef, dg, se, ok) (nI u) (nI g) := by
  have hR := H.1
  unfold wpY_analyse
  refine zy_userY hU hu (br_t rfl (zy_roleY hR hgR (br_t rfl (zy_prep H hU hc hr hu (fun ef ok hef hok => ?_)))))
  refine nm_r (zy_full R (by omega)) ⟨257, ?_⟩
  refine zy_33 H hU hc hr hu hgR hef hok hst eu ?_ 256 0 257 dg (by omega) (by omega) (fun x hxx => absurd hxx (Nat.not_lt_zero x))
  rcases hx with ⟨a, b⟩ | ⟨p, a, b, c⟩
  · exact Or.inl ⟨a, fun dg => b ef dg ok⟩
  · exact Or.inr ⟨p, a, b, fun dg => c ef dg ok⟩
end
end
section
section
variable {U R C cn : Nat} {wl : Int32} {ed asg pm rk ra rt rp rn wr wa ef dg se ok : Nat → Int32} {dj cl : Nat → Int32}
theorem zy_176 {post : Int32 → SY → Prop} (hef : ∀ s, s < 256 → ef s = zr_ef cl R s) (h : ∀ x, (∀ b, bt x b = true ↔ ∃ s, s < 256 ∧ ¬ se s = 0 ∧ bt (zr_ef cl R s) b = true) → post x (nI U, nI R, nI C, nI cn, wl, ed, asg, pm, rk, ra, rt, rp, rn, wr, wa, ef, dg, se, ok)) :
    ∀ (f s m : Nat) (x : Int32), s + f = 256 → f < m → (∀ b, bt x b = true ↔ ∃ y, y < s ∧ ¬ se y = 0 ∧ bt (zr_ef cl R y) b = true) → wY_reachableRoles_176 post (nI U) (nI R) (nI C) (nI cn) wl ed asg pm rk ra rt rp rn wr wa ef dg se ok m x (nI s) := by
  intro f
  induction f with
  | zero =>
    intro s m x hs hm hx
    obtain ⟨m, rfl⟩ : ∃ y, m = y + 1 := ⟨m - 1, by omega⟩
    have e : s = 256 := by omega
    subst e
    exact pk_le 256 256 (fun _ => h x hx) (fun z => absurd z (by omega))
  | succ f ih =>
    intro s m x hs hm hx
    obtain ⟨m, rfl⟩ : ∃ y, m = y + 1 := ⟨m - 1, by omega⟩
    refine pk_le 256 s (fun z => absurd z (by omega)) (fun _ => ⟨pk_in s 256 (by omega), ?_⟩)
    rw [nI_clamp (show s < 2 ^ 31 by omega), hef s (by omega)]
    refine br_c (fun z => nm_r (nI_1 s) (ih (s + 1) m x (by omega) (by omega) (fun b => ?_))) (fun z => ⟨pk_in s 256 (by omega), nm_e (nm_r (nI_1 s) (ih (s + 1) m _ (by omega) (by omega) (fun b => ?_)))⟩)
    · rw [hx b]
      constructor
      · intro ⟨y, h1, h2⟩
        exact ⟨y, by omega, h2⟩
      · intro ⟨y, h1, h2, h3⟩
        by_cases e : y = s
        · rw [e] at h2
          exact absurd z h2
        · exact ⟨y, by omega, h2, h3⟩
    · rw [b_or, Bool.or_eq_true, hx b]
      constructor
      · rintro (⟨y, h1, h2⟩ | h2)
        · exact ⟨y, by omega, h2⟩
        · exact ⟨s, by omega, z, h2⟩
      · intro ⟨y, h1, h2, h3⟩
        by_cases e : y = s
        · rw [e] at h3
          exact Or.inr h3
        · exact Or.inl ⟨y, by omega, h2, h3⟩
theorem zy_75 {post : Int32 → SY → Prop} {J : Int32 → (Nat → Int32) → (Nat → Int32) → (Nat → Int32) → (Nat → Int32) → (Nat → Int32) → (Nat → Int32) → (Nat → Int32) → (Nat → Int32) → (Nat → Int32) → (Nat → Int32) → (Nat → Int32) → (Nat → Int32) → (Nat → Int32) → (Nat → Int32) → Prop} {u st pass : Nat} {s0 : Nat → Int32} (H : zi_h R dj cl ed) (hc : cn ≤ 16) (hr : zi_ru cn R ra rt) (hef : ∀ s, s < 256 → ef s = zr_ef cl R s) (hok : ∀ i, i < 16 → (¬ ok i = 0 ↔ (i < cn ∧ ¬ zl_a U R u cl asg ra i = -1)))
    (hend : ∀ (ch : Int32) (se : Nat → Int32), zy_rs (zr_ap cn R cl (zl_a U R u cl asg ra) rk rt rp rn) (zr_go rk rt) st se → zy_rp (zr_ap cn R cl (zl_a U R u cl asg ra) rk rt rp rn) (zr_go rk rt) R s0 se (16 * 2 ^ R) → (ch = 0 → se = s0) → (ch = 0 → ∃ n, wY_reachableRoles_176 post (nI U) (nI R) (nI C) (nI cn) wl ed asg pm rk ra rt rp rn wr wa ef dg se ok n 0 0) ∧ (¬ ch = 0 → J (nI (pass + 1)) ed asg pm rk ra rt rp rn wr wa ef dg se ok)) :
    ∀ (f x m : Nat) (ch : Int32) (se : Nat → Int32), x + f = 16 * 2 ^ R → f < m → zy_rs (zr_ap cn R cl (zl_a U R u cl asg ra) rk rt rp rn) (zr_go rk rt) st se → zy_rp (zr_ap cn R cl (zl_a U R u cl asg ra) rk rt rp rn) (zr_go rk rt) R s0 se x → (ch = 0 → se = s0) → wY_reachableRoles_75 post J (nI (2 ^ R)) (nI pass) (nI U) (nI R) (nI C) (nI cn) wl m ch (nI x) ed asg pm rk ra rt rp rn wr wa ef dg se ok := by
  intro f
  have hR := H.1
  have h8 := zb_p8 hR
  have hg : ∀ s i, s < 2 ^ R → zr_ap cn R cl (zl_a U R u cl asg ra) rk rt rp rn s i → zr_go rk rt s i < 2 ^ R := zr_hg hR hr
  induction f with
  | zero =>
    intro x m ch se hx hm hrs hrp hch
    obtain ⟨m, rfl⟩ : ∃ y, m = y + 1 := ⟨m - 1, by omega⟩
    have e : x = 16 * 2 ^ R := by omega
    rw [e] at hrp
    obtain ⟨e0, e1⟩ := hend ch se hrs hrp hch
    exact pk_le (2 ^ R * 16) x (fun _ => br_c e0 (fun z => nm_r (nI_1 pass) (e1 z))) (fun z => absurd z (by omega)) (hx := zy_m16 _)
  | succ f ih =>
    intro x m ch se hx hm hrs hrp hch
    obtain ⟨m, rfl⟩ : ∃ y, m = y + 1 := ⟨m - 1, by omega⟩
    have ex : 16 * (x / 16) + x % 16 = x := Nat.div_add_mod x 16
    have hs : x / 16 < 2 ^ R := by omega
    have hi : x % 16 < 16 := Nat.mod_lt _ (by omega)
    refine pk_le (2 ^ R * 16) x (fun z => absurd z (by omega)) (fun _ => ?_) (hx := zy_m16 _)
    rw [zy_sh16 (by omega), zy_an16 (by omega)]
    refine nm_e (nm_e ?_)
    rw [← ex] at hrp
    generalize x / 16 = s at hs hrp ex
    generalize x % 16 = i at hi hrp ex
    have skip : (¬ se s = 0 → zr_ap cn R cl (zl_a U R u cl asg ra) rk rt rp rn s i → ¬ se (zr_go rk rt s i) = 0) → wY_reachableRoles_75 post J (nI (2 ^ R)) (nI pass) (nI U) (nI R) (nI C) (nI cn) wl m ch (nI (x + 1)) ed asg pm rk ra rt rp rn wr wa ef dg se ok := by
      intro hn
      have q := zy_rskip hrp hi hn
      rw [ex] at q
      exact ih (x + 1) m ch se (by omega) (by omega) hrs q hch
    refine ⟨pk_in s 256 (by omega), ?_⟩
    rw [nI_clamp (show s < 2 ^ 31 by omega)]
    refine br_c (fun z => nm_r (nI_1 x) (skip (fun y => absurd z y))) (fun z => ?_)
    refine zy_apl hR hc hr hef hok hs hi (fun hap => br_f (by decide) ?_) (fun hn => br_t rfl (nm_r (nI_1 x) (skip (fun _ y => absurd y hn))))
    obtain ⟨_, t, ht, et⟩ := hr i hap.1
    have hgo := hg _ _ hs hap
    refine zy_app hR hs hi ht et ⟨pk_in (zr_go rk rt s i) 256 (by omega), ?_⟩
    rw [nI_clamp (show zr_go rk rt s i < 2 ^ 31 by omega)]
    refine br_c (fun w => ?_) (fun w => nm_r (nI_1 x) (skip (fun _ _ => w)))
    refine zy_app hR hs hi ht et ⟨pk_in (zr_go rk rt s i) 256 (by omega), ?_⟩
    rw [nI_clamp (show zr_go rk rt s i < 2 ^ 31 by omega), zy_b1]
    refine nm_e (nm_r (nI_1 x) ?_)
    have q := zy_rset hrp hi
    rw [ex] at q
    exact ih (x + 1) m 1 _ (by omega) (by omega) (zy_rsS hrs (by omega) z hap) q (fun w => absurd w (by decide))
theorem zy_62 {post : Int32 → SY → Prop} {u st : Nat} (H : zi_h R dj cl ed) (hc : cn ≤ 16) (hr : zi_ru cn R ra rt) (hef : ∀ s, s < 256 → ef s = zr_ef cl R s) (hok : ∀ i, i < 16 → (¬ ok i = 0 ↔ (i < cn ∧ ¬ zl_a U R u cl asg ra i = -1))) (hst : st < 2 ^ R)
    (h : ∀ (se : Nat → Int32) (x : Int32), zy_rs (zr_ap cn R cl (zl_a U R u cl asg ra) rk rt rp rn) (zr_go rk rt) st se → zy_rc (zr_ap cn R cl (zl_a U R u cl asg ra) rk rt rp rn) (zr_go rk rt) st se 257 → (∀ b, bt x b = true ↔ ∃ s, s < 256 ∧ ¬ se s = 0 ∧ bt (zr_ef cl R s) b = true) → post x (nI U, nI R, nI C, nI cn, wl, ed, asg, pm, rk, ra, rt, rp, rn, wr, wa, ef, dg, se, ok)) :
    ∀ (f pass m : Nat) (se : Nat → Int32), pass + f = 257 → f < m → zy_rs (zr_ap cn R cl (zl_a U R u cl asg ra) rk rt rp rn) (zr_go rk rt) st se → zy_rc (zr_ap cn R cl (zl_a U R u cl asg ra) rk rt rp rn) (zr_go rk rt) st se pass → wY_reachableRoles_62 post (nI (2 ^ R)) (nI U) (nI R) (nI C) (nI cn) wl m (nI pass) ed asg pm rk ra rt rp rn wr wa ef dg se ok := by
  intro f
  have hR := H.1
  have h8 := zb_p8 hR
  have hA : ∀ s i, zr_ap cn R cl (zl_a U R u cl asg ra) rk rt rp rn s i → i < 16 := zr_hA hc
  have hg : ∀ s i, s < 2 ^ R → zr_ap cn R cl (zl_a U R u cl asg ra) rk rt rp rn s i → zr_go rk rt s i < 2 ^ R := zr_hg hR hr
  have F : ∀ se : Nat → Int32, zy_rs (zr_ap cn R cl (zl_a U R u cl asg ra) rk rt rp rn) (zr_go rk rt) st se → zy_rc (zr_ap cn R cl (zl_a U R u cl asg ra) rk rt rp rn) (zr_go rk rt) st se 257 → ∃ n, wY_reachableRoles_176 post (nI U) (nI R) (nI C) (nI cn) wl ed asg pm rk ra rt rp rn wr wa ef dg se ok n 0 0 := by
    intro se a b
    exact ⟨257, zy_176 hef (fun x hx => h se x a b hx) 256 0 257 0 (by omega) (by omega) (fun b => by rw [b_0]; exact ⟨fun z => absurd z (by decide), fun ⟨y, hy, _⟩ => absurd hy (Nat.not_lt_zero y)⟩)⟩
  induction f with
  | zero =>
    intro pass m se hp hm hrs hrc
    obtain ⟨m, rfl⟩ : ∃ y, m = y + 1 := ⟨m - 1, by omega⟩
    have e : pass = 257 := by omega
    subst e
    exact pk_le 257 257 (fun _ => F se hrs hrc) (fun z => absurd z (by omega))
  | succ f ih =>
    intro pass m se hp hm hrs hrc
    obtain ⟨m, rfl⟩ : ∃ y, m = y + 1 := ⟨m - 1, by omega⟩
    refine pk_le 257 pass (fun z => absurd z (by omega)) (fun _ => ⟨16 * 2 ^ R + 1, ?_⟩)
    refine zy_75 (s0 := se) (st := st) (u := u) H hc hr hef hok (fun ch se' a1 a2 a3 => ⟨fun z => ?_, fun z => ?_⟩) (16 * 2 ^ R) 0 _ 0 se (by omega) (by omega) hrs (zy_r0 se) (fun _ => rfl)
    · exact F se' a1 (zy_rfix hA hg hst a2 (a3 z) (fun q t hq hl => hrc q t hq (by omega)))
    · exact ih (pass + 1) m se' (by omega) (by omega) a1 (zy_rend hA hg hst a2 hrc)
theorem zy_rch {post : Int32 → SY → Prop} {u st : Nat} (H : zi_h R dj cl ed) (hU : U ≤ 8) (hc : cn ≤ 16) (hr : zi_ru cn R ra rt) (hu : u < U) (hst : st < 2 ^ R) (eu : asg u = nI st)
    (h : ∀ (ef se ok : Nat → Int32) (x : Int32), zy_rs (zr_ap cn R cl (zl_a U R u cl asg ra) rk rt rp rn) (zr_go rk rt) st se → zy_rc (zr_ap cn R cl (zl_a U R u cl asg ra) rk rt rp rn) (zr_go rk rt) st se 257 → (∀ b, bt x b = true ↔ ∃ s, s < 256 ∧ ¬ se s = 0 ∧ bt (zr_ef cl R s) b = true) → post x (nI U, nI R, nI C, nI cn, wl, ed, asg, pm, rk, ra, rt, rp, rn, wr, wa, ef, dg, se, ok)) : wpY_reachableRoles post (nI U, nI R, nI C, nI cn, wl, ed, asg, pm, rk, ra, rt, rp, rn, wr, wa, ef, dg, se, ok) (nI u) := by
  have hR := H.1
  have h8 := zb_p8 hR
  unfold wpY_reachableRoles
  refine zy_userY hU hu (br_t rfl (zy_prep H hU hc hr hu (fun ef ok hef hok => ?_)))
  refine nm_r (zy_full R (by omega)) ⟨257, ?_⟩
  have L : ∀ (f s m : Nat) (se : Nat → Int32), s + f = 256 → f < m → (∀ x, x < s → se x = 0) → wY_reachableRoles_24 post (nI u) (nI (2 ^ R)) (nI U) (nI R) (nI C) (nI cn) wl m (nI s) ed asg pm rk ra rt rp rn wr wa ef dg se ok := by
    intro f
    induction f with
    | zero =>
      intro s m se hs hm hse
      obtain ⟨m, rfl⟩ : ∃ y, m = y + 1 := ⟨m - 1, by omega⟩
      have e : s = 256 := by omega
      subst e
      refine pk_le 256 256 (fun _ => ⟨pk_in u 8 (by omega), ?_⟩) (fun z => absurd z (by omega))
      rw [nI_clamp (show u < 2 ^ 31 by omega), eu, zb_255 (show st < 256 by omega), nI_clamp (show st < 2 ^ 31 by omega), zy_b1]
      refine ⟨pk_in st 256 (by omega), nm_e ⟨258, ?_⟩⟩
      refine zy_62 (u := u) (st := st) H hc hr hef hok hst (fun se x a b c => h ef se ok x a b c) 257 0 258 _ (by omega) (by omega) ?_ ?_
      · intro x hx hz
        by_cases e : x = st
        · exact ⟨[], e.symm⟩
        · rw [pk_un e] at hz
          exact absurd (hse x hx) hz
      · intro q t hq hl
        have e : q = [] := List.eq_nil_of_length_eq_zero (by omega)
        rw [e] at hq
        have e2 : st = t := hq
        rw [← e2, pk_us]
        decide
    | succ f ih =>
      intro s m se hs hm hse
      obtain ⟨m, rfl⟩ : ∃ y, m = y + 1 := ⟨m - 1, by omega⟩
      refine pk_le 256 s (fun z => absurd z (by omega)) (fun _ => ⟨pk_in s 256 (by omega), ?_⟩)
      rw [nI_clamp (show s < 2 ^ 31 by omega), zy_b0]
      refine nm_e (nm_r (nI_1 s) (ih (s + 1) m _ (by omega) (by omega) (fun x hx => ?_)))
      by_cases e : x = s
      · rw [e, pk_us]
      · rw [pk_un e]
        exact hse x (by omega)
  exact L 256 0 257 se (by omega) (by omega) (fun x hx => absurd hx (Nat.not_lt_zero x))
end
end
section
def zi_k (U R C cn : Nat) (wl : Int32) (dj cl asg ra rt ed : Nat → Int32) : Prop :=
  (1 ≤ U ∧ U ≤ 8) ∧ (2 ≤ R ∧ R ≤ 8) ∧ C ≤ 16 ∧ cn ≤ C ∧ (wl = -1 ∨ ∃ L, L ≤ 255 ∧ wl = nI L) ∧ zi_h R dj cl ed ∧ (∀ v, v < U → ∀ j, R ≤ j → bt (asg v) j = false) ∧ zi_ru cn R ra rt
def i_Rel (k : Nat) (u : SX) (v : SY) : Prop :=
  ∃ (U R C cn : Nat) (wl fc : Int32) (dj cl pm asg rk ra rt rp rn wr wa la ds pv ar fs ed ef dg se ok : Nat → Int32), u = (nI U, nI R, nI C, nI cn, wl, fc, dj, cl, pm, asg, rk, ra, rt, rp, rn, wr, wa, la, ds, pv, ar, fs) ∧ v = (nI U, nI R, nI C, nI cn, wl, ed, asg, pm, rk, ra, rt, rp, rn, wr, wa, ef, dg, se, ok) ∧ zi_k U R C cn wl dj cl asg ra rt ed
theorem zi_mk {U R C cn : Nat} {wl fc : Int32} {dj cl pm asg rk ra rt rp rn wr wa la ds pv ar fs ed ef dg se ok : Nat → Int32} (k : Nat) (K : zi_k U R C cn wl dj cl asg ra rt ed) : i_Rel k (nI U, nI R, nI C, nI cn, wl, fc, dj, cl, pm, asg, rk, ra, rt, rp, rn, wr, wa, la, ds, pv, ar, fs) (nI U, nI R, nI C, nI cn, wl, ed, asg, pm, rk, ra, rt, rp, rn, wr, wa, ef, dg, se, ok) := ⟨U, R, C, cn, wl, fc, dj, cl, pm, asg, rk, ra, rt, rp, rn, wr, wa, la, ds, pv, ar, fs, ed, ef, dg, se, ok, rfl, rfl, K⟩
theorem i_up {k : Nat} {u : SX} {v : SY} (h : i_Rel k u v) : i_Rel (k + 5) u v := h
theorem zv_cl (x : Int32) (lo hi : Nat) (h : lo ≤ hi) (hh : hi < 256) : ∃ n, lo ≤ n ∧ n ≤ hi ∧ ∀ A : Int32 → Prop, A (nI n) → ((nI lo ≤ x → ((x ≤ nI hi → A x) ∧ (¬ x ≤ nI hi → A (nI hi)))) ∧ (¬ nI lo ≤ x → A (nI lo))) := by
  by_cases h1 : nI lo ≤ x
  · have h0 : ¬ x < 0 := by
      intro z
      have a := Int32.lt_iff_toInt_lt.mp z
      have b := Int32.le_iff_toInt_le.mp h1
      rw [nI_toInt (by omega)] at b
      rw [show (0 : Int32).toInt = 0 from by decide] at a
      omega
    obtain ⟨j, hj, rfl⟩ := nI_of h0
    by_cases h2 : nI j ≤ nI hi
    · exact ⟨j, (nI_leI (by omega) hj).mp h1, (nI_leI hj (by omega)).mp h2, fun A a => br_t h1 (br_t h2 a)⟩
    · exact ⟨hi, h, Nat.le_refl _, fun A a => br_t h1 (br_f h2 a)⟩
  · exact ⟨lo, Nat.le_refl _, h, fun A a => br_f h1 a⟩
theorem zx_clampI {post : Int32 → Prop} {x : Int32} {n : Nat} (lo hi : Nat) (h : ∀ A : Int32 → Prop, A (nI n) → ((nI lo ≤ x → ((x ≤ nI hi → A x) ∧ (¬ x ≤ nI hi → A (nI hi)))) ∧ (¬ nI lo ≤ x → A (nI lo)))) (hp : post (nI n)) : wpX_clamp post  x (nI lo) (nI hi) := h post hp
theorem zi_z0 (R : Nat) : zi_dj R (fun _ => 0) := by
  intro a _ b z
  rw [b_0] at z
  exact absurd z (by decide)
theorem zi_z1 : zi_ed (fun _ => 0) (fun _ => 0) := by
  intro k _
  rw [b_0]
  exact ⟨fun z => absurd rfl z, fun z => absurd z (by decide)⟩
theorem i_vc0 (k0 : Int32) (k1 : Int32) (k2 : Int32) : wpX_init (fun u => wpY_init (fun v => i_Rel 3 u v) k0 k1 k2) k0 k1 k2 := by
  obtain ⟨U, u1, u2, hU⟩ := zv_cl k0 1 8 (by omega) (by omega)
  obtain ⟨R, r1, r2, hR⟩ := zv_cl k1 2 8 (by omega) (by omega)
  obtain ⟨C, c1, c2, hC⟩ := zv_cl k2 1 16 (by omega) (by omega)
  unfold wpX_init
  refine zx_clampI 1 8 hU (zx_clampI 2 8 hR (zx_clampI 1 16 hC ?_))
  refine zx_reb (cn := 0) r2 (zi_z0 R) (fun cl hcl => ?_)
  refine hU (fun z => wY_init_148 _ k1 k2 z _ _ _ _ _ _ _ _ _ _ _ _ _ _ _ _ _ _ _) ?_
  refine hR (fun z => wY_init_173 _ k2 z _ _ _ _ _ _ _ _ _ _ _ _ _ _ _ _ _ _ _) ?_
  refine hC (fun z => i_Rel 3 _ (_, _, z, _)) ?_
  refine zi_mk (cn := 0) 3 ⟨⟨u1, u2⟩, ⟨r1, r2⟩, c2, Nat.zero_le _, Or.inl rfl, ⟨r2, zi_z0 R, zi_z1, hcl⟩, ?_, ?_⟩
  · intro v _ j _
    exact b_0 j
  · intro i hi
    exact absurd hi (Nat.not_lt_zero i)
theorem zi_ed2 {dj ed : Nat → Int32} (h : zi_ed dj ed) {s j : Nat} (hs : s < 8) (hj : j < 8) : ¬ ed (8 * s + j) = 0 ↔ bt (dj s) j = true := by
  have e := h (8 * s + j) (by omega)
  rw [show (8 * s + j) / 8 = s by omega, show (8 * s + j) % 8 = j by omega] at e
  exact e
theorem zi_ix (s j : Nat) : nI s * 8 + nI j = nI (8 * s + j) := by
  rw [show nI s * 8 = nI (s * 8) from (Int32.ofNat_mul s 8).symm, nI_add, Nat.mul_comm]
theorem zi_be {x : Bool} {P : Prop} (h : ¬ P ↔ x = true) : P ↔ x = false := by
  cases x
  · exact ⟨fun _ => rfl, fun _ => Classical.byContradiction (fun z => absurd (h.mp z) (by decide))⟩
  · exact ⟨fun z => absurd z (h.mpr rfl), fun z => absurd z (by decide)⟩
theorem i_vc_addInheritance {k : Nat} {u : SX} {v : SY} (I : i_Rel k u v) (hk : k + 5 ≤ 2563) (v1 : Int32) (v2 : Int32) : wpX_addInheritance (fun r u' => wpY_addInheritance (fun r' v' => r' = r ∧ i_Rel (k + 5) u' v') v v1 v2) u v1 v2 := by
  obtain ⟨U, R, C, cn, wl, fc, dj, cl, pm, asg, rk, ra, rt, rp, rn, wr, wa, la, ds, pv, ar, fs, ed, ef, dg, se, ok, rfl, rfl, K⟩ := I
  obtain ⟨hU, hR, hC, hcn, hwl, H, ha, hr⟩ := id K
  have hR8 := hR.2
  unfold wpX_addInheritance
  rcases zi_io v1 (n := R) (by omega) with h1 | ⟨s, hs, rfl⟩
  · refine zx_roleN h1 (br_t rfl ?_)
    unfold wpY_addInheritance
    exact zy_roleN h1 (br_f (by decide) ⟨rfl, zi_mk _ K⟩)
  · refine zx_roleY hR8 hs (br_f (by decide) ?_)
    rcases zi_io v2 (n := R) (by omega) with h2 | ⟨j, hj, rfl⟩
    · refine zx_roleN h2 (br_t rfl ?_)
      unfold wpY_addInheritance
      exact zy_roleY hR8 hs (br_t rfl (zy_roleN h2 (br_f (by decide) ⟨rfl, zi_mk _ K⟩)))
    · refine zx_roleY hR8 hj (br_f (by decide) ?_)
      have hY : ∀ post : Int32 → SY → Prop, ((s = j → post (-4) (nI U, nI R, nI C, nI cn, wl, ed, asg, pm, rk, ra, rt, rp, rn, wr, wa, ef, dg, se, ok)) ∧ (s ≠ j → (bt (dj s) j = true → post (-3) (nI U, nI R, nI C, nI cn, wl, ed, asg, pm, rk, ra, rt, rp, rn, wr, wa, ef, dg, se, ok)) ∧ (bt (dj s) j = false → (bt (cl j) s = true → post (-4) (nI U, nI R, nI C, nI cn, wl, ed, asg, pm, rk, ra, rt, rp, rn, wr, wa, ef, dg, se, ok)) ∧ (bt (cl j) s = false → post 0 (nI U, nI R, nI C, nI cn, wl, upd ed (8 * s + j) 1, asg, pm, rk, ra, rt, rp, rn, wr, wa, ef, dg, se, ok))))) → wpY_addInheritance post (nI U, nI R, nI C, nI cn, wl, ed, asg, pm, rk, ra, rt, rp, rn, wr, wa, ef, dg, se, ok) (nI s) (nI j) := by
        intro post hp
        unfold wpY_addInheritance
        refine zy_roleY hR8 hs (br_t rfl (zy_roleY hR8 hj (br_t rfl (pk_eq s j (fun e => hp.1 e) (fun e => ?_)))))
        have hp2 := hp.2 e
        rw [zi_ix, nI_clamp (by omega)]
        refine ⟨pk_in (8 * s + j) 64 (by omega), br_c (fun z => zy_clo H hj ?_) (fun z => hp2.1 ((zi_ed2 H.2.2.1 (by omega) (by omega)).mp z))⟩
        have hp3 := hp2.2 ((zi_be (zi_ed2 H.2.2.1 (by omega) (by omega))).mp z)
        refine br_c (fun y => ⟨pk_in (8 * s + j) 64 (by omega), nm_r (by rw [zy_b1]) (hp3.2 ((zb_rs _ (by omega)).mp y))⟩) (fun y => hp3.1 (zb_nf (fun w => y ((zb_rs _ (by omega)).mpr w))))
      refine pk_eq s j (fun e => ?_) (fun e => ?_)
      · exact hY _ ⟨fun _ => ⟨rfl, zi_mk _ K⟩, fun z => absurd e z⟩
      · refine ⟨pk_in s 8 (by omega), ?_⟩
        rw [nI_clamp (show s < 2 ^ 31 by omega), nI_clamp (show j < 2 ^ 31 by omega)]
        refine zx_con (by omega) (zb_br _ (fun hb => ⟨pk_in j 8 (by omega), zx_con (by omega) (zb_br _ (fun hb2 => ⟨pk_in s 8 (by omega), pk_in s 8 (by omega), nm_e ?_⟩) (fun hb2 => ?_))⟩) (fun hb => ?_))
        · refine zx_reb hR8 (zi_djA H.2.1 hR8 hs hj) (fun cl' hcl => ?_)
          refine hY _ ⟨fun z => absurd z e, fun _ => ⟨fun z => ?_, fun _ => ⟨fun z => ?_, fun _ => ⟨rfl, zi_mk _ ⟨hU, hR, hC, hcn, hwl, ⟨hR8, zi_djA H.2.1 hR8 hs hj, zi_edA H.2.2.1 (by omega) (by omega), hcl⟩, ha, hr⟩⟩⟩⟩⟩
          · rw [hb] at z
            exact absurd z (by decide)
          · rw [hb2] at z
            exact absurd z (by decide)
        · refine hY _ ⟨fun z => absurd z e, fun _ => ⟨fun z => ?_, fun _ => ⟨fun _ => ⟨rfl, zi_mk _ K⟩, fun z => ?_⟩⟩⟩
          · rw [hb] at z
            exact absurd z (by decide)
          · rw [hb2] at z
            exact absurd z (by decide)
        · refine hY _ ⟨fun z => absurd z e, fun _ => ⟨fun _ => ⟨rfl, zi_mk _ K⟩, fun z => ?_⟩⟩
          rw [hb] at z
          exact absurd z (by decide)
theorem i_vc_removeInheritance {k : Nat} {u : SX} {v : SY} (I : i_Rel k u v) (hk : k + 5 ≤ 2563) (v1 : Int32) (v2 : Int32) : wpX_removeInheritance (fun r u' => wpY_removeInheritance (fun r' v' => r' = r ∧ i_Rel (k + 5) u' v') v v1 v2) u v1 v2 := by
  obtain ⟨U, R, C, cn, wl, fc, dj, cl, pm, asg, rk, ra, rt, rp, rn, wr, wa, la, ds, pv, ar, fs, ed, ef, dg, se, ok, rfl, rfl, K⟩ := I
  obtain ⟨hU, hR, hC, hcn, hwl, H, ha, hr⟩ := id K
  have hR8 := hR.2
  unfold wpX_removeInheritance
  rcases zi_io v1 (n := R) (by omega) with h1 | ⟨s, hs, rfl⟩
  · refine zx_roleN h1 (br_t rfl ?_)
    unfold wpY_removeInheritance
    exact zy_roleN h1 (br_f (by decide) ⟨rfl, zi_mk _ K⟩)
  · refine zx_roleY hR8 hs (br_f (by decide) ?_)
    rcases zi_io v2 (n := R) (by omega) with h2 | ⟨j, hj, rfl⟩
    · refine zx_roleN h2 (br_t rfl ?_)
      unfold wpY_removeInheritance
      exact zy_roleY hR8 hs (br_t rfl (zy_roleN h2 (br_f (by decide) ⟨rfl, zi_mk _ K⟩)))
    · refine zx_roleY hR8 hj (br_f (by decide) ?_)
      have hY : ∀ post : Int32 → SY → Prop, ((bt (dj s) j = false → post (-3) (nI U, nI R, nI C, nI cn, wl, ed, asg, pm, rk, ra, rt, rp, rn, wr, wa, ef, dg, se, ok)) ∧ (bt (dj s) j = true → post 0 (nI U, nI R, nI C, nI cn, wl, upd ed (8 * s + j) 0, asg, pm, rk, ra, rt, rp, rn, wr, wa, ef, dg, se, ok))) → wpY_removeInheritance post (nI U, nI R, nI C, nI cn, wl, ed, asg, pm, rk, ra, rt, rp, rn, wr, wa, ef, dg, se, ok) (nI s) (nI j) := by
        intro post hp
        unfold wpY_removeInheritance
        refine zy_roleY hR8 hs (br_t rfl (zy_roleY hR8 hj (br_t rfl ?_)))
        rw [zi_ix, nI_clamp (by omega)]
        exact ⟨pk_in (8 * s + j) 64 (by omega), br_c (fun z => hp.1 ((zi_be (zi_ed2 H.2.2.1 (by omega) (by omega))).mp z)) (fun z => ⟨pk_in (8 * s + j) 64 (by omega), nm_r (by rw [zy_b0]) (hp.2 ((zi_ed2 H.2.2.1 (by omega) (by omega)).mp z))⟩)⟩
      refine ⟨pk_in s 8 (by omega), ?_⟩
      rw [nI_clamp (show s < 2 ^ 31 by omega)]
      refine zx_con (by omega) (zb_br _ (fun hb => ?_) (fun hb => ⟨pk_in s 8 (by omega), pk_in s 8 (by omega), nm_e ?_⟩))
      · refine hY _ ⟨fun _ => ⟨rfl, zi_mk _ K⟩, fun z => ?_⟩
        rw [hb] at z
        exact absurd z (by decide)
      · refine zx_reb hR8 (zi_djR H.2.1 hR8 hj) (fun cl' hcl => ?_)
        refine hY _ ⟨fun z => ?_, fun _ => ⟨rfl, zi_mk _ ⟨hU, hR, hC, hcn, hwl, ⟨hR8, zi_djR H.2.1 hR8 hj, zi_edR H.2.2.1 (by omega) (by omega), hcl⟩, ha, hr⟩⟩⟩
        rw [hb] at z
        exact absurd z (by decide)
theorem zi_16 {x : Int32} (h : nI 16 ≤ x) : ¬ x ≤ 15 := fun z => absurd (Int32.le_trans h z) (by decide)
theorem zi_15 {p : Nat} (h : p < 16) : nI p ≤ 15 := nI_le (b := 15) (by omega) (by decide)
theorem i_vc_grantPermission {k : Nat} {u : SX} {v : SY} (I : i_Rel k u v) (hk : k + 5 ≤ 2563) (v1 : Int32) (v2 : Int32) (v3 : Int32) : wpX_grantPermission (fun r u' => wpY_grantPermission (fun r' v' => r' = r ∧ i_Rel (k + 5) u' v') v v1 v2 (lw_bz v3)) u v1 v2 (lw_bz v3) := by
  obtain ⟨U, R, C, cn, wl, fc, dj, cl, pm, asg, rk, ra, rt, rp, rn, wr, wa, la, ds, pv, ar, fs, ed, ef, dg, se, ok, rfl, rfl, K⟩ := I
  obtain ⟨hU, hR, hC, hcn, hwl, H, ha, hr⟩ := id K
  have hR8 := hR.2
  unfold wpX_grantPermission
  rcases zi_io v1 (n := R) (by omega) with h1 | ⟨s, hs, rfl⟩
  · refine zx_roleN h1 (br_t rfl ?_)
    unfold wpY_grantPermission
    exact zy_roleN h1 (br_f (by decide) ⟨rfl, zi_mk _ K⟩)
  · refine zx_roleY hR8 hs (br_f (by decide) ?_)
    rcases zi_io v2 (n := 16) (by omega) with h2 | ⟨p, hp, rfl⟩
    · refine zi_no (n := 16) h2 (br_t rfl ?_)
      unfold wpY_grantPermission
      exact zy_roleY hR8 hs (br_t rfl (br_c (fun _ => ⟨rfl, zi_mk _ K⟩) (fun z => h2.elim (fun y => absurd y z) (fun y => br_f (zi_16 y) ⟨rfl, zi_mk _ K⟩))))
    · refine zi_ys (n := 16) (by omega) hp (br_f (by decide) ⟨pk_in s 8 (by omega), ?_⟩)
      rw [nI_clamp (show s < 2 ^ 31 by omega)]
      have hY : ∀ post : Int32 → SY → Prop, wY_grantPermission_38 post (nI s) (nI p) (lw_bz v3) (zb_i (bt (pm s) p)) (nI U) (nI R) (nI C) (nI cn) wl ed asg pm rk ra rt rp rn wr wa ef dg se ok → wpY_grantPermission post (nI U, nI R, nI C, nI cn, wl, ed, asg, pm, rk, ra, rt, rp, rn, wr, wa, ef, dg, se, ok) (nI s) (nI p) (lw_bz v3) := by
        intro post hp2
        unfold wpY_grantPermission
        refine zy_roleY hR8 hs (br_t rfl (br_f (nI_pos (by omega)) (br_t (zi_15 hp) ⟨pk_in s 8 (by omega), ?_⟩)))
        rw [nI_clamp (show s < 2 ^ 31 by omega)]
        refine br_c (fun y => ?_) (fun y => ?_)
        · rw [(zb_rs _ (by omega)).mp y] at hp2
          exact hp2
        · rw [zb_nf (fun w => y ((zb_rs _ (by omega)).mpr w))] at hp2
          exact hp2
      refine zx_con (by omega) (br_c (fun z => hY _ (br_t z ⟨rfl, zi_mk _ K⟩)) (fun z => ⟨pk_in s 8 (by omega), br_c (fun y => ⟨pk_in s 8 (by omega), nm_e (hY _ (br_f z (br_t y ⟨pk_in s 8 (by omega), pk_in s 8 (by omega), ?_⟩)))⟩) (fun y => ⟨pk_in s 8 (by omega), nm_e (hY _ (br_f z (br_f y ⟨pk_in s 8 (by omega), pk_in s 8 (by omega), ?_⟩)))⟩)⟩))
      · rw [nI_clamp (show s < 2 ^ 31 by omega)]
        exact nm_e ⟨rfl, zi_mk _ K⟩
      · rw [nI_clamp (show s < 2 ^ 31 by omega)]
        exact nm_e ⟨rfl, zi_mk _ K⟩
theorem zi_aset {U R w r : Nat} {asg : Nat → Int32} {x : Int32} (ha : ∀ v, v < U → ∀ j, R ≤ j → bt (asg v) j = false) (hx : ∀ j, R ≤ j → bt x j = false) : ∀ v, v < U → ∀ j, R ≤ j → bt (upd asg w x v) j = false := by
  intro v hv j hj
  by_cases e : v = w
  · rw [e, pk_us]
    exact hx j hj
  · rw [pk_un e]
    exact ha v hv j hj
theorem i_vc_setAssigned {k : Nat} {u : SX} {v : SY} (I : i_Rel k u v) (hk : k + 5 ≤ 2563) (v1 : Int32) (v2 : Int32) (v3 : Int32) : wpX_setAssigned (fun r u' => wpY_setAssigned (fun r' v' => r' = r ∧ i_Rel (k + 5) u' v') v v1 v2 (lw_bz v3)) u v1 v2 (lw_bz v3) := by
  obtain ⟨U, R, C, cn, wl, fc, dj, cl, pm, asg, rk, ra, rt, rp, rn, wr, wa, la, ds, pv, ar, fs, ed, ef, dg, se, ok, rfl, rfl, K⟩ := I
  obtain ⟨hU, hR, hC, hcn, hwl, H, ha, hr⟩ := id K
  have hR8 := hR.2
  have hU8 := hU.2
  unfold wpX_setAssigned
  rcases zi_io v1 (n := U) (by omega) with h1 | ⟨s, hs, rfl⟩
  · refine zx_userN h1 (br_t rfl ?_)
    unfold wpY_setAssigned
    exact zy_userN h1 (br_f (by decide) ⟨rfl, zi_mk _ K⟩)
  · refine zx_userY hU8 hs (br_f (by decide) ?_)
    rcases zi_io v2 (n := R) (by omega) with h2 | ⟨p, hp, rfl⟩
    · refine zx_roleN h2 (br_t rfl ?_)
      unfold wpY_setAssigned
      exact zy_userY hU8 hs (br_t rfl (zy_roleN h2 (br_f (by decide) ⟨rfl, zi_mk _ K⟩)))
    · refine zx_roleY hR8 hp (br_f (by decide) ⟨pk_in s 8 (by omega), ?_⟩)
      rw [nI_clamp (show s < 2 ^ 31 by omega)]
      have hY : ∀ post : Int32 → SY → Prop, wY_setAssigned_36 post (nI s) (nI p) (lw_bz v3) (zb_i (bt (asg s) p)) (nI U) (nI R) (nI C) (nI cn) wl ed asg pm rk ra rt rp rn wr wa ef dg se ok → wpY_setAssigned post (nI U, nI R, nI C, nI cn, wl, ed, asg, pm, rk, ra, rt, rp, rn, wr, wa, ef, dg, se, ok) (nI s) (nI p) (lw_bz v3) := by
        intro post hp2
        unfold wpY_setAssigned
        refine zy_userY hU8 hs (br_t rfl (zy_roleY hR8 hp (br_t rfl ⟨pk_in s 8 (by omega), ?_⟩)))
        rw [nI_clamp (show s < 2 ^ 31 by omega)]
        refine br_c (fun y => ?_) (fun y => ?_)
        · rw [(zb_rs _ (by omega)).mp y] at hp2
          exact hp2
        · rw [zb_nf (fun w => y ((zb_rs _ (by omega)).mpr w))] at hp2
          exact hp2
      refine zx_con (by omega) (br_c (fun z => hY _ (br_t z ⟨rfl, zi_mk _ K⟩)) (fun z => ⟨pk_in s 8 (by omega), br_c (fun y => ⟨pk_in s 8 (by omega), nm_e (hY _ (br_f z (br_t y ⟨pk_in s 8 (by omega), pk_in s 8 (by omega), ?_⟩)))⟩) (fun y => ⟨pk_in s 8 (by omega), nm_e (hY _ (br_f z (br_f y ⟨pk_in s 8 (by omega), pk_in s 8 (by omega), ?_⟩)))⟩)⟩))
      · rw [nI_clamp (show s < 2 ^ 31 by omega)]
        refine nm_e ⟨rfl, zi_mk _ ⟨hU, hR, hC, hcn, hwl, H, zi_aset (r := 0) ha (fun j hj => ?_), hr⟩⟩
        rw [zb_clr _ (by omega), ha s hs j hj, Bool.false_and]
      · rw [nI_clamp (show s < 2 ^ 31 by omega)]
        refine nm_e ⟨rfl, zi_mk _ ⟨hU, hR, hC, hcn, hwl, H, zi_aset (r := 0) ha (fun j hj => ?_), hr⟩⟩
        rw [zb_set _ (by omega), ha s hs j hj, decide_eq_false (by omega), Bool.or_self]
end
section
theorem zi_ruA {cn R a t : Nat} {ra rt : Nat → Int32} (h : zi_ru cn R ra rt) (ha : a < R) (ht : t < R) : zi_ru (cn + 1) R (upd ra cn (nI a)) (upd rt cn (nI t)) := by
  intro i hi
  by_cases e : i = cn
  · rw [e, pk_us, pk_us]
    exact ⟨⟨a, ha, rfl⟩, ⟨t, ht, rfl⟩⟩
  · rw [pk_un e, pk_un e]
    exact h i (by omega)
theorem zi_np (x : Int32) : ¬ (x &&& 255) < 0 := by
  obtain ⟨j, hj, e⟩ := pk_andE x (m := 255) 8 (by decide)
  rw [e]
  exact nI_pos (by omega)
theorem zx_cond {post : Int32 → Prop} {U R C cn : Nat} {wl fc : Int32} {dj cl pm asg rk ra rt rp rn wr wa la ds pv ar fs : Nat → Int32} {x : Int32} (h0 : ¬ ((x.toUInt32 >>> ((16 : Int32).toUInt32 &&& Int32.toUInt32 31)).toInt32 = 0 ∧ ¬ ((1 : Int32) <<< (nI R &&& 31)) ≤ (x &&& 255) ∧ ¬ ((1 : Int32) <<< (nI R &&& 31)) ≤ (((x.toUInt32 >>> ((8 : Int32).toUInt32 &&& Int32.toUInt32 31)).toInt32) &&& 255) ∧ ((x &&& 255) &&& (((x.toUInt32 >>> ((8 : Int32).toUInt32 &&& Int32.toUInt32 31)).toInt32) &&& 255)) = 0) → post 0)
    (h1 : ((x.toUInt32 >>> ((16 : Int32).toUInt32 &&& Int32.toUInt32 31)).toInt32 = 0 ∧ ¬ ((1 : Int32) <<< (nI R &&& 31)) ≤ (x &&& 255) ∧ ¬ ((1 : Int32) <<< (nI R &&& 31)) ≤ (((x.toUInt32 >>> ((8 : Int32).toUInt32 &&& Int32.toUInt32 31)).toInt32) &&& 255) ∧ ((x &&& 255) &&& (((x.toUInt32 >>> ((8 : Int32).toUInt32 &&& Int32.toUInt32 31)).toInt32) &&& 255)) = 0) → post 1) : wpX_isCondition post (nI U, nI R, nI C, nI cn, wl, fc, dj, cl, pm, asg, rk, ra, rt, rp, rn, wr, wa, la, ds, pv, ar, fs) x := by
  refine br_c (fun a => ?_) (fun a => h0 (fun z => a z.1))
  unfold wpX_positivePart wpX_negativePart
  refine br_f (zi_np _) (br_c (fun b => br_t rfl (h0 (fun z => z.2.1 b))) (fun b => br_f (by decide) ?_))
  refine br_f (zi_np _) (br_c (fun c => br_t rfl (h0 (fun z => z.2.2.1 c))) (fun c => br_f (by decide) ?_))
  exact br_c (fun d => h1 ⟨a, b, c, d⟩) (fun d => h0 (fun z => d z.2.2.2))
theorem i_vc_addRule {k : Nat} {u : SX} {v : SY} (I : i_Rel k u v) (hk : k + 5 ≤ 2563) (v1 : Int32) (v2 : Int32) (v3 : Int32) (v4 : Int32) : wpX_addRule (fun r u' => wpY_addRule (fun r' v' => r' = r ∧ i_Rel (k + 5) u' v') v v1 v2 v3 v4) u v1 v2 v3 v4 := by
  obtain ⟨U, R, C, cn, wl, fc, dj, cl, pm, asg, rk, ra, rt, rp, rn, wr, wa, la, ds, pv, ar, fs, ed, ef, dg, se, ok, rfl, rfl, K⟩ := I
  obtain ⟨hU, hR, hC, hcn, hwl, H, ha, hr⟩ := id K
  have hR8 := hR.2
  refine pk_lt cn C (fun hl => ?_) (fun hl => ?_)
  · have hY : ∀ post : Int32 → SY → Prop, ((v1 = 1 → wY_addRule_26 post v1 v2 v3 v4 (nI U) (nI R) (nI C) (nI cn) wl ed asg pm rk ra rt rp rn wr wa ef dg se ok) ∧ (¬ v1 = 1 → ((v1 = 2 → wY_addRule_26 post v1 v2 v3 v4 (nI U) (nI R) (nI C) (nI cn) wl ed asg pm rk ra rt rp rn wr wa ef dg se ok) ∧ (¬ v1 = 2 → post (-1) (nI U, nI R, nI C, nI cn, wl, ed, asg, pm, rk, ra, rt, rp, rn, wr, wa, ef, dg, se, ok))))) → wpY_addRule post (nI U, nI R, nI C, nI cn, wl, ed, asg, pm, rk, ra, rt, rp, rn, wr, wa, ef, dg, se, ok) v1 v2 v3 v4 :=
      fun post h => br_f (fun z => absurd ((nI_eq (by omega) (by omega)).mp z) (by omega)) h
    have hM : (∀ post : Int32 → SY → Prop, wY_addRule_26 post v1 v2 v3 v4 (nI U) (nI R) (nI C) (nI cn) wl ed asg pm rk ra rt rp rn wr wa ef dg se ok → wpY_addRule post (nI U, nI R, nI C, nI cn, wl, ed, asg, pm, rk, ra, rt, rp, rn, wr, wa, ef, dg, se, ok) v1 v2 v3 v4) → wX_addRule_26 (fun r u' => wpY_addRule (fun r' v' => r' = r ∧ i_Rel (k + 5) u' v') (nI U, nI R, nI C, nI cn, wl, ed, asg, pm, rk, ra, rt, rp, rn, wr, wa, ef, dg, se, ok) v1 v2 v3 v4) v1 v2 v3 v4 (nI U) (nI R) (nI C) (nI cn) wl fc dj cl pm asg rk ra rt rp rn wr wa la ds pv ar fs := by
      intro hy
      unfold wX_addRule_26
      rcases zi_io v2 (n := R) (by omega) with h2 | ⟨a, ha2, rfl⟩
      · refine zx_roleN h2 (br_t rfl (hy _ ?_))
        unfold wY_addRule_26
        exact zy_roleN h2 (br_f (by decide) ⟨rfl, zi_mk _ K⟩)
      · refine zx_roleY hR8 ha2 (br_f (by decide) ?_)
        rcases zi_io v3 (n := R) (by omega) with h3 | ⟨t, ht, rfl⟩
        · refine zx_roleN h3 (br_t rfl (hy _ ?_))
          unfold wY_addRule_26
          exact zy_roleY hR8 ha2 (br_t rfl (zy_roleN h3 (br_f (by decide) ⟨rfl, zi_mk _ K⟩)))
        · refine zx_roleY hR8 ht (br_f (by decide) (zx_cond (fun hz => br_t rfl (hy _ ?_)) (fun hz => br_f (by decide) ?_)))
          · unfold wY_addRule_26
            refine zy_roleY hR8 ha2 (br_t rfl (zy_roleY hR8 ht (br_t rfl (br_c (fun a1 => nm_e (nm_e ?_)) (fun _ => ⟨rfl, zi_mk _ K⟩)))))
            exact br_c (fun _ => ⟨rfl, zi_mk _ K⟩) (fun b1 => br_c (fun _ => ⟨rfl, zi_mk _ K⟩) (fun c1 => br_c (fun d1 => absurd ⟨a1, b1, c1, d1⟩ hz) (fun _ => ⟨rfl, zi_mk _ K⟩)))
          · have hi := pk_in cn 16 (show cn < 16 by omega)
            rw [nI_clamp (show cn < 2 ^ 31 by omega)]
            refine ⟨hi, nm_e ⟨hi, nm_e ⟨hi, nm_e ?_⟩⟩⟩
            unfold wpX_positivePart
            refine ⟨hi, nm_e ?_⟩
            unfold wpX_negativePart
            refine ⟨hi, nm_e (nm_r (nI_1 cn) (hy _ ?_))⟩
            unfold wY_addRule_26
            refine zy_roleY hR8 ha2 (br_t rfl (zy_roleY hR8 ht (br_t rfl (br_t hz.1 (nm_e (nm_e (br_f hz.2.1 (br_f hz.2.2.1 (br_t hz.2.2.2 ?_)))))))))
            rw [nI_clamp (show cn < 2 ^ 31 by omega)]
            refine ⟨hi, nm_e ⟨hi, nm_e ⟨hi, nm_e ⟨hi, nm_e ⟨hi, nm_e (nm_r (nI_1 cn) ⟨nI_pred cn, zi_mk _ ?_⟩)⟩⟩⟩⟩⟩
            exact ⟨hU, hR, hC, hl, hwl, H, ha, zi_ruA hr ha2 ht⟩
    refine br_c (fun e1 => ?_) (fun e1 => br_c (fun e2 => ?_) (fun e2 => ?_))
    · exact hM (fun post h => hY post (br_t e1 h))
    · exact hM (fun post h => hY post (br_f e1 (br_t e2 h)))
    · exact hY _ (br_f e1 (br_f e2 ⟨rfl, zi_mk _ K⟩))
  · have e : cn = C := by omega
    exact br_t (by rw [e]) ⟨rfl, zi_mk _ K⟩
theorem i_vc_act {k : Nat} {u : SX} {v : SY} (I : i_Rel k u v) (hk : k + 5 ≤ 2563) (v1 : Int32) (v2 : Int32) (v3 : Int32) : wpX_act (fun r u' => wpY_act (fun r' v' => r' = r ∧ i_Rel (k + 5) u' v') v v1 v2 v3) u v1 v2 v3 := by
  obtain ⟨U, R, C, cn, wl, fc, dj, cl, pm, asg, rk, ra, rt, rp, rn, wr, wa, la, ds, pv, ar, fs, ed, ef, dg, se, ok, rfl, rfl, K⟩ := I
  obtain ⟨hU, hR, hC, hcn, hwl, H, ha, hr⟩ := id K
  have hR8 := hR.2
  have hU8 := hU.2
  unfold wpX_act
  rcases zi_io v1 (n := U) (by omega) with h1 | ⟨w, hw, rfl⟩
  · refine zx_userN h1 (br_t rfl ?_)
    unfold wpY_act
    exact zy_userN h1 (br_f (by decide) ⟨rfl, zi_mk _ K⟩)
  · refine zx_userY hU8 hw (br_f (by decide) ?_)
    rcases zi_io v2 (n := U) (by omega) with h2 | ⟨x, hx, rfl⟩
    · refine zx_userN h2 (br_t rfl ?_)
      unfold wpY_act
      exact zy_userY hU8 hw (br_t rfl (zy_userN h2 (br_f (by decide) ⟨rfl, zi_mk _ K⟩)))
    · refine zx_userY hU8 hx (br_f (by decide) ?_)
      rcases zi_io v3 (n := cn) (by omega) with h3 | ⟨i, hi, rfl⟩
      · refine zx_ruleN h3 (br_t rfl ?_)
        unfold wpY_act
        exact zy_userY hU8 hw (br_t rfl (zy_userY hU8 hx (br_t rfl (br_c (fun _ => ⟨rfl, zi_mk _ K⟩) (fun z => h3.elim (fun y => absurd y z) (fun y => br_f (Int32.not_lt.mpr y) ⟨rfl, zi_mk _ K⟩))))))
      · refine zx_ruleY (by omega) hi (br_f (by decide) ?_)
        obtain ⟨⟨a, ha2, ea⟩, t, ht, et⟩ := hr i hi
        have hin := pk_in i 16 (show i < 16 by omega)
        have hxn := pk_in x 8 (show x < 8 by omega)
        have hwn := pk_in w 8 (show w < 8 by omega)
        have hY : ∀ post : Int32 → SY → Prop, ((w = x → post (-5) (nI U, nI R, nI C, nI cn, wl, ed, asg, pm, rk, ra, rt, rp, rn, wr, wa, ef, dg, se, ok)) ∧ (w ≠ x → (bt (zx_ex cl (asg w) R) a = false → post (-6) (nI U, nI R, nI C, nI cn, wl, ed, asg, pm, rk, ra, rt, rp, rn, wr, wa, ef, dg, se, ok)) ∧ (bt (zx_ex cl (asg w) R) a = true → (¬ ((zx_ex cl (asg x) R &&& rp i) = rp i ∧ (zx_ex cl (asg x) R &&& rn i) = 0) → post (-7) (nI U, nI R, nI C, nI cn, wl, ed, asg, pm, rk, ra, rt, rp, rn, wr, wa, ef, dg, se, ok)) ∧ (((zx_ex cl (asg x) R &&& rp i) = rp i ∧ (zx_ex cl (asg x) R &&& rn i) = 0) → (¬ (bt (asg x) t = decide (¬ rk i = 1)) → post (-3) (nI U, nI R, nI C, nI cn, wl, ed, asg, pm, rk, ra, rt, rp, rn, wr, wa, ef, dg, se, ok)) ∧ (bt (asg x) t = decide (¬ rk i = 1) → post 0 (nI U, nI R, nI C, nI cn, wl, ed, upd asg x (zr_x rk rt (asg x) i), pm, rk, ra, rt, rp, rn, wr, wa, ef, dg, se, ok)))))) → wpY_act post (nI U, nI R, nI C, nI cn, wl, ed, asg, pm, rk, ra, rt, rp, rn, wr, wa, ef, dg, se, ok) (nI w) (nI x) (nI i) := by
          intro post hp
          unfold wpY_act
          refine zy_userY hU8 hw (br_t rfl (zy_userY hU8 hx (br_t rfl (br_f (nI_pos (by omega)) (br_t (nI_lt hi (by omega)) (pk_eq w x (fun e => hp.1 e) (fun e => ⟨hwn, ?_⟩)))))))
          have hp2 := hp.2 e
          rw [nI_clamp (show w < 2 ^ 31 by omega), nI_clamp (show x < 2 ^ 31 by omega), nI_clamp (show i < 2 ^ 31 by omega), ea, et]
          refine zy_eff H ⟨hin, br_c (fun y => hp2.1 ((zb_rs _ (by omega)).mp y)) (fun y => ⟨hxn, zy_eff H ⟨hin, hin, ?_⟩⟩)⟩
          have hp3 := hp2.2 (zb_nf (fun w => y ((zb_rs _ (by omega)).mpr w)))
          refine br_c (fun y1 => ⟨hin, br_c (fun y2 => ⟨hxn, hin, ?_⟩) (fun y2 => hp3.1 (fun z => y2 z.2))⟩) (fun y1 => hp3.1 (fun z => y1 z.1))
          have hp4 := hp3.2 ⟨y1, y2⟩
          unfold zr_x at hp4
          unfold wY_act_131
          rw [nI_clamp (show i < 2 ^ 31 by omega), nI_clamp (show x < 2 ^ 31 by omega)]
          refine br_c (fun y3 => ⟨hin, br_c (fun k1 => br_t rfl ⟨hxn, hin, hxn, nm_e ?_⟩) (fun k1 => br_t rfl (hp4.1 ?_))⟩) (fun y3 => ⟨hin, br_c (fun k1 => br_f (by decide) (hp4.1 ?_)) (fun k1 => br_f (by decide) ⟨hxn, hin, hxn, nm_e ?_⟩)⟩)
          · rw [if_pos k1] at hp4
            exact hp4.2 (by rw [(zb_rs _ (by omega)).mp y3, show decide (¬ rk i = 1) = false from decide_eq_false (fun w => w k1)])
          · rw [(zb_rs _ (by omega)).mp y3, decide_eq_true k1]
            decide
          · rw [zb_nf (fun w => y3 ((zb_rs _ (by omega)).mpr w)), show decide (¬ rk i = 1) = false from decide_eq_false (fun w => w k1)]
            decide
          · rw [if_neg k1] at hp4
            exact hp4.2 (by rw [zb_nf (fun w => y3 ((zb_rs _ (by omega)).mpr w)), decide_eq_true k1])
        refine pk_eq w x (fun e => hY _ ⟨fun _ => ⟨rfl, zi_mk _ K⟩, fun z => absurd e z⟩) (fun e => ?_)
        refine zx_may hR8 (by omega) (by omega) (by omega) ea (zb_br _ (fun b1 => ?_) (fun b1 => ⟨hxn, ?_⟩))
        · refine hY _ ⟨fun z => absurd z e, fun _ => ⟨fun _ => ⟨rfl, zi_mk _ K⟩, fun z => ?_⟩⟩
          rw [b1] at z
          exact absurd z (by decide)
        · rw [nI_clamp (show x < 2 ^ 31 by omega)]
          have f1 : ¬ bt (zx_ex cl (asg w) R) a = false := by rw [b1]; decide
          refine zx_expand hR8 (zx_meets (by omega) (zb_br _ (fun b2 => ?_) (fun b2 => ⟨hxn, zx_makes (by omega) (by omega) et (zb_br _ (fun b3 => ?_) (fun b3 => ⟨hxn, zx_res (by omega) ⟨hxn, nm_e ?_⟩⟩))⟩)))
          · exact hY _ ⟨fun z => absurd z e, fun _ => ⟨fun z => absurd z f1, fun _ => ⟨fun _ => ⟨rfl, zi_mk _ K⟩, fun z => absurd z (of_decide_eq_false b2)⟩⟩⟩
          · exact hY _ ⟨fun z => absurd z e, fun _ => ⟨fun z => absurd z f1, fun _ => ⟨fun z => absurd (of_decide_eq_true b2) z, fun _ => ⟨fun _ => ⟨rfl, zi_mk _ K⟩, fun z => absurd z (of_decide_eq_false b3)⟩⟩⟩⟩
          · refine hY _ ⟨fun z => absurd z e, fun _ => ⟨fun z => absurd z f1, fun _ => ⟨fun z => absurd (of_decide_eq_true b2) z, fun _ => ⟨fun z => absurd (of_decide_eq_true b3) z, fun _ => ⟨rfl, zi_mk _ ?_⟩⟩⟩⟩⟩
            exact ⟨hU, hR, hC, hcn, hwl, H, zi_aset (r := 0) ha (zr_xb hR8 ht et (ha x hx)), hr⟩
theorem i_vc_analyse {k : Nat} {u : SX} {v : SY} (I : i_Rel k u v) (hk : k + 5 ≤ 2563) (v1 : Int32) (v2 : Int32) : wpX_analyse (fun r u' => wpY_analyse (fun r' v' => r' = r ∧ i_Rel (k + 5) u' v') v v1 v2) u v1 v2 := by
  obtain ⟨U, R, C, cn, wl, fc, dj, cl, pm, asg, rk, ra, rt, rp, rn, wr, wa, la, ds, pv, ar, fs, ed, ef, dg, se, ok, rfl, rfl, K⟩ := I
  obtain ⟨hU, hR, hC, hcn, hwl, H, ha, hr⟩ := id K
  have hR8 := hR.2
  have hU8 := hU.2
  rcases zi_io v1 (n := U) (by omega) with h1 | ⟨x, hx, rfl⟩
  · unfold wpX_analyse
    refine zx_userN h1 (br_t rfl ?_)
    unfold wpY_analyse
    exact zy_userN h1 (br_f (by decide) ⟨rfl, zi_mk _ K⟩)
  · rcases zi_io v2 (n := R) (by omega) with h2 | ⟨g, hg, rfl⟩
    · unfold wpX_analyse
      refine zx_userY hU8 hx (br_f (by decide) (zx_roleN h2 (br_t rfl ?_)))
      unfold wpY_analyse
      exact zy_userY hU8 hx (br_t rfl (zy_roleN h2 (br_f (by decide) ⟨rfl, zi_mk _ K⟩)))
    · obtain ⟨st, hst, eu⟩ := zb_of (ha x hx)
      refine zx_analyse hR8 hU8 (by omega) hr hx hg hst eu (fun hn fc la ds pv ar fs => ?_) (fun p hm hl fc la ds pv ar fs => ?_)
      · refine zy_ana H hU8 (by omega) hr hx hg hst eu (Or.inl ⟨hn, fun ef dg ok => ⟨rfl, zi_mk _ ?_⟩⟩)
        exact ⟨hU, hR, hC, hcn, Or.inl rfl, H, ha, hr⟩
      · refine zy_ana H hU8 (by omega) hr hx hg hst eu (Or.inr ⟨p, hm, hl, fun ef dg ok => ⟨rfl, zi_mk _ ?_⟩⟩)
        exact ⟨hU, hR, hC, hcn, Or.inr ⟨p.length, hl, rfl⟩, H, ha, hr⟩
theorem i_vc_witnessLength {k : Nat} {u : SX} {v : SY} (I : i_Rel k u v) (hk : k + 5 ≤ 2563) : wpX_witnessLength (fun r => wpY_witnessLength (fun r' => r' = r ∧ i_Rel (k + 5) u v) v) u := by
  obtain ⟨U, R, C, cn, wl, fc, dj, cl, pm, asg, rk, ra, rt, rp, rn, wr, wa, la, ds, pv, ar, fs, ed, ef, dg, se, ok, rfl, rfl, K⟩ := I
  exact ⟨rfl, zi_mk _ K⟩
theorem zi_wl {wl x : Int32} (h : wl = -1 ∨ ∃ L, L ≤ 255 ∧ wl = nI L) (h0 : ¬ x < 0) (h1 : ¬ wl ≤ x) : ∃ j, j < 256 ∧ x = nI j := by
  obtain ⟨j, hj, rfl⟩ := nI_of h0
  rcases h with e | ⟨L, hL, e⟩
  · rw [e] at h1
    exact absurd (Int32.le_trans (by decide : (-1 : Int32) ≤ 0) (nI_pos' hj)) h1
  · rw [e, nI_leI (by omega) hj] at h1
    exact ⟨j, by omega, rfl⟩
theorem i_vc_witnessRule {k : Nat} {u : SX} {v : SY} (I : i_Rel k u v) (hk : k + 5 ≤ 2563) (v1 : Int32) : wpX_witnessRule (fun r => wpY_witnessRule (fun r' => r' = r ∧ i_Rel (k + 5) u v) v v1) u v1 := by
  obtain ⟨U, R, C, cn, wl, fc, dj, cl, pm, asg, rk, ra, rt, rp, rn, wr, wa, la, ds, pv, ar, fs, ed, ef, dg, se, ok, rfl, rfl, K⟩ := I
  unfold wpX_witnessRule
  refine br_c (fun z => br_t rfl (br_t z ⟨rfl, zi_mk _ K⟩)) (fun z => br_c (fun y => br_t rfl (br_f z (br_t y ⟨rfl, zi_mk _ K⟩))) (fun y => br_f (by decide) ?_))
  obtain ⟨j, hj, rfl⟩ := zi_wl K.2.2.2.2.1 z y
  exact ⟨pk_in j 256 hj, br_f z (br_f y (br_t (nI_lt (b := 256) hj (by decide)) ⟨pk_in j 256 hj, rfl, zi_mk _ K⟩))⟩
theorem i_vc_witnessAdmin {k : Nat} {u : SX} {v : SY} (I : i_Rel k u v) (hk : k + 5 ≤ 2563) (v1 : Int32) : wpX_witnessAdmin (fun r => wpY_witnessAdmin (fun r' => r' = r ∧ i_Rel (k + 5) u v) v v1) u v1 := by
  obtain ⟨U, R, C, cn, wl, fc, dj, cl, pm, asg, rk, ra, rt, rp, rn, wr, wa, la, ds, pv, ar, fs, ed, ef, dg, se, ok, rfl, rfl, K⟩ := I
  unfold wpX_witnessAdmin
  refine br_c (fun z => br_t rfl (br_t z ⟨rfl, zi_mk _ K⟩)) (fun z => br_c (fun y => br_t rfl (br_f z (br_t y ⟨rfl, zi_mk _ K⟩))) (fun y => br_f (by decide) ?_))
  obtain ⟨j, hj, rfl⟩ := zi_wl K.2.2.2.2.1 z y
  exact ⟨pk_in j 256 hj, br_f z (br_f y (br_t (nI_lt (b := 256) hj (by decide)) ⟨pk_in j 256 hj, rfl, zi_mk _ K⟩))⟩
theorem i_vc_reachableRoles {k : Nat} {u : SX} {v : SY} (I : i_Rel k u v) (hk : k + 5 ≤ 2563) (v1 : Int32) : wpX_reachableRoles (fun r u' => wpY_reachableRoles (fun r' v' => r' = r ∧ i_Rel (k + 5) u' v') v v1) u v1 := by
  obtain ⟨U, R, C, cn, wl, fc, dj, cl, pm, asg, rk, ra, rt, rp, rn, wr, wa, la, ds, pv, ar, fs, ed, ef, dg, se, ok, rfl, rfl, K⟩ := I
  obtain ⟨hU, hR, hC, hcn, hwl, H, ha, hr⟩ := id K
  have hR8 := hR.2
  have hU8 := hU.2
  have h8 := zb_p8 hR8
  rcases zi_io v1 (n := U) (by omega) with h1 | ⟨x, hx, rfl⟩
  · unfold wpX_reachableRoles
    refine zx_userN h1 (br_t rfl ?_)
    unfold wpY_reachableRoles
    exact zy_userN h1 (br_f (by decide) ⟨rfl, zi_mk _ K⟩)
  · obtain ⟨st, hst, eu⟩ := zb_of (ha x hx)
    refine zx_reach hR8 hU8 (by omega) hr hx hst eu (fun n Q P y he hq hy fc la ds pv ar fs => ?_)
    refine zy_rch H hU8 (by omega) hr hx hst eu (fun ef se ok y' hs hc hy' => ⟨?_, zi_mk _ K⟩)
    apply zo_ext
    intro b
    rw [hy b, hy' b]
    constructor
    · intro ⟨s, h1, h2, h3⟩
      obtain ⟨q, hq2⟩ := hs s h1 h2
      obtain ⟨j, j1, j2, _⟩ := zp_fnd he hq2
      exact ⟨j, j1, by rw [j2]; exact h3⟩
    · intro ⟨j, h1, h2⟩
      have hqj := hq j h1
      exact ⟨Q j, by omega, hc (P (Q j)) (Q j) (he.2.2.2.1 j h1) (by omega), h2⟩
theorem i_vc_explicitRoles {k : Nat} {u : SX} {v : SY} (I : i_Rel k u v) (hk : k + 5 ≤ 2563) (v1 : Int32) : wpX_explicitRoles (fun r => wpY_explicitRoles (fun r' => r' = r ∧ i_Rel (k + 5) u v) v v1) u v1 := by
  obtain ⟨U, R, C, cn, wl, fc, dj, cl, pm, asg, rk, ra, rt, rp, rn, wr, wa, la, ds, pv, ar, fs, ed, ef, dg, se, ok, rfl, rfl, K⟩ := I
  obtain ⟨hU, hR, hC, hcn, hwl, H, ha, hr⟩ := id K
  have hU8 := hU.2
  unfold wpX_explicitRoles
  rcases zi_io v1 (n := U) (by omega) with h1 | ⟨x, hx, rfl⟩
  · refine zx_userN h1 (br_t rfl ?_)
    unfold wpY_explicitRoles
    exact zy_userN h1 (br_f (by decide) ⟨rfl, zi_mk _ K⟩)
  · refine zx_userY hU8 hx (br_f (by decide) ⟨pk_in x 8 (by omega), ?_⟩)
    unfold wpY_explicitRoles
    exact zy_userY hU8 hx (br_t rfl ⟨pk_in x 8 (by omega), rfl, zi_mk _ K⟩)
theorem i_vc_effectiveRoles {k : Nat} {u : SX} {v : SY} (I : i_Rel k u v) (hk : k + 5 ≤ 2563) (v1 : Int32) : wpX_effectiveRoles (fun r => wpY_effectiveRoles (fun r' => r' = r ∧ i_Rel (k + 5) u v) v v1) u v1 := by
  obtain ⟨U, R, C, cn, wl, fc, dj, cl, pm, asg, rk, ra, rt, rp, rn, wr, wa, la, ds, pv, ar, fs, ed, ef, dg, se, ok, rfl, rfl, K⟩ := I
  obtain ⟨hU, hR, hC, hcn, hwl, H, ha, hr⟩ := id K
  have hU8 := hU.2
  unfold wpX_effectiveRoles
  rcases zi_io v1 (n := U) (by omega) with h1 | ⟨x, hx, rfl⟩
  · refine zx_userN h1 (br_t rfl ?_)
    unfold wpY_effectiveRoles
    exact zy_userN h1 (br_f (by decide) ⟨rfl, zi_mk _ K⟩)
  · refine zx_userY hU8 hx (br_f (by decide) ⟨pk_in x 8 (by omega), zx_expand H.1 ?_⟩)
    unfold wpY_effectiveRoles
    exact zy_userY hU8 hx (br_t rfl ⟨pk_in x 8 (by omega), zy_eff H ⟨rfl, zi_mk _ K⟩⟩)
theorem i_vc_juniorsOf {k : Nat} {u : SX} {v : SY} (I : i_Rel k u v) (hk : k + 5 ≤ 2563) (v1 : Int32) : wpX_juniorsOf (fun r => wpY_juniorsOf (fun r' => r' = r ∧ i_Rel (k + 5) u v) v v1) u v1 := by
  obtain ⟨U, R, C, cn, wl, fc, dj, cl, pm, asg, rk, ra, rt, rp, rn, wr, wa, la, ds, pv, ar, fs, ed, ef, dg, se, ok, rfl, rfl, K⟩ := I
  obtain ⟨hU, hR, hC, hcn, hwl, H, ha, hr⟩ := id K
  have hR8 := hR.2
  unfold wpX_juniorsOf
  rcases zi_io v1 (n := R) (by omega) with h1 | ⟨x, hx, rfl⟩
  · refine zx_roleN h1 (br_t rfl ?_)
    unfold wpY_juniorsOf
    exact zy_roleN h1 (br_f (by decide) ⟨rfl, zi_mk _ K⟩)
  · refine zx_roleY hR8 hx (br_f (by decide) ⟨pk_in x 8 (by omega), ?_⟩)
    rw [nI_clamp (show x < 2 ^ 31 by omega)]
    unfold wpY_juniorsOf
    exact zy_roleY hR8 hx (br_t rfl (zy_clo H hx ⟨rfl, zi_mk _ K⟩))
theorem zi_hp {U R C cn : Nat} {wl fc : Int32} {dj cl pm asg rk ra rt rp rn wr wa la ds pv ar fs : Nat → Int32} {ed ef dg se ok : Nat → Int32} {p : Nat} {x : Int32} (hR : R ≤ 8) (hp : p < 16) : ∀ d r : Nat, r + d = R → ∃ y : Int32, (∀ post : Int32 → Prop, post y → wX_hasPermission_31 post (nI p) x (nI U) (nI R) (nI C) (nI cn) wl fc dj cl pm asg rk ra rt rp rn wr wa la ds pv ar fs (d + 1) (nI r)) ∧ (∀ post : Int32 → Prop, post y → wY_hasPermission_34 post (nI p) x (nI U) (nI R) (nI C) (nI cn) wl ed asg pm rk ra rt rp rn wr wa ef dg se ok (d + 1) (nI r)) := by
  intro d
  induction d with
  | zero =>
    intro r hr
    have e : r = R := by omega
    subst e
    exact ⟨0, fun post h => pk_le r r (fun _ => h) (fun z => absurd z (by omega)), fun post h => pk_le r r (fun _ => h) (fun z => absurd z (by omega))⟩
  | succ d ih =>
    intro r hr
    obtain ⟨y, iX, iY⟩ := ih (r + 1) (by omega)
    cases hb : bt x r
    · refine ⟨y, fun post h => pk_le R r (fun z => absurd z (by omega)) (fun _ => zx_con (by omega) ?_), fun post h => pk_le R r (fun z => absurd z (by omega)) (fun _ => br_t ((zb_rs _ (by omega)).mpr hb) (nm_r (nI_1 r) (iY post h)))⟩
      rw [hb]
      exact br_t rfl (nm_r (nI_1 r) (iX post h))
    · have hbn : ¬ ((x >>> (nI r &&& 31)) &&& 1) = 0 := by
        intro z
        rw [(zb_rs _ (by omega)).mp z] at hb
        exact absurd hb (by decide)
      cases hc : bt (pm r) p
      · refine ⟨y, fun post h => pk_le R r (fun z => absurd z (by omega)) (fun _ => zx_con (by omega) ?_), fun post h => pk_le R r (fun z => absurd z (by omega)) (fun _ => br_f hbn ⟨pk_in r 8 (by omega), ?_⟩)⟩
        · rw [hb, nI_clamp (show r < 2 ^ 31 by omega)]
          refine br_f (by decide) ⟨pk_in r 8 (by omega), zx_con (by omega) ?_⟩
          rw [hc]
          exact br_t rfl (nm_r (nI_1 r) (iX post h))
        · rw [nI_clamp (show r < 2 ^ 31 by omega)]
          exact br_t ((zb_rs _ (by omega)).mpr hc) (nm_r (nI_1 r) (iY post h))
      · refine ⟨1, fun post h => pk_le R r (fun z => absurd z (by omega)) (fun _ => zx_con (by omega) ?_), fun post h => pk_le R r (fun z => absurd z (by omega)) (fun _ => br_f hbn ⟨pk_in r 8 (by omega), ?_⟩)⟩
        · rw [hb, nI_clamp (show r < 2 ^ 31 by omega)]
          refine br_f (by decide) ⟨pk_in r 8 (by omega), zx_con (by omega) ?_⟩
          rw [hc]
          exact br_f (by decide) h
        · rw [nI_clamp (show r < 2 ^ 31 by omega)]
          refine br_f (fun z => ?_) h
          rw [(zb_rs _ (by omega)).mp z] at hc
          exact absurd hc (by decide)
theorem i_vc_hasPermission {k : Nat} {u : SX} {v : SY} (I : i_Rel k u v) (hk : k + 5 ≤ 2563) (v1 : Int32) (v2 : Int32) : wpX_hasPermission (fun r => wpY_hasPermission (fun r' => r' = r ∧ i_Rel (k + 5) u v) v v1 v2) u v1 v2 := by
  obtain ⟨U, R, C, cn, wl, fc, dj, cl, pm, asg, rk, ra, rt, rp, rn, wr, wa, la, ds, pv, ar, fs, ed, ef, dg, se, ok, rfl, rfl, K⟩ := I
  obtain ⟨hU, hR, hC, hcn, hwl, H, ha, hr⟩ := id K
  have hU8 := hU.2
  unfold wpX_hasPermission
  rcases zi_io v1 (n := U) (by omega) with h1 | ⟨x, hx, rfl⟩
  · refine zx_userN h1 (br_t rfl ?_)
    unfold wpY_hasPermission
    exact zy_userN h1 (br_f (by decide) ⟨rfl, zi_mk _ K⟩)
  · refine zx_userY hU8 hx (br_f (by decide) ?_)
    rcases zi_io v2 (n := 16) (by omega) with h2 | ⟨p, hp, rfl⟩
    · refine zi_no (n := 16) h2 (br_t rfl ?_)
      unfold wpY_hasPermission
      exact zy_userY hU8 hx (br_t rfl (br_c (fun _ => ⟨rfl, zi_mk _ K⟩) (fun z => h2.elim (fun y => absurd y z) (fun y => br_f (zi_16 y) ⟨rfl, zi_mk _ K⟩))))
    · refine zi_ys (n := 16) (by omega) hp (br_f (by decide) ⟨pk_in x 8 (by omega), zx_expand H.1 ?_⟩)
      obtain ⟨y, iX, iY⟩ := zi_hp (x := zx_ex cl (asg (nI x).toNatClampNeg) R) (C := C) (cn := cn) (wl := wl) (fc := fc) (dj := dj) (cl := cl) (pm := pm) (asg := asg) (rk := rk) (ra := ra) (rt := rt) (rp := rp) (rn := rn) (wr := wr) (wa := wa) (la := la) (ds := ds) (pv := pv) (ar := ar) (fs := fs) (ed := ed) (ef := ef) (dg := dg) (se := se) (ok := ok) (U := U) H.1 hp R 0 (by omega)
      refine ⟨R + 1, iX _ ?_⟩
      unfold wpY_hasPermission
      refine zy_userY hU8 hx (br_t rfl (br_f (nI_pos (by omega)) (br_t (zi_15 hp) ⟨pk_in x 8 (by omega), zy_eff H ⟨R + 1, iY _ ⟨rfl, zi_mk _ K⟩⟩⟩)))
end
