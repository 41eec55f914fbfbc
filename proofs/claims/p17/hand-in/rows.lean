section
/-! ===== Int32 by its bits: bt x i ===== -/
def bt (x : Int32) (i : Nat) : Bool := x.toBitVec.getLsbD i
theorem b_ext {x y : Int32} (h : ∀ i, i < 32 → bt x i = bt y i) : x = y := Int32.toBitVec_inj.mp (BitVec.eq_of_getLsbD_eq (fun i hi => h i hi))
theorem b_or (x y : Int32) (i : Nat) : bt (x ||| y) i = (bt x i || bt y i) := by unfold bt; rw [Int32.toBitVec_or, BitVec.getLsbD_or]
theorem b_and (x y : Int32) (i : Nat) : bt (x &&& y) i = (bt x i && bt y i) := by unfold bt; rw [Int32.toBitVec_and, BitVec.getLsbD_and]
theorem b_xor (x y : Int32) (i : Nat) : bt (x ^^^ y) i = (bt x i ^^ bt y i) := by unfold bt; rw [Int32.toBitVec_xor, BitVec.getLsbD_xor]
theorem b_big {x : Int32} {i : Nat} (h : 32 ≤ i) : bt x i = false := BitVec.getLsbD_of_ge _ _ h
theorem b_255 (i : Nat) : bt 255 i = decide (i < 8) := by
  rcases Nat.lt_or_ge i 32 with h | h
  · exact (by decide +kernel : ∀ i, i < 32 → bt 255 i = decide (i < 8)) i h
  · rw [b_big h, decide_eq_false (by omega)]
theorem b_65535 (i : Nat) : bt 65535 i = decide (i < 16) := by
  rcases Nat.lt_or_ge i 32 with h | h
  · exact (by decide +kernel : ∀ i, i < 32 → bt 65535 i = decide (i < 16)) i h
  · rw [b_big h, decide_eq_false (by omega)]
theorem b_m1 : ∀ i, i < 32 → bt (-1) i = true := by decide +kernel
theorem b_0 (i : Nat) : bt 0 i = false := BitVec.getLsbD_zero
theorem s_l : ∀ n, n < 32 → ((nI n &&& 31).toBitVec.smod 32).toNat = n := by decide +kernel
theorem s_u : ∀ n, n < 32 → (((nI n).toUInt32 &&& Int32.toUInt32 31).toBitVec % 32).toNat = n := by decide +kernel
theorem b_shl (n : Nat) (hn : n < 32) (x : Int32) {i : Nat} (hi : i < 32) : bt (x <<< (nI n &&& 31)) i = (decide (n ≤ i) && bt x (i - n)) := by
  unfold bt
  rw [Int32.toBitVec_shiftLeft]
  show (x.toBitVec <<< ((nI n &&& 31).toBitVec.smod 32).toNat).getLsbD i = _
  rw [s_l n hn, BitVec.getLsbD_shiftLeft]
  rcases Nat.lt_or_ge i n with h | h
  · simp [h, Nat.not_le.mpr h]
  · simp [hi, h, Nat.not_lt.mpr h]
theorem b_ushr (n : Nat) (hn : n < 32) (x : Int32) (i : Nat) : bt ((x.toUInt32 >>> ((nI n).toUInt32 &&& Int32.toUInt32 31)).toInt32) i = bt x (n + i) := by
  show (x.toUInt32 >>> ((nI n).toUInt32 &&& Int32.toUInt32 31)).toBitVec.getLsbD i = x.toUInt32.toBitVec.getLsbD (n + i)
  rw [UInt32.toBitVec_shiftRight]
  show (x.toUInt32.toBitVec >>> (((nI n).toUInt32 &&& Int32.toUInt32 31).toBitVec % 32).toNat).getLsbD i = _
  rw [s_u n hn, BitVec.getLsbD_ushiftRight]
theorem b_sshr (n : Nat) (hn : n < 32) (x : Int32) {i : Nat} (hi : i < 32) : bt (x >>> (nI n &&& 31)) i = if n + i < 32 then bt x (n + i) else bt x 31 := by
  unfold bt
  rw [Int32.toBitVec_shiftRight]
  show (x.toBitVec.sshiftRight ((nI n &&& 31).toBitVec.smod 32).toNat).getLsbD i = _
  rw [s_l n hn, BitVec.getLsbD_sshiftRight, BitVec.msb_eq_getLsbD_last]
  simp [hi]
theorem b_shl8 (x : Int32) {i : Nat} (hi : i < 32) : bt (x <<< ((8 : Int32) &&& 31)) i = (decide (8 ≤ i) && bt x (i - 8)) := b_shl 8 (by omega) x hi
theorem b_shl16 (x : Int32) {i : Nat} (hi : i < 32) : bt (x <<< ((16 : Int32) &&& 31)) i = (decide (16 ≤ i) && bt x (i - 16)) := b_shl 16 (by omega) x hi
theorem b_shl24 (x : Int32) {i : Nat} (hi : i < 32) : bt (x <<< ((24 : Int32) &&& 31)) i = (decide (24 ≤ i) && bt x (i - 24)) := b_shl 24 (by omega) x hi
theorem b_sshr8 (x : Int32) {i : Nat} (hi : i < 32) : bt (x >>> ((8 : Int32) &&& 31)) i = if 8 + i < 32 then bt x (8 + i) else bt x 31 := b_sshr 8 (by omega) x hi
theorem zb_1 (k : Nat) : bt 1 k = decide (k = 0) := by
  rcases Nat.lt_or_ge k 32 with h | h
  · exact (by decide +kernel : ∀ i, i < 32 → bt 1 i = decide (i = 0)) k h
  · rw [b_big h, decide_eq_false (by omega)]
theorem zb_sh {l : Nat} (hl : l < 32) (i : Nat) : bt ((1 : Int32) <<< (nI l &&& 31)) i = decide (i = l) := by
  rcases Nat.lt_or_ge i 32 with h | h
  · rw [b_shl l hl 1 h, zb_1]
    rcases Nat.lt_or_ge i l with h2 | h2
    · rw [decide_eq_false (by omega : ¬ l ≤ i), decide_eq_false (by omega : ¬ i = l)]
      rfl
    · rw [decide_eq_true h2, Bool.true_and]
      by_cases e : i = l
      · rw [decide_eq_true e, decide_eq_true (by omega)]
      · rw [decide_eq_false e, decide_eq_false (by omega)]
  · rw [b_big h, decide_eq_false (by omega)]
theorem zb_con (x : Int32) {l : Nat} (hl : l < 32) : (x &&& ((1 : Int32) <<< (nI l &&& 31))) = 0 ↔ bt x l = false := by
  constructor
  · intro h
    have e := congrArg (fun z => bt z l) h
    rw [b_and, zb_sh hl, b_0, decide_eq_true rfl, Bool.and_true] at e
    exact e
  · intro h
    apply b_ext
    intro i _
    rw [b_and, zb_sh hl, b_0]
    by_cases e : i = l
    · subst e; rw [h]; rfl
    · rw [decide_eq_false e, Bool.and_false]
theorem zb_rs (x : Int32) {l : Nat} (hl : l < 32) : ((x >>> (nI l &&& 31)) &&& 1) = 0 ↔ bt x l = false := by
  have h0 : bt (x >>> (nI l &&& 31)) 0 = bt x l := by
    rw [b_sshr l hl x (by omega), if_pos (by omega)]
    rfl
  constructor
  · intro h
    have e := congrArg (fun z => bt z 0) h
    rw [b_and, zb_1, b_0, h0, decide_eq_true rfl, Bool.and_true] at e
    exact e
  · intro h
    apply b_ext
    intro i _
    rw [b_and, zb_1, b_0]
    by_cases e : i = 0
    · subst e; rw [h0, h]; rfl
    · rw [decide_eq_false e, Bool.and_false]
theorem zb_set (x : Int32) {l : Nat} (hl : l < 32) (i : Nat) : bt (x ||| ((1 : Int32) <<< (nI l &&& 31))) i = (bt x i || decide (i = l)) := by
  rw [b_or, zb_sh hl]
theorem zb_clr (x : Int32) {l : Nat} (hl : l < 32) (i : Nat) : bt (x &&& (((1 : Int32) <<< (nI l &&& 31)) ^^^ (-1))) i = (bt x i && !decide (i = l)) := by
  rw [b_and, b_xor, zb_sh hl]
  rcases Nat.lt_or_ge i 32 with h | h
  · rw [b_m1 i h, Bool.xor_true]
  · rw [b_big h, Bool.false_and, Bool.false_and]
theorem zb_nI (m i : Nat) : bt (nI m) i = (decide (i < 32) && m.testBit i) := by
  show (BitVec.ofNat 32 m).getLsbD i = _
  rw [BitVec.getLsbD_ofNat]
theorem zb_eq (x : Int32) : x = nI x.toBitVec.toNat := Int32.toBitVec_inj.mp (by show _ = BitVec.ofNat 32 _; simp)
theorem zb_lt {x : Int32} {R : Nat} (h : ∀ i, R ≤ i → bt x i = false) : x.toBitVec.toNat < 2 ^ R := by
  apply Nat.lt_pow_two_of_testBit
  intro i hi
  rw [BitVec.testBit_toNat]
  exact h i hi
theorem zb_of {x : Int32} {R : Nat} (h : ∀ i, R ≤ i → bt x i = false) : ∃ m : Nat, m < 2 ^ R ∧ x = nI m := ⟨_, zb_lt h, zb_eq x⟩
theorem zb_hi {m R : Nat} (h : m < 2 ^ R) {i : Nat} (hi : R ≤ i) : bt (nI m) i = false := by
  rw [zb_nI, Nat.testBit_lt_two_pow (Nat.lt_of_lt_of_le h (Nat.pow_le_pow_right (by omega) hi)), Bool.and_false]
theorem zb_p8 {R : Nat} (h : R ≤ 8) : 2 ^ R ≤ 256 := Nat.pow_le_pow_right (n := 2) (by omega) h
theorem zb_255 {m : Nat} (h : m < 256) : nI m &&& 255 = nI m := by
  rw [pk_andN (by omega) 8 (by decide), Nat.mod_eq_of_lt h]
theorem zb_nt {x : Bool} (h : ¬ x = true) : x = false := by cases x <;> first | rfl | exact absurd rfl h
theorem zb_nf {x : Bool} (h : ¬ x = false) : x = true := by cases x <;> first | rfl | exact absurd rfl h
def zx_ex (cl : Nat → Int32) (s : Int32) : Nat → Int32
  | 0 => 0
  | r + 1 => if bt s r = true then zx_ex cl s r ||| cl r else zx_ex cl s r
theorem zx_exb (cl : Nat → Int32) (s : Int32) (j : Nat) : ∀ R : Nat, bt (zx_ex cl s R) j = true ↔ ∃ r, r < R ∧ bt s r = true ∧ bt (cl r) j = true := by
  intro R
  induction R with
  | zero =>
    constructor
    · intro h
      rw [show zx_ex cl s 0 = 0 from rfl, b_0] at h
      exact absurd h (by decide)
    · intro ⟨r, hr, _⟩
      omega
  | succ R ih =>
    by_cases hb : bt s R = true
    · rw [show zx_ex cl s (R + 1) = zx_ex cl s R ||| cl R from if_pos hb, b_or, Bool.or_eq_true, ih]
      constructor
      · rintro (⟨r, h1, h2, h3⟩ | h)
        · exact ⟨r, by omega, h2, h3⟩
        · exact ⟨R, by omega, hb, h⟩
      · intro ⟨r, h1, h2, h3⟩
        rcases Nat.lt_or_ge r R with h | h
        · exact Or.inl ⟨r, h, h2, h3⟩
        · have e : r = R := by omega
          subst e
          exact Or.inr h3
    · rw [show zx_ex cl s (R + 1) = zx_ex cl s R from if_neg hb, ih]
      constructor
      · intro ⟨r, h1, h2, h3⟩
        exact ⟨r, by omega, h2, h3⟩
      · intro ⟨r, h1, h2, h3⟩
        rcases Nat.lt_or_ge r R with h | h
        · exact ⟨r, h, h2, h3⟩
        · have e : r = R := by omega
          subst e
          exact absurd h2 hb
theorem zx_exc {cl cl' : Nat → Int32} (s : Int32) : ∀ R : Nat, (∀ r, r < R → cl r = cl' r) → zx_ex cl s R = zx_ex cl' s R := by
  intro R
  induction R with
  | zero => exact fun _ => rfl
  | succ R ih =>
    intro h
    show (if bt s R = true then zx_ex cl s R ||| cl R else zx_ex cl s R) = (if bt s R = true then zx_ex cl' s R ||| cl' R else zx_ex cl' s R)
    rw [ih (fun r hr => h r (by omega)), h R (by omega)]
end
section
noncomputable def zc_n (p : Nat → Prop) : Nat → Nat
  | 0 => 0
  | m + 1 => zc_n p m + @ite Nat (p m) (Classical.propDecidable _) 1 0
theorem zc_s1 {p : Nat → Prop} {m : Nat} (h : p m) : zc_n p (m + 1) = zc_n p m + 1 := by
  show zc_n p m + @ite Nat (p m) (Classical.propDecidable _) 1 0 = _
  rw [if_pos h]
theorem zc_s0 {p : Nat → Prop} {m : Nat} (h : ¬ p m) : zc_n p (m + 1) = zc_n p m := by
  show zc_n p m + @ite Nat (p m) (Classical.propDecidable _) 1 0 = _
  rw [if_neg h]
  rfl
theorem zc_le (p : Nat → Prop) : ∀ m : Nat, zc_n p m ≤ m := by
  intro m
  induction m with
  | zero => exact Nat.le_refl _
  | succ m ih =>
    by_cases h : p m
    · rw [zc_s1 h]; omega
    · rw [zc_s0 h]; omega
theorem zc_mono {p q : Nat → Prop} : ∀ m : Nat, (∀ j, j < m → p j → q j) → zc_n p m ≤ zc_n q m := by
  intro m
  induction m with
  | zero => intro _; exact Nat.le_refl _
  | succ m ih =>
    intro h
    have i := ih (fun j hj => h j (by omega))
    by_cases hp : p m
    · rw [zc_s1 hp, zc_s1 (h m (by omega) hp)]; omega
    · rw [zc_s0 hp]
      by_cases hq : q m
      · rw [zc_s1 hq]; omega
      · rw [zc_s0 hq]; exact i
theorem zc_lt {p q : Nat → Prop} : ∀ m : Nat, (∀ j, j < m → p j → q j) → ∀ j, j < m → q j → ¬ p j → zc_n p m < zc_n q m := by
  intro m
  induction m with
  | zero => intro _ j hj; omega
  | succ m ih =>
    intro h j hj hq hp
    have i := zc_mono m (fun j hj => h j (by omega))
    rcases Nat.lt_or_ge j m with hl | hl
    · have i2 := ih (fun j hj => h j (by omega)) j hl hq hp
      by_cases hpm : p m
      · rw [zc_s1 hpm, zc_s1 (h m (by omega) hpm)]; omega
      · rw [zc_s0 hpm]
        by_cases hqm : q m
        · rw [zc_s1 hqm]; omega
        · rw [zc_s0 hqm]; exact i2
    · have e : j = m := by omega
      subst e
      rw [zc_s0 hp, zc_s1 hq]; omega
/-! walks of at most n edges from r -/
def zw_d (E : Nat → Nat → Prop) (r : Nat) : Nat → Nat → Prop
  | 0 => fun j => r = j
  | n + 1 => fun j => zw_d E r n j ∨ ∃ m, zw_d E r n m ∧ E m j
def zw_r (E : Nat → Nat → Prop) (r j : Nat) : Prop := ∃ n : Nat, zw_d E r n j
theorem zw_le {E : Nat → Nat → Prop} {r n : Nat} : ∀ {m j : Nat}, n ≤ m → zw_d E r n j → zw_d E r m j := by
  intro m
  induction m with
  | zero =>
    intro j h z
    have e : n = 0 := by omega
    subst e
    exact z
  | succ m ih =>
    intro j h z
    rcases Nat.lt_or_ge m n with h2 | h2
    · have e : n = m + 1 := by omega
      subst e
      exact z
    · exact Or.inl (ih h2 z)
theorem zw_in {E : Nat → Nat → Prop} {R r : Nat} (hE : ∀ a b, E a b → b < R) (hr : r < R) : ∀ {n j : Nat}, zw_d E r n j → j < R := by
  intro n
  induction n with
  | zero =>
    intro j h
    have e : r = j := h
    omega
  | succ n ih =>
    intro j h
    rcases h with h | ⟨m, _, h⟩
    · exact ih h
    · exact hE _ _ h
theorem zw_fix {E : Nat → Nat → Prop} {r n : Nat} (h : ∀ j, zw_d E r (n + 1) j → zw_d E r n j) : ∀ (m j : Nat), zw_d E r m j → zw_d E r n j := by
  intro m
  induction m with
  | zero => exact fun j z => zw_le (Nat.zero_le _) z
  | succ m ih =>
    intro j z
    rcases z with z | ⟨a, z, e⟩
    · exact ih j z
    · exact h j (Or.inr ⟨a, ih a z, e⟩)
theorem zw_cut {E : Nat → Nat → Prop} {R r : Nat} (hE : ∀ a b, E a b → b < R) (hr : r < R) {m j : Nat} (h : zw_d E r m j) : zw_d E r R j := by
  by_cases H : ∃ n, n ≤ R ∧ ∀ j, zw_d E r (n + 1) j → zw_d E r n j
  · obtain ⟨n, hn, hf⟩ := H
    exact zw_le hn (zw_fix hf m j h)
  · have hg : ∀ n, n ≤ R + 1 → n ≤ zc_n (zw_d E r n) R := by
      intro n
      induction n with
      | zero => intro _; exact Nat.zero_le _
      | succ n ih =>
        intro hn
        have i := ih (by omega)
        have hx : ∃ j, zw_d E r (n + 1) j ∧ ¬ zw_d E r n j := by
          apply Classical.byContradiction
          intro hc
          apply H
          refine ⟨n, by omega, fun j hj => ?_⟩
          apply Classical.byContradiction
          intro hc2
          exact hc ⟨j, hj, hc2⟩
        obtain ⟨j, h1, h2⟩ := hx
        have := zc_lt (p := zw_d E r n) (q := zw_d E r (n + 1)) R (fun j _ z => Or.inl z) j (zw_in hE hr h1) h1 h2
        omega
    have a := hg (R + 1) (by omega)
    have b := zc_le (zw_d E r (R + 1)) R
    omega
theorem zw_tr {E : Nat → Nat → Prop} {a b n : Nat} (h : zw_d E a n b) : ∀ {m c : Nat}, zw_d E b m c → zw_d E a (n + m) c := by
  intro m
  induction m with
  | zero =>
    intro c z
    have e : b = c := z
    subst e
    exact h
  | succ m ih =>
    intro c z
    rcases z with z | ⟨x, z, e⟩
    · exact Or.inl (ih z)
    · exact Or.inr ⟨x, ih z, e⟩
theorem zw_rt {E : Nat → Nat → Prop} {a b c : Nat} (h : zw_r E a b) (z : zw_r E b c) : zw_r E a c := by
  obtain ⟨n, h⟩ := h
  obtain ⟨m, z⟩ := z
  exact ⟨n + m, zw_tr h z⟩
theorem zw_r0 {E : Nat → Nat → Prop} (a : Nat) : zw_r E a a := ⟨0, rfl⟩
theorem zw_1 {E : Nat → Nat → Prop} {a b : Nat} (h : E a b) : zw_d E a 1 b := Or.inr ⟨a, rfl, h⟩
theorem zw_r1 {E : Nat → Nat → Prop} {a b : Nat} (h : E a b) : zw_r E a b := ⟨1, zw_1 h⟩
theorem zw_rin {E : Nat → Nat → Prop} {R r j : Nat} (hE : ∀ a b, E a b → b < R) (hr : r < R) (h : zw_r E r j) : j < R := by
  obtain ⟨n, h⟩ := h
  exact zw_in hE hr h
theorem zw_rc {E : Nat → Nat → Prop} {R r j n : Nat} (hE : ∀ a b, E a b → b < R) (hr : r < R) (hn : R ≤ n) (h : zw_r E r j) : zw_d E r n j := by
  obtain ⟨m, h⟩ := h
  exact zw_le hn (zw_cut hE hr h)
/-! plans -/
def zp_run (ap : Nat → Nat → Prop) (go : Nat → Nat → Nat) : List Nat → Nat → Nat → Prop
  | [], s, t => s = t
  | i :: p, s, t => ap s i ∧ zp_run ap go p (go s i) t
def zp_code : List Nat → Nat
  | [] => 0
  | i :: p => (i + 1) * 17 ^ p.length + zp_code p
theorem zp_sn {ap : Nat → Nat → Prop} {go : Nat → Nat → Nat} {m i : Nat} : ∀ {p : List Nat} {s : Nat}, zp_run ap go p s m → ap m i → zp_run ap go (p ++ [i]) s (go m i) := by
  intro p
  induction p with
  | nil =>
    intro s h a
    have e : s = m := h
    subst e
    exact ⟨a, rfl⟩
  | cons x p ih =>
    intro s h a
    exact ⟨h.1, ih h.2 a⟩
theorem zp_cs (p : List Nat) (i : Nat) : zp_code (p ++ [i]) = 17 * zp_code p + i + 1 := by
  induction p with
  | nil =>
    show (i + 1) * 17 ^ 0 + 0 = 17 * 0 + i + 1
    omega
  | cons x p ih =>
    show (x + 1) * 17 ^ (p ++ [i]).length + zp_code (p ++ [i]) = 17 * ((x + 1) * 17 ^ p.length + zp_code p) + i + 1
    rw [ih, List.length_append, List.length_singleton, Nat.pow_succ, ← Nat.mul_assoc]
    generalize (x + 1) * 17 ^ p.length = z
    omega
theorem zp_dg {ap : Nat → Nat → Prop} {go : Nat → Nat → Nat} (hA : ∀ s i, ap s i → i < 16) : ∀ {p : List Nat} {s t : Nat}, zp_run ap go p s t → ∀ i, i ∈ p → i < 16 := by
  intro p
  induction p with
  | nil =>
    intro s t _ i hi
    exact absurd hi (List.not_mem_nil)
  | cons x p ih =>
    intro s t h i hi
    rcases List.mem_cons.mp hi with e | hi
    · subst e
      exact hA _ _ h.1
    · exact ih h.2 i hi
theorem zp_lt {p : List Nat} (h : ∀ i, i ∈ p → i < 16) : zp_code p < 17 ^ p.length := by
  induction p with
  | nil => show 0 < 17 ^ 0; omega
  | cons x p ih =>
    have i := ih (fun i hi => h i (List.mem_cons_of_mem _ hi))
    have hx := h x (List.mem_cons_self)
    show (x + 1) * 17 ^ p.length + zp_code p < 17 ^ (p.length + 1)
    have hm : (x + 1) * 17 ^ p.length ≤ 16 * 17 ^ p.length := Nat.mul_le_mul_right _ (by omega)
    rw [Nat.pow_succ]
    omega
theorem zp_ge (i : Nat) (p : List Nat) : 17 ^ p.length ≤ zp_code (i :: p) := by
  show 17 ^ p.length ≤ (i + 1) * 17 ^ p.length + zp_code p
  have hm : 1 * 17 ^ p.length ≤ (i + 1) * 17 ^ p.length := Nat.mul_le_mul_right _ (by omega)
  omega
theorem zp_ln {p q : List Nat} (h : ∀ i, i ∈ p → i < 16) (hl : p.length < q.length) : zp_code p < zp_code q := by
  cases q with
  | nil => exact absurd hl (Nat.not_lt_zero _)
  | cons x q =>
    have a := zp_lt h
    have b := zp_ge x q
    have c : 17 ^ p.length ≤ 17 ^ q.length := Nat.pow_le_pow_right (by omega) (by simp only [List.length_cons] at hl; omega)
    omega
def zp_min (ap : Nat → Nat → Prop) (go : Nat → Nat → Nat) (T : Nat → Prop) (s : Nat) (p : List Nat) : Prop :=
  (∃ t, zp_run ap go p s t ∧ T t) ∧ ∀ q t, zp_run ap go q s t → T t → zp_code p ≤ zp_code q
theorem zp_mlen {ap : Nat → Nat → Prop} {go : Nat → Nat → Nat} {T : Nat → Prop} (hA : ∀ s i, ap s i → i < 16) {s : Nat} {p : List Nat} (h : zp_min ap go T s p) {q : List Nat} {t : Nat} (hq : zp_run ap go q s t) (ht : T t) : p.length ≤ q.length := by
  rcases Nat.lt_or_ge q.length p.length with hl | hl
  · have a := zp_ln (zp_dg hA hq) hl
    have b := h.2 q t hq ht
    omega
  · exact hl
theorem zp_mtl {ap : Nat → Nat → Prop} {go : Nat → Nat → Nat} {T : Nat → Prop} (hA : ∀ s i, ap s i → i < 16) {s i : Nat} {p : List Nat} (h : zp_min ap go T s (i :: p)) : ap s i ∧ zp_min ap go T (go s i) p := by
  obtain ⟨⟨t, hr, ht⟩, hm⟩ := h
  refine ⟨hr.1, ⟨t, hr.2, ht⟩, fun q t' hq ht' => ?_⟩
  have a : (i + 1) * 17 ^ p.length + zp_code p ≤ (i + 1) * 17 ^ q.length + zp_code q := hm (i :: q) t' ⟨hr.1, hq⟩ ht'
  rcases Nat.lt_or_ge p.length q.length with hl | hl
  · exact Nat.le_of_lt (zp_ln (zp_dg hA hr.2) hl)
  · have c : (i + 1) * 17 ^ q.length ≤ (i + 1) * 17 ^ p.length := Nat.mul_le_mul_left _ (Nat.pow_le_pow_right (by omega) hl)
    omega
theorem zp_mfst {ap : Nat → Nat → Prop} {go : Nat → Nat → Nat} {T : Nat → Prop} (hA : ∀ s i, ap s i → i < 16) {s i : Nat} {p : List Nat} (h : zp_min ap go T s (i :: p)) {j : Nat} (hj : j < i) (ha : ap s j) {q : List Nat} {t : Nat} (hq : zp_run ap go q (go s j) t) (ht : T t) : q.length ≠ p.length := by
  intro hl
  have a : (i + 1) * 17 ^ p.length + zp_code p ≤ (j + 1) * 17 ^ q.length + zp_code q := h.2 (j :: q) t ⟨ha, hq⟩ ht
  have b := zp_lt (zp_dg hA hq)
  rw [hl] at a b
  have c : (j + 2) * 17 ^ p.length ≤ (i + 1) * 17 ^ p.length := Nat.mul_le_mul_right _ (by omega)
  have d : (j + 2) * 17 ^ p.length = (j + 1) * 17 ^ p.length + 17 ^ p.length := by rw [Nat.add_mul (j + 1) 1, Nat.one_mul]
  omega
/-! the queue's end: n found sets, in the order of their codes -/
def zp_end (ap : Nat → Nat → Prop) (go : Nat → Nat → Nat) (st n : Nat) (Q : Nat → Nat) (P : Nat → List Nat) : Prop :=
  0 < n ∧ Q 0 = st ∧ P st = [] ∧
  (∀ j, j < n → zp_run ap go (P (Q j)) st (Q j)) ∧
  (∀ i j, i < j → j < n → zp_code (P (Q i)) < zp_code (P (Q j))) ∧
  (∀ j i, j < n → ap (Q j) i → ∃ k, k < n ∧ Q k = go (Q j) i ∧ zp_code (P (go (Q j) i)) ≤ 17 * zp_code (P (Q j)) + i + 1)
theorem zp_all {ap : Nat → Nat → Prop} {go : Nat → Nat → Nat} {st n : Nat} {Q : Nat → Nat} {P : Nat → List Nat} (h : zp_end ap go st n Q P) : ∀ (q : List Nat) (s t c j : Nat), j < n → Q j = s → zp_code (P s) ≤ c → zp_run ap go q s t → ∃ k, k < n ∧ Q k = t ∧ zp_code (P t) ≤ c * 17 ^ q.length + zp_code q := by
  obtain ⟨_, _, _, _, _, hc⟩ := h
  intro q
  induction q with
  | nil =>
    intro s t c j hj hQ hcd hr
    have e : s = t := hr
    subst e
    refine ⟨j, hj, hQ, ?_⟩
    show zp_code (P s) ≤ c * 17 ^ 0 + 0
    omega
  | cons i q ih =>
    intro s t c j hj hQ hcd hr
    subst hQ
    obtain ⟨k, hk, hQk, hle⟩ := hc j i hj hr.1
    obtain ⟨k2, h1, h2, h3⟩ := ih (go (Q j) i) t (17 * c + i + 1) k hk hQk (by omega) hr.2
    refine ⟨k2, h1, h2, ?_⟩
    show zp_code (P t) ≤ c * 17 ^ (q.length + 1) + ((i + 1) * 17 ^ q.length + zp_code q)
    have e : (17 * c + i + 1) * 17 ^ q.length = c * 17 ^ (q.length + 1) + (i + 1) * 17 ^ q.length := by
      rw [Nat.pow_succ, Nat.add_assoc, Nat.add_mul, Nat.mul_comm 17 c, Nat.mul_assoc, Nat.mul_comm 17 (17 ^ q.length)]
    omega
theorem zp_fnd {ap : Nat → Nat → Prop} {go : Nat → Nat → Nat} {st n : Nat} {Q : Nat → Nat} {P : Nat → List Nat} (h : zp_end ap go st n Q P) {q : List Nat} {t : Nat} (hr : zp_run ap go q st t) : ∃ k, k < n ∧ Q k = t ∧ zp_code (P t) ≤ zp_code q := by
  obtain ⟨k, h1, h2, h3⟩ := zp_all h q st t 0 0 h.1 h.2.1 (by rw [h.2.2.1]; exact Nat.le_refl _) hr
  exact ⟨k, h1, h2, by omega⟩
theorem zp_fst {ap : Nat → Nat → Prop} {go : Nat → Nat → Nat} {T : Nat → Prop} {st n : Nat} {Q : Nat → Nat} {P : Nat → List Nat} (h : zp_end ap go st n Q P) {j : Nat} (hj : j < n) (hT : T (Q j)) (hn : ∀ i, i < j → ¬ T (Q i)) : zp_min ap go T st (P (Q j)) := by
  refine ⟨⟨Q j, h.2.2.2.1 j hj, hT⟩, fun q t hr ht => ?_⟩
  obtain ⟨k, h1, h2, h3⟩ := zp_fnd h hr
  subst h2
  rcases Nat.lt_or_ge k j with hl | hl
  · exact absurd ht (hn k hl)
  · rcases Nat.lt_or_ge j k with hl2 | hl2
    · have := h.2.2.2.2.1 j k hl2 h1
      omega
    · have e : k = j := by omega
      subst e
      exact h3
theorem zp_non {ap : Nat → Nat → Prop} {go : Nat → Nat → Nat} {T : Nat → Prop} {st n : Nat} {Q : Nat → Nat} {P : Nat → List Nat} (h : zp_end ap go st n Q P) (hn : ∀ i, i < n → ¬ T (Q i)) {q : List Nat} {t : Nat} (hr : zp_run ap go q st t) : ¬ T t := by
  obtain ⟨k, h1, h2, _⟩ := zp_fnd h hr
  subst h2
  exact hn k h1
/-! the least j, j < d + b, with g j, or -1 -/
def zl_f (g : Nat → Bool) : Nat → Nat → Int32
  | 0, _ => -1
  | d + 1, j => if g j = true then nI j else zl_f g d (j + 1)
end
section
/-! rules over role sets: s a set as a number, i a rule -/
def zr_ef (cl : Nat → Int32) (R s : Nat) : Int32 := zx_ex cl (nI s) R
def zr_x (rk rt : Nat → Int32) (x : Int32) (i : Nat) : Int32 := if rk i = 1 then x ||| ((1 : Int32) <<< (rt i &&& 31)) else x &&& (((1 : Int32) <<< (rt i &&& 31)) ^^^ (-1))
def zr_go (rk rt : Nat → Int32) (s i : Nat) : Nat := (zr_x rk rt (nI s) i).toNatClampNeg
def zr_ap (cnt R : Nat) (cl la rk rt rp rn : Nat → Int32) (s i : Nat) : Prop :=
  i < cnt ∧ ¬ la i = -1 ∧ (zr_ef cl R s &&& rp i) = rp i ∧ (zr_ef cl R s &&& rn i) = 0 ∧ bt (nI s) (rt i).toNatClampNeg = decide (¬ rk i = 1)
theorem zr_xb {rk rt : Nat → Int32} {x : Int32} {i R t : Nat} (hR : R ≤ 8) (ht : t < R) (e : rt i = nI t) (hx : ∀ j, R ≤ j → bt x j = false) : ∀ j, R ≤ j → bt (zr_x rk rt x i) j = false := by
  intro j hj
  unfold zr_x
  rw [e]
  by_cases h : rk i = 1
  · rw [if_pos h, zb_set x (by omega), hx j hj, decide_eq_false (by omega), Bool.or_self]
  · rw [if_neg h, zb_clr x (by omega), hx j hj, Bool.false_and]
theorem zr_goE {rk rt : Nat → Int32} {s i R t : Nat} (hR : R ≤ 8) (ht : t < R) (e : rt i = nI t) (hs : s < 2 ^ R) : nI (zr_go rk rt s i) = zr_x rk rt (nI s) i ∧ zr_go rk rt s i < 2 ^ R := by
  obtain ⟨m, hm, he⟩ := zb_of (zr_xb (rk := rk) hR ht e (fun j hj => zb_hi hs hj))
  have h8 := zb_p8 hR
  have h2 : zr_go rk rt s i = m := by
    unfold zr_go
    rw [he, nI_clamp (by omega)]
  rw [h2, he]
  exact ⟨rfl, hm⟩
/-! the search's queue while set p is looked at and rule i is next -/
def zs_inv (ap : Nat → Nat → Prop) (go : Nat → Nat → Nat) (st R : Nat) (ds pv ar fs : Nat → Int32) (n p i : Nat) (Q : Nat → Nat) (P : Nat → List Nat) : Prop :=
  p < n ∧ n ≤ 256 ∧ n ≤ zc_n (fun s => ¬ ds s = -1) 256 ∧ Q 0 = st ∧ P st = [] ∧
  (∀ j, j < n → Q j < 2 ^ R ∧ fs j = nI (Q j) ∧ ds (Q j) = nI (P (Q j)).length ∧ (P (Q j)).length ≤ j ∧ zp_run ap go (P (Q j)) st (Q j) ∧ zp_code (P (Q j)) ≤ 17 * zp_code (P (Q p)) + i) ∧
  (∀ s, s < 256 → ds s = -1 ∨ ∃ j, j < n ∧ Q j = s) ∧
  (∀ a b, a < b → b < n → zp_code (P (Q a)) < zp_code (P (Q b))) ∧
  (∀ j, j < n → j = 0 ∨ ∃ k r, k < j ∧ pv (Q j) = nI (Q k) ∧ ar (Q j) = nI r ∧ P (Q j) = P (Q k) ++ [r] ∧ ap (Q k) r) ∧
  (∀ j r, j < p ∨ (j = p ∧ r < i) → ap (Q j) r → ∃ k, k < n ∧ Q k = go (Q j) r ∧ zp_code (P (go (Q j) r)) ≤ 17 * zp_code (P (Q j)) + r + 1)
def zs_fin (ap : Nat → Nat → Prop) (go : Nat → Nat → Nat) (st R : Nat) (ds pv ar fs : Nat → Int32) (n : Nat) (Q : Nat → Nat) (P : Nat → List Nat) : Prop :=
  zp_end ap go st n Q P ∧ n ≤ 256 ∧
  (∀ j, j < n → Q j < 2 ^ R ∧ fs j = nI (Q j) ∧ ds (Q j) = nI (P (Q j)).length ∧ (P (Q j)).length ≤ j) ∧
  (∀ j, j < n → j = 0 ∨ ∃ k r, k < j ∧ pv (Q j) = nI (Q k) ∧ ar (Q j) = nI r ∧ P (Q j) = P (Q k) ++ [r] ∧ ap (Q k) r)
theorem zs_m1 {n : Nat} (h : n < 2 ^ 31) : ¬ nI n = -1 := by
  intro e
  have a := congrArg Int32.toInt e
  rw [nI_toInt h, show (-1 : Int32).toInt = -1 from by decide] at a
  omega
theorem zs_0 {ap : Nat → Nat → Prop} {go : Nat → Nat → Nat} {st R : Nat} {ds pv ar fs : Nat → Int32} (hst : st < 2 ^ R) (h8 : 2 ^ R ≤ 256) (hd : ∀ s, s < 256 → ds s = -1) : zs_inv ap go st R (upd ds st 0) pv ar (upd fs 0 (nI st)) 1 0 0 (fun _ => st) (fun _ => []) := by
  have hz : ¬ (0 : Int32) = -1 := by decide
  refine ⟨by omega, by omega, ?_, rfl, rfl, ?_, ?_, ?_, ?_, ?_⟩
  · have h := zc_lt (p := fun _ => False) (q := fun s => ¬ upd ds st 0 s = -1) 256 (fun j _ z => z.elim) st (by omega) (by rw [pk_us]; exact hz) (fun z => z)
    omega
  · intro j hj
    have e : j = 0 := by omega
    subst e
    refine ⟨hst, pk_us, ?_, Nat.le_refl _, rfl, Nat.zero_le _⟩
    show upd ds st 0 st = nI 0
    rw [pk_us]
    rfl
  · intro s hs
    by_cases e : s = st
    · exact Or.inr ⟨0, by omega, e.symm⟩
    · exact Or.inl (by rw [pk_un e]; exact hd s hs)
  · intro a b _ _
    omega
  · intro j hj
    exact Or.inl (by omega)
  · intro j r h
    omega
theorem zs_skip {ap : Nat → Nat → Prop} {go : Nat → Nat → Nat} {st R : Nat} {ds pv ar fs : Nat → Int32} {n p i : Nat} {Q : Nat → Nat} {P : Nat → List Nat} (h : zs_inv ap go st R ds pv ar fs n p i Q P) (ha : ap (Q p) i → ∃ k, k < n ∧ Q k = go (Q p) i) : zs_inv ap go st R ds pv ar fs n p (i + 1) Q P := by
  obtain ⟨h1, h2, h3, h4, h5, h6, h7, h8, h9, h10⟩ := h
  refine ⟨h1, h2, h3, h4, h5, ?_, h7, h8, h9, ?_⟩
  · intro j hj
    obtain ⟨a, b, c, d, e, f⟩ := h6 j hj
    exact ⟨a, b, c, d, e, by omega⟩
  · intro j r hjr hap
    by_cases hc : j < p ∨ (j = p ∧ r < i)
    · exact h10 j r hc hap
    · have e1 : j = p := by omega
      have e2 : r = i := by omega
      subst e1 e2
      obtain ⟨k, hk, hQ⟩ := ha hap
      refine ⟨k, hk, hQ, ?_⟩
      rw [← hQ]
      have := (h6 k hk).2.2.2.2.2
      omega
theorem zs_room {ap : Nat → Nat → Prop} {go : Nat → Nat → Nat} {st R : Nat} {ds pv ar fs : Nat → Int32} {n p i : Nat} {Q : Nat → Nat} {P : Nat → List Nat} (h : zs_inv ap go st R ds pv ar fs n p i Q P) {t : Nat} (ht : t < 256) (hd : ds t = -1) : n < 256 := by
  have a := zc_lt (p := fun s => ¬ ds s = -1) (q := fun _ => True) 256 (fun _ _ _ => True.intro) t ht True.intro (fun z => z hd)
  have b := zc_le (fun _ => True) 256
  have c := h.2.2.1
  omega
theorem zs_new {ap : Nat → Nat → Prop} {go : Nat → Nat → Nat} {st R : Nat} {ds pv ar fs : Nat → Int32} {n p i : Nat} {Q : Nat → Nat} {P : Nat → List Nat} (h : zs_inv ap go st R ds pv ar fs n p i Q P) (h256 : 2 ^ R ≤ 256) (ha : ap (Q p) i) (hg : go (Q p) i < 2 ^ R) (hd : ds (go (Q p) i) = -1) :
    ∃ (Q' : Nat → Nat) (P' : Nat → List Nat), Q' p = Q p ∧ zs_inv ap go st R (upd ds (go (Q p) i) (ds (Q p) + 1)) (upd pv (go (Q p) i) (nI (Q p))) (upd ar (go (Q p) i) (nI i)) (upd fs n (nI (go (Q p) i))) (n + 1) p (i + 1) Q' P' := by
  have hn := zs_room h (by omega) hd
  obtain ⟨h1, h2, h3, h4, h5, h6, h7, h8, h9, h10⟩ := h
  generalize hgt : go (Q p) i = t at hg hd
  have hne : ∀ j, j < n → Q j ≠ t := by
    intro j hj e
    obtain ⟨_, _, c, d, _⟩ := h6 j hj
    have c2 : ds t = nI (P (Q j)).length := by rw [← e]; exact c
    exact zs_m1 (by omega) (c2.symm.trans hd)
  have hQ : ∀ j, j < n → (fun j => if j = n then t else Q j) j = Q j := fun j hj => if_neg (by omega)
  have hQn : (fun j => if j = n then t else Q j) n = t := if_pos rfl
  have hP : ∀ j, j < n → (fun s => if s = t then P (Q p) ++ [i] else P s) (Q j) = P (Q j) := fun j hj => if_neg (hne j hj)
  have hPt : (fun s => if s = t then P (Q p) ++ [i] else P s) t = P (Q p) ++ [i] := if_pos rfl
  generalize hq : (fun j => if j = n then t else Q j) = Q' at hQ hQn
  generalize hp : (fun s => if s = t then P (Q p) ++ [i] else P s) = P' at hP hPt
  obtain ⟨p1, p2, p3, p4, p5, p6⟩ := h6 p h1
  have hlast : ∀ j, j < n + 1 → ¬ j < n → j = n := by intro j a b; omega
  refine ⟨Q', P', hQ p h1, by omega, by omega, ?_, ?_, ?_, ?_, ?_, ?_, ?_, ?_⟩
  · have a := zc_lt (p := fun s => ¬ ds s = -1) (q := fun s => ¬ upd ds t (ds (Q p) + 1) s = -1) 256 (by
      intro j _ z
      by_cases e : j = t
      · subst e
        exact absurd hd z
      · rw [pk_un e]
        exact z) t (by omega) (by
      rw [pk_us, p3, nI_1]
      exact zs_m1 (by omega)) (fun z => z hd)
    omega
  · rw [hQ 0 (by omega)]
    exact h4
  · have e := hP 0 (by omega)
    rw [h4] at e
    rw [e]
    exact h5
  · intro j hj
    rw [hQ p h1, hP p h1]
    by_cases hjn : j < n
    · obtain ⟨a, b, c, d, e, f⟩ := h6 j hjn
      rw [hQ j hjn, hP j hjn, pk_un (by omega), pk_un (hne j hjn)]
      exact ⟨a, b, c, d, e, by omega⟩
    · have e := hlast j hj hjn
      subst e
      rw [hQn, hPt, pk_us, pk_us, List.length_append, List.length_singleton, zp_cs]
      refine ⟨hg, rfl, by rw [p3, nI_1], by omega, ?_, by omega⟩
      rw [← hgt]
      exact zp_sn p5 ha
  · intro s hs
    by_cases e : s = t
    · exact Or.inr ⟨n, by omega, by rw [hQn]; exact e.symm⟩
    · rw [pk_un e]
      rcases h7 s hs with z | ⟨j, hj, z⟩
      · exact Or.inl z
      · exact Or.inr ⟨j, by omega, by rw [hQ j hj]; exact z⟩
  · intro a b hab hb
    rw [hQ a (by omega), hP a (by omega)]
    by_cases hbn : b < n
    · rw [hQ b hbn, hP b hbn]
      exact h8 a b hab hbn
    · have e := hlast b hb hbn
      subst e
      rw [hQn, hPt, zp_cs]
      have := (h6 a hab).2.2.2.2.2
      omega
  · intro j hj
    by_cases hjn : j < n
    · rcases h9 j hjn with z | ⟨k, r, hk, z1, z2, z3, z4⟩
      · exact Or.inl z
      · refine Or.inr ⟨k, r, hk, ?_, ?_, ?_, ?_⟩
        · rw [hQ j hjn, hQ k (by omega), pk_un (hne j hjn)]
          exact z1
        · rw [hQ j hjn, pk_un (hne j hjn)]
          exact z2
        · rw [hQ j hjn, hQ k (by omega), hP j hjn, hP k (by omega)]
          exact z3
        · rw [hQ k (by omega)]
          exact z4
    · have e := hlast j hj hjn
      subst e
      refine Or.inr ⟨p, i, h1, ?_, ?_, ?_, ?_⟩
      · rw [hQn, pk_us, hQ p h1]
      · rw [hQn, pk_us]
      · rw [hQn, hPt, hQ p h1, hP p h1]
      · rw [hQ p h1]
        exact ha
  · intro j r hjr hap
    have hj : j < n := by omega
    rw [hQ j hj] at hap
    rw [hQ j hj, hP j hj]
    by_cases hc : j < p ∨ (j = p ∧ r < i)
    · obtain ⟨k, hk, z1, z2⟩ := h10 j r hc hap
      refine ⟨k, by omega, by rw [hQ k hk]; exact z1, ?_⟩
      rw [← z1, hP k hk, z1]
      exact z2
    · have e1 : j = p := by omega
      have e2 : r = i := by omega
      subst e1 e2
      refine ⟨n, by omega, by rw [hQn, hgt], ?_⟩
      rw [hgt, hPt, zp_cs]
      exact Nat.le_refl _
theorem zs_next {ap : Nat → Nat → Prop} {go : Nat → Nat → Nat} {st R : Nat} {ds pv ar fs : Nat → Int32} {n p c : Nat} {Q : Nat → Nat} {P : Nat → List Nat} (h : zs_inv ap go st R ds pv ar fs n p c Q P) (hc : c ≤ 16) (hA : ∀ s i, ap s i → i < c) (hp : p + 1 < n) : zs_inv ap go st R ds pv ar fs n (p + 1) 0 Q P := by
  obtain ⟨h1, h2, h3, h4, h5, h6, h7, h8, h9, h10⟩ := h
  refine ⟨hp, h2, h3, h4, h5, ?_, h7, h8, h9, ?_⟩
  · intro j hj
    obtain ⟨a, b, c1, d, e, f⟩ := h6 j hj
    have := h8 p (p + 1) (by omega) hp
    exact ⟨a, b, c1, d, e, by omega⟩
  · intro j r hjr hap
    have hr := hA _ _ hap
    exact h10 j r (by omega) hap
theorem zs_end {ap : Nat → Nat → Prop} {go : Nat → Nat → Nat} {st R : Nat} {ds pv ar fs : Nat → Int32} {n p c : Nat} {Q : Nat → Nat} {P : Nat → List Nat} (h : zs_inv ap go st R ds pv ar fs n p c Q P) (hA : ∀ s i, ap s i → i < c) (hp : ¬ p + 1 < n) : zs_fin ap go st R ds pv ar fs n Q P := by
  obtain ⟨h1, h2, h3, h4, h5, h6, h7, h8, h9, h10⟩ := h
  refine ⟨⟨by omega, h4, h5, fun j hj => (h6 j hj).2.2.2.2.1, h8, ?_⟩, h2, ?_, h9⟩
  · intro j r hj hap
    have hr := hA _ _ hap
    exact h10 j r (by omega) hap
  · intro j hj
    obtain ⟨a, b, c1, d, e, f⟩ := h6 j hj
    exact ⟨a, b, c1, d⟩
/-! what a plan writes -/
def zs_put (f : Nat → Int32) (w : Nat → Int32) (p : List Nat) : Nat → Int32 := fun x => if x < p.length then f (p.getD x 0) else w x
theorem zs_put0 (f w : Nat → Int32) : zs_put f w [] = w := by
  funext x
  exact if_neg (Nat.not_lt_zero x)
theorem zs_putV (f w : Nat → Int32) (p : List Nat) (r x : Nat) : zs_put f w (p ++ [r]) x = if x < p.length then f (p.getD x 0) else if x = p.length then f r else w x := by
  unfold zs_put
  rw [List.length_append, List.length_singleton]
  rcases Nat.lt_or_ge x p.length with h | h
  · rw [if_pos (by omega), if_pos h, List.getD_eq_getElem?_getD, List.getElem?_append_left h, List.getD_eq_getElem?_getD]
  · rw [if_neg (by omega : ¬ x < p.length)]
    by_cases e : x = p.length
    · rw [if_pos (by omega), if_pos e, List.getD_eq_getElem?_getD, List.getElem?_append_right h, e, Nat.sub_self]
      rfl
    · rw [if_neg (by omega), if_neg e]
theorem zs_putS (f w : Nat → Int32) (p : List Nat) (r : Nat) : zs_put f (upd w p.length (f r)) p = zs_put f w (p ++ [r]) := by
  funext x
  rw [zs_putV]
  show (if x < p.length then f (p.getD x 0) else upd w p.length (f r) x) = _
  by_cases h : x < p.length
  · rw [if_pos h, if_pos h]
  · rw [if_neg h, if_neg h]
    rfl
theorem zs_putF (f w : Nat → Int32) (p : List Nat) (r : Nat) : upd (zs_put f w p) p.length (f r) = zs_put f w (p ++ [r]) := by
  funext x
  rw [zs_putV]
  by_cases e : x = p.length
  · rw [e, pk_us, if_neg (by omega), if_pos rfl]
  · rw [pk_un e]
    show (if x < p.length then f (p.getD x 0) else w x) = _
    rw [if_neg e]
end
section
/-! the reference's way: d s the length of some plan from s, or 100000 -/
def zy_snd (ap : Nat → Nat → Prop) (go : Nat → Nat → Nat) (T : Nat → Prop) (R : Nat) (d : Nat → Nat) : Prop :=
  ∀ s, s < 2 ^ R → d s ≤ 100000 ∧ (d s < 100000 → ∃ q t, zp_run ap go q s t ∧ T t ∧ q.length = d s)
def zy_cmp (ap : Nat → Nat → Prop) (go : Nat → Nat → Nat) (T : Nat → Prop) (R : Nat) (d : Nat → Nat) (m : Nat) : Prop :=
  ∀ q s t, s < 2 ^ R → zp_run ap go q s t → T t → q.length ≤ m → d s ≤ q.length
def zy_pas (ap : Nat → Nat → Prop) (go : Nat → Nat → Nat) (R : Nat) (d0 d : Nat → Nat) (x : Nat) : Prop :=
  (∀ s, s < 2 ^ R → d s ≤ d0 s) ∧ (∀ s i, s < 2 ^ R → i < 16 → 16 * s + i < x → ap s i → d s ≤ d0 (go s i) + 1)
theorem zy_p0 {ap : Nat → Nat → Prop} {go : Nat → Nat → Nat} {R : Nat} (d : Nat → Nat) : zy_pas ap go R d d 0 := ⟨fun _ _ => Nat.le_refl _, fun _ _ _ _ h => by omega⟩
theorem zy_pskip {ap : Nat → Nat → Prop} {go : Nat → Nat → Nat} {R : Nat} {d0 d : Nat → Nat} {s i : Nat} (hg : ∀ s i, s < 2 ^ R → ap s i → go s i < 2 ^ R) (h : zy_pas ap go R d0 d (16 * s + i)) (hi : i < 16) (hs : s < 2 ^ R) (ha : ap s i → ¬ d (go s i) + 1 < d s) : zy_pas ap go R d0 d (16 * s + i + 1) := by
  refine ⟨h.1, fun s' i' hs' hi' hl hap => ?_⟩
  by_cases hc : 16 * s' + i' < 16 * s + i
  · exact h.2 s' i' hs' hi' hc hap
  · have e1 : s' = s := by omega
    have e2 : i' = i := by omega
    subst e1 e2
    have a := ha hap
    have b := h.1 (go s' i') (hg _ _ hs' hap)
    omega
theorem zy_pset {ap : Nat → Nat → Prop} {go : Nat → Nat → Nat} {R : Nat} {d0 d : Nat → Nat} {s i : Nat} (hg : ∀ s i, s < 2 ^ R → ap s i → go s i < 2 ^ R) (h : zy_pas ap go R d0 d (16 * s + i)) (hi : i < 16) (hs : s < 2 ^ R) (ha : ap s i) (hl : d (go s i) + 1 < d s) : zy_pas ap go R d0 (fun x => if x = s then d (go s i) + 1 else d x) (16 * s + i + 1) := by
  have b := h.1 (go s i) (hg _ _ hs ha)
  have b0 := h.1 s hs
  refine ⟨fun s' hs' => ?_, fun s' i' hs' hi' hl' hap => ?_⟩
  · dsimp only
    by_cases e : s' = s
    · rw [if_pos e, e]; omega
    · rw [if_neg e]; exact h.1 s' hs'
  · dsimp only
    by_cases hc : 16 * s' + i' < 16 * s + i
    · have a := h.2 s' i' hs' hi' hc hap
      by_cases e : s' = s
      · rw [if_pos e]
        rw [e] at a ⊢
        omega
      · rw [if_neg e]; exact a
    · have e1 : s' = s := by omega
      have e2 : i' = i := by omega
      subst e1 e2
      rw [if_pos rfl]
      omega
theorem zy_sset {ap : Nat → Nat → Prop} {go : Nat → Nat → Nat} {T : Nat → Prop} {R : Nat} {d : Nat → Nat} {s i : Nat} (hg : ∀ s i, s < 2 ^ R → ap s i → go s i < 2 ^ R) (h : zy_snd ap go T R d) (hs : s < 2 ^ R) (ha : ap s i) (hl : d (go s i) + 1 < d s) : zy_snd ap go T R (fun x => if x = s then d (go s i) + 1 else d x) := by
  intro s' hs'
  dsimp only
  by_cases e : s' = s
  · rw [if_pos e]
    subst e
    have a := (h s' hs').1
    obtain ⟨q, t, h1, h2, h3⟩ := (h (go s' i) (hg _ _ hs' ha)).2 (by omega)
    exact ⟨by omega, fun _ => ⟨i :: q, t, ⟨ha, h1⟩, h2, by rw [List.length_cons, h3]⟩⟩
  · rw [if_neg e]
    exact h s' hs'
theorem zy_pend {ap : Nat → Nat → Prop} {go : Nat → Nat → Nat} {T : Nat → Prop} {R : Nat} {d0 d : Nat → Nat} {m : Nat} (hA : ∀ s i, ap s i → i < 16) (hg : ∀ s i, s < 2 ^ R → ap s i → go s i < 2 ^ R) (h : zy_pas ap go R d0 d (16 * 2 ^ R)) (hc : zy_cmp ap go T R d0 m) : zy_cmp ap go T R d (m + 1) := by
  intro q s t hs hr hT hl
  cases q with
  | nil =>
    have a := hc [] s t hs hr hT (Nat.zero_le _)
    have b := h.1 s hs
    exact Nat.le_trans b a
  | cons i q =>
    have hi := hA _ _ hr.1
    have hgo := hg _ _ hs hr.1
    have a := hc q (go s i) t hgo hr.2 hT (by simp only [List.length_cons] at hl; omega)
    have b := h.2 s i hs hi (by omega) hr.1
    simp only [List.length_cons]
    omega
theorem zy_pfix {ap : Nat → Nat → Prop} {go : Nat → Nat → Nat} {T : Nat → Prop} {R : Nat} {d0 d : Nat → Nat} (hA : ∀ s i, ap s i → i < 16) (hg : ∀ s i, s < 2 ^ R → ap s i → go s i < 2 ^ R) (h : zy_pas ap go R d0 d (16 * 2 ^ R)) (he : ∀ s, s < 2 ^ R → d s = d0 s) (hc : zy_cmp ap go T R d0 0) (m : Nat) : zy_cmp ap go T R d m := by
  intro q
  induction q with
  | nil =>
    intro s t hs hr hT hl
    rw [he s hs]
    exact hc [] s t hs hr hT (Nat.zero_le _)
  | cons i q ih =>
    intro s t hs hr hT hl
    have hi := hA _ _ hr.1
    have hgo := hg _ _ hs hr.1
    have a := ih (go s i) t hgo hr.2 hT (by simp only [List.length_cons] at hl; omega)
    have b := h.2 s i hs hi (by omega) hr.1
    rw [he _ hgo] at a
    simp only [List.length_cons]
    omega
theorem zy_c0 {ap : Nat → Nat → Prop} {go : Nat → Nat → Nat} {T : Nat → Prop} {R : Nat} {d : Nat → Nat} (h : ∀ s, s < 2 ^ R → T s → d s = 0) : zy_cmp ap go T R d 0 := by
  intro q s t hs hr hT hl
  cases q with
  | nil =>
    have e : s = t := hr
    rw [h s hs (by rw [e]; exact hT)]
    exact Nat.zero_le _
  | cons i q => simp only [List.length_cons] at hl; omega
theorem zy_cle {ap : Nat → Nat → Prop} {go : Nat → Nat → Nat} {T : Nat → Prop} {R : Nat} {d : Nat → Nat} {m k : Nat} (h : zy_cmp ap go T R d m) (hk : k ≤ m) : zy_cmp ap go T R d k := fun q s t a b c e => h q s t a b c (by omega)
theorem zy_at {ap : Nat → Nat → Prop} {go : Nat → Nat → Nat} {T : Nat → Prop} {R : Nat} {d : Nat → Nat} (hA : ∀ s i, ap s i → i < 16) (h : zy_snd ap go T R d) (hc : zy_cmp ap go T R d 257) {s : Nat} (hs : s < 2 ^ R) {p : List Nat} (hm : zp_min ap go T s p) (hl : p.length ≤ 256) : d s = p.length := by
  obtain ⟨t, hr, hT⟩ := hm.1
  have a := hc p s t hs hr hT (by omega)
  obtain ⟨q, t', h1, h2, h3⟩ := (h s hs).2 (by omega)
  have b := zp_mlen hA hm h1 h2
  omega
theorem zy_not {ap : Nat → Nat → Prop} {go : Nat → Nat → Nat} {T : Nat → Prop} {R : Nat} {d : Nat → Nat} (hA : ∀ s i, ap s i → i < 16) (h : zy_snd ap go T R d) (hg : ∀ s i, s < 2 ^ R → ap s i → go s i < 2 ^ R) {s i : Nat} (hs : s < 2 ^ R) {p : List Nat} (hm : zp_min ap go T s (i :: p)) (hl : p.length < 100000) {j : Nat} (hj : j < i) (ha : ap s j) : d (go s j) ≠ p.length := by
  intro e
  obtain ⟨q, t', h1, h2, h3⟩ := (h (go s j) (hg _ _ hs ha)).2 (by omega)
  exact zp_mfst hA hm hj ha h1 h2 (by omega)
theorem zy_inf {ap : Nat → Nat → Prop} {go : Nat → Nat → Nat} {T : Nat → Prop} {R : Nat} {d : Nat → Nat} (h : zy_snd ap go T R d) {s : Nat} (hs : s < 2 ^ R) (hn : ∀ q t, zp_run ap go q s t → ¬ T t) : d s = 100000 := by
  have a := h s hs
  rcases Nat.lt_or_ge (d s) 100000 with hl | hl
  · obtain ⟨q, t, h1, h2, _⟩ := a.2 hl
    exact absurd h2 (hn q t h1)
  · omega
/-! seen sets -/
theorem zp_sp {ap : Nat → Nat → Prop} {go : Nat → Nat → Nat} : ∀ {q : List Nat} {s t : Nat}, zp_run ap go q s t → (q = [] ∧ s = t) ∨ ∃ q' i m, q = q' ++ [i] ∧ zp_run ap go q' s m ∧ ap m i ∧ go m i = t := by
  intro q
  induction q with
  | nil => exact fun h => Or.inl ⟨rfl, h⟩
  | cons x q ih =>
    intro s t h
    rcases ih h.2 with ⟨e, e2⟩ | ⟨q', i, m, e, h1, h2, h3⟩
    · subst e
      exact Or.inr ⟨[], x, s, rfl, rfl, h.1, e2⟩
    · subst e
      exact Or.inr ⟨x :: q', i, m, rfl, ⟨h.1, h1⟩, h2, h3⟩
theorem zp_ri {ap : Nat → Nat → Prop} {go : Nat → Nat → Nat} {R : Nat} (hg : ∀ s i, s < 2 ^ R → ap s i → go s i < 2 ^ R) : ∀ {q : List Nat} {s t : Nat}, s < 2 ^ R → zp_run ap go q s t → t < 2 ^ R := by
  intro q
  induction q with
  | nil =>
    intro s t hs h
    have e : s = t := h
    omega
  | cons x q ih =>
    intro s t hs h
    exact ih (hg _ _ hs h.1) h.2
def zy_rs (ap : Nat → Nat → Prop) (go : Nat → Nat → Nat) (st : Nat) (se : Nat → Int32) : Prop := ∀ s, s < 256 → ¬ se s = 0 → ∃ q, zp_run ap go q st s
def zy_rc (ap : Nat → Nat → Prop) (go : Nat → Nat → Nat) (st : Nat) (se : Nat → Int32) (m : Nat) : Prop := ∀ q t, zp_run ap go q st t → q.length ≤ m → ¬ se t = 0
def zy_rp (ap : Nat → Nat → Prop) (go : Nat → Nat → Nat) (R : Nat) (s0 se : Nat → Int32) (x : Nat) : Prop :=
  (∀ s, ¬ s0 s = 0 → ¬ se s = 0) ∧ (∀ s i, s < 2 ^ R → i < 16 → 16 * s + i < x → ¬ s0 s = 0 → ap s i → ¬ se (go s i) = 0)
theorem zy_r0 {ap : Nat → Nat → Prop} {go : Nat → Nat → Nat} {R : Nat} (se : Nat → Int32) : zy_rp ap go R se se 0 := ⟨fun _ h => h, fun _ _ _ _ h => by omega⟩
theorem zy_rskip {ap : Nat → Nat → Prop} {go : Nat → Nat → Nat} {R : Nat} {s0 se : Nat → Int32} {s i : Nat} (h : zy_rp ap go R s0 se (16 * s + i)) (hi : i < 16) (ha : ¬ se s = 0 → ap s i → ¬ se (go s i) = 0) : zy_rp ap go R s0 se (16 * s + i + 1) := by
  refine ⟨h.1, fun s' i' hs' hi' hl hz hap => ?_⟩
  by_cases hc : 16 * s' + i' < 16 * s + i
  · exact h.2 s' i' hs' hi' hc hz hap
  · have e1 : s' = s := by omega
    have e2 : i' = i := by omega
    subst e1 e2
    exact ha (h.1 _ hz) hap
theorem zy_uk {se : Nat → Int32} {t : Nat} : ∀ s, ¬ se s = 0 → ¬ upd se t 1 s = 0 := by
  intro s h
  by_cases e : s = t
  · rw [e, pk_us]; decide
  · rw [pk_un e]; exact h
theorem zy_rset {ap : Nat → Nat → Prop} {go : Nat → Nat → Nat} {R : Nat} {s0 se : Nat → Int32} {s i : Nat} (h : zy_rp ap go R s0 se (16 * s + i)) (hi : i < 16) : zy_rp ap go R s0 (upd se (go s i) 1) (16 * s + i + 1) := by
  refine ⟨fun s hz => zy_uk _ (h.1 s hz), fun s' i' hs' hi' hl hz hap => ?_⟩
  by_cases hc : 16 * s' + i' < 16 * s + i
  · exact zy_uk _ (h.2 s' i' hs' hi' hc hz hap)
  · have e1 : s' = s := by omega
    have e2 : i' = i := by omega
    subst e1 e2
    rw [pk_us]; decide
theorem zy_rsS {ap : Nat → Nat → Prop} {go : Nat → Nat → Nat} {st : Nat} {se : Nat → Int32} {s i : Nat} (h : zy_rs ap go st se) (hs : s < 256) (hz : ¬ se s = 0) (ha : ap s i) : zy_rs ap go st (upd se (go s i) 1) := by
  intro s' hs' hz'
  by_cases e : s' = go s i
  · obtain ⟨q, hq⟩ := h s hs hz
    exact ⟨q ++ [i], by rw [e]; exact zp_sn hq ha⟩
  · rw [pk_un e] at hz'
    exact h s' hs' hz'
theorem zy_rend {ap : Nat → Nat → Prop} {go : Nat → Nat → Nat} {R st : Nat} {s0 se : Nat → Int32} {m : Nat} (hA : ∀ s i, ap s i → i < 16) (hg : ∀ s i, s < 2 ^ R → ap s i → go s i < 2 ^ R) (hst : st < 2 ^ R) (h : zy_rp ap go R s0 se (16 * 2 ^ R)) (hc : zy_rc ap go st s0 m) : zy_rc ap go st se (m + 1) := by
  intro q t hr hl
  rcases zp_sp hr with ⟨e, e2⟩ | ⟨q', i, a, e, h1, h2, h3⟩
  · exact h.1 _ (hc q t hr (by rw [e]; exact Nat.zero_le _))
  · have hz := hc q' a h1 (by rw [e, List.length_append, List.length_singleton] at hl; omega)
    have hi := hA _ _ h2
    have ha := zp_ri hg hst h1
    rw [← h3]
    exact h.2 a i ha hi (by omega) hz h2
theorem zy_rfix {ap : Nat → Nat → Prop} {go : Nat → Nat → Nat} {R st : Nat} {s0 se : Nat → Int32} {m : Nat} (hA : ∀ s i, ap s i → i < 16) (hg : ∀ s i, s < 2 ^ R → ap s i → go s i < 2 ^ R) (hst : st < 2 ^ R) (h : zy_rp ap go R s0 se (16 * 2 ^ R)) (he : se = s0) (hc : zy_rc ap go st s0 0) : zy_rc ap go st se m := by
  subst he
  have hf : ∀ q s t, s < 2 ^ R → ¬ se s = 0 → zp_run ap go q s t → ¬ se t = 0 := by
    intro q
    induction q with
    | nil =>
      intro s t _ hz hr
      have e : s = t := hr
      rw [← e]; exact hz
    | cons i q ih =>
      intro s t hs hz hr
      have hi := hA _ _ hr.1
      exact ih _ t (hg _ _ hs hr.1) (h.2 s i hs hi (by omega) hz hr.1) hr.2
  exact fun q t hr _ => hf q st t hst (hc [] st rfl (Nat.zero_le _)) hr
theorem zo_ext {x y : Int32} (h : ∀ b, bt x b = true ↔ bt y b = true) : x = y := by
  apply b_ext
  intro i _
  have a := h i
  cases hx : bt x i
  · cases hy : bt y i
    · rfl
    · rw [a.mpr hy] at hx
      exact absurd hx (by decide)
  · exact (a.mp hx).symm
end
section
/-! the hierarchy -/
def zi_E (R : Nat) (dj : Nat → Int32) (a b : Nat) : Prop := a < R ∧ bt (dj a) b = true
def zi_dj (R : Nat) (dj : Nat → Int32) : Prop := ∀ a, a < 8 → ∀ b, bt (dj a) b = true → a < R ∧ b < R
def zi_ed (dj ed : Nat → Int32) : Prop := ∀ k, k < 64 → (¬ ed k = 0 ↔ bt (dj (k / 8)) (k % 8) = true)
def zi_cl (R : Nat) (dj cl : Nat → Int32) : Prop := ∀ r, r < R → ∀ j, bt (cl r) j = true ↔ zw_r (zi_E R dj) r j
theorem zi_hE {R : Nat} {dj : Nat → Int32} (hR : R ≤ 8) (h : zi_dj R dj) : ∀ a b, zi_E R dj a b → b < R := fun a b z => (h a (by have := z.1; omega) b z.2).2
def zk_c (R n : Nat) (dj cl : Nat → Int32) (role : Nat) : Prop :=
  (∀ r, r < R → ∀ j, bt (cl r) j = true → zw_r (zi_E R dj) r j) ∧
  (∀ r, r < R → ∀ j, zw_d (zi_E R dj) r (if r < role then n + 1 else n) j → bt (cl r) j = true)
theorem zk_in {R n role : Nat} {dj cl : Nat → Int32} (hR : R ≤ 8) (hd : zi_dj R dj) (hn : 1 ≤ n) (hr : role < R) (h : zk_c R n dj cl role) : zk_c R n dj (upd cl role (zx_ex cl (cl role) R)) (role + 1) := by
  have hE := zi_hE hR hd
  have hw : ∀ r, r < R → ∀ j, zw_d (zi_E R dj) r n j → bt (cl r) j = true := by
    intro r h1 j z
    apply h.2 r h1 j
    by_cases hc : r < role
    · rw [if_pos hc]; exact zw_le (by omega) z
    · rw [if_neg hc]; exact z
  refine ⟨fun r h1 j z => ?_, fun r h1 j z => ?_⟩
  · by_cases e : r = role
    · subst e
      rw [pk_us] at z
      obtain ⟨a, h2, h3, h4⟩ := (zx_exb cl (cl r) j R).mp z
      exact zw_rt (h.1 r h1 a h3) (h.1 a h2 j h4)
    · rw [pk_un e] at z
      exact h.1 r h1 j z
  · by_cases e : r = role
    · subst e
      rw [pk_us]
      rw [if_pos (by omega)] at z
      apply (zx_exb cl (cl r) j R).mpr
      rcases z with z | ⟨a, z, ea⟩
      · exact ⟨r, h1, hw r h1 r (zw_le (Nat.zero_le _) rfl), hw r h1 j z⟩
      · exact ⟨a, ea.1, hw r h1 a z, hw a ea.1 j (zw_le hn (zw_1 ea))⟩
    · rw [pk_un e]
      apply h.2 r h1 j
      by_cases hc : r < role
      · rw [if_pos hc]
        rw [if_pos (by omega)] at z
        exact z
      · rw [if_neg hc]
        rw [if_neg (by omega)] at z
        exact z
theorem zk_rd {R n : Nat} {dj cl : Nat → Int32} (h : zk_c R n dj cl R) : zk_c R (n + 1) dj cl 0 := by
  refine ⟨h.1, fun r h1 j z => h.2 r h1 j ?_⟩
  rw [if_neg (Nat.not_lt_zero r)] at z
  rw [if_pos h1]
  exact z
theorem zk_ok {R n : Nat} {dj cl : Nat → Int32} (hR : R ≤ 8) (hd : zi_dj R dj) (hn : R ≤ n) (h : zk_c R n dj cl 0) : zi_cl R dj cl := by
  intro r h1 j
  refine ⟨h.1 r h1 j, fun z => h.2 r h1 j ?_⟩
  rw [if_neg (Nat.not_lt_zero r)]
  exact zw_rc (zi_hE hR hd) h1 hn z
theorem zk_st {R : Nat} {dj cl : Nat → Int32} (hR : R ≤ 8) (h : ∀ r, r < R → cl r = dj r ||| ((1 : Int32) <<< (nI r &&& 31))) : zk_c R 1 dj cl 0 := by
  refine ⟨fun r h1 j z => ?_, fun r h1 j z => ?_⟩
  · rw [h r h1, zb_set _ (by omega), Bool.or_eq_true] at z
    rcases z with z | z
    · exact zw_r1 ⟨h1, z⟩
    · have e := of_decide_eq_true z
      subst e
      exact zw_r0 _
  · rw [if_neg (Nat.not_lt_zero r)] at z
    rw [h r h1, zb_set _ (by omega), Bool.or_eq_true]
    rcases z with z | ⟨a, z, e⟩
    · have e : r = j := z
      exact Or.inr (decide_eq_true e.symm)
    · have e2 : r = a := z
      subst e2
      exact Or.inl e.2
/-! the reference's closure of r: the set so far -/
def zk_ys (R : Nat) (dj : Nat → Int32) (r : Nat) (s : Int32) (n : Nat) : Prop :=
  (∀ j, bt s j = true → zw_r (zi_E R dj) r j) ∧ (∀ j, zw_d (zi_E R dj) r n j → bt s j = true)
def zk_yk (R : Nat) (dj ed : Nat → Int32) (r : Nat) (s0 s : Int32) (k : Nat) : Prop :=
  (∀ j, bt s j = true → zw_r (zi_E R dj) r j) ∧ (∀ j, bt s0 j = true → bt s j = true) ∧ (∀ k', k' < k → ¬ ed k' = 0 → bt s0 (k' / 8) = true → bt s (k' % 8) = true)
theorem zk_y0 {R r : Nat} {dj : Nat → Int32} (hr : r < 8) : zk_ys R dj r ((1 : Int32) <<< (nI r &&& 31)) 0 := by
  refine ⟨fun j z => ?_, fun j z => ?_⟩
  · rw [zb_sh (by omega)] at z
    have e := of_decide_eq_true z
    subst e
    exact zw_r0 _
  · have e : r = j := z
    rw [zb_sh (by omega)]
    exact decide_eq_true e.symm
theorem zk_yb {R r n : Nat} {dj ed : Nat → Int32} {s : Int32} (h : zk_ys R dj r s n) : zk_yk R dj ed r s s 0 := ⟨h.1, fun _ z => z, fun _ z => by omega⟩
theorem zk_yskip {R r k : Nat} {dj ed : Nat → Int32} {s0 s : Int32} (h : zk_yk R dj ed r s0 s k) (hc : ¬ ed k = 0 → bt s (k / 8) = false) : zk_yk R dj ed r s0 s (k + 1) := by
  refine ⟨h.1, h.2.1, fun k' h1 h2 h3 => ?_⟩
  by_cases e : k' = k
  · subst e
    have := h.2.1 _ h3
    rw [hc h2] at this
    exact absurd this (by decide)
  · exact h.2.2 k' (by omega) h2 h3
theorem zk_yset {R r k : Nat} {dj ed : Nat → Int32} {s0 s : Int32} (hd : zi_dj R dj) (he : zi_ed dj ed) (hk : k < 64) (h : zk_yk R dj ed r s0 s k) (hc : ¬ ed k = 0) (hb : bt s (k / 8) = true) : zk_yk R dj ed r s0 (s ||| ((1 : Int32) <<< (nI (k % 8) &&& 31))) (k + 1) := by
  have hx : ∀ j, bt s j = true → bt (s ||| ((1 : Int32) <<< (nI (k % 8) &&& 31))) j = true := by
    intro j z
    rw [zb_set _ (by omega), z, Bool.true_or]
  refine ⟨fun j z => ?_, fun j z => hx j (h.2.1 j z), fun k' h1 h2 h3 => ?_⟩
  · rw [zb_set _ (by omega), Bool.or_eq_true] at z
    rcases z with z | z
    · exact h.1 j z
    · have e := of_decide_eq_true z
      subst e
      have hb2 := (he k hk).mp hc
      exact zw_rt (h.1 _ hb) (zw_r1 ⟨(hd (k / 8) (by omega) _ hb2).1, hb2⟩)
  · by_cases e : k' = k
    · subst e
      rw [zb_set _ (by omega), decide_eq_true rfl, Bool.or_true]
    · exact hx _ (h.2.2 k' (by omega) h2 h3)
theorem zk_yend {R r n : Nat} {dj ed : Nat → Int32} {s0 s : Int32} (hR : R ≤ 8) (hd : zi_dj R dj) (he : zi_ed dj ed) (h0 : zk_ys R dj r s0 n) (h : zk_yk R dj ed r s0 s 64) : zk_ys R dj r s (n + 1) := by
  refine ⟨h.1, fun j z => ?_⟩
  rcases z with z | ⟨a, z, e⟩
  · exact h.2.1 j (h0.2 j z)
  · have ha := e.1
    have hj := (hd a (by omega) j e.2).2
    have e1 : (8 * a + j) / 8 = a := by omega
    have e2 : (8 * a + j) % 8 = j := by omega
    have q := h.2.2 (8 * a + j) (by omega) ((he _ (by omega)).mpr (by rw [e1, e2]; exact e.2)) (by rw [e1]; exact h0.2 a z)
    rw [e2] at q
    exact q
theorem zk_yv {R r n : Nat} {dj cl : Nat → Int32} {s : Int32} (hR : R ≤ 8) (hd : zi_dj R dj) (hn : R ≤ n) (hr : r < R) (hc : zi_cl R dj cl) (h : zk_ys R dj r s n) : s = cl r := by
  apply zo_ext
  intro b
  rw [hc r hr b]
  exact ⟨h.1 b, fun z => h.2 b (zw_rc (zi_hE hR hd) hr hn z)⟩
theorem zi_exb {R : Nat} {dj cl : Nat → Int32} (hR : R ≤ 8) (hd : zi_dj R dj) (hc : zi_cl R dj cl) (s : Int32) : ∀ j, R ≤ j → bt (zx_ex cl s R) j = false := by
  intro j hj
  apply zb_nt
  intro z
  obtain ⟨r, h1, _, h3⟩ := (zx_exb cl s j R).mp z
  have := zw_rin (zi_hE hR hd) h1 ((hc r h1 j).mp h3)
  omega
theorem zi_djA {R s j : Nat} {dj : Nat → Int32} (h : zi_dj R dj) (hR : R ≤ 8) (hs : s < R) (hj : j < R) : zi_dj R (upd dj s (dj s ||| ((1 : Int32) <<< (nI j &&& 31)))) := by
  intro a ha b z
  by_cases e : a = s
  · subst e
    rw [pk_us, zb_set _ (by omega), Bool.or_eq_true] at z
    rcases z with z | z
    · exact h a ha b z
    · have e := of_decide_eq_true z
      omega
  · rw [pk_un e] at z
    exact h a ha b z
theorem zi_djR {R s j : Nat} {dj : Nat → Int32} (h : zi_dj R dj) (hR : R ≤ 8) (hj : j < R) : zi_dj R (upd dj s (dj s &&& (((1 : Int32) <<< (nI j &&& 31)) ^^^ (-1)))) := by
  intro a ha b z
  by_cases e : a = s
  · subst e
    rw [pk_us, zb_clr _ (by omega), Bool.and_eq_true] at z
    exact h a ha b z.1
  · rw [pk_un e] at z
    exact h a ha b z
theorem zi_edA {s j : Nat} {dj ed : Nat → Int32} (h : zi_ed dj ed) (hs : s < 8) (hj : j < 8) : zi_ed (upd dj s (dj s ||| ((1 : Int32) <<< (nI j &&& 31)))) (upd ed (8 * s + j) 1) := by
  intro k hk
  by_cases e : k / 8 = s
  · rw [e, pk_us, zb_set _ (by omega), Bool.or_eq_true]
    by_cases e2 : k % 8 = j
    · have e3 : k = 8 * s + j := by omega
      rw [e3, pk_us]
      exact ⟨fun _ => Or.inr (decide_eq_true (by omega)), fun _ => by decide⟩
    · rw [pk_un (by omega), h k hk, e]
      exact ⟨Or.inl, fun z => z.elim (fun z => z) (fun z => absurd (of_decide_eq_true z) e2)⟩
  · rw [pk_un e, pk_un (by omega)]
    exact h k hk
theorem zi_edR {s j : Nat} {dj ed : Nat → Int32} (h : zi_ed dj ed) (hs : s < 8) (hj : j < 8) : zi_ed (upd dj s (dj s &&& (((1 : Int32) <<< (nI j &&& 31)) ^^^ (-1)))) (upd ed (8 * s + j) 0) := by
  intro k hk
  by_cases e : k / 8 = s
  · rw [e, pk_us, zb_clr _ (by omega), Bool.and_eq_true]
    by_cases e2 : k % 8 = j
    · have e3 : k = 8 * s + j := by omega
      rw [e3, pk_us]
      refine ⟨fun z => absurd rfl z, fun z => ?_⟩
      have e4 : (8 * s + j) % 8 = j := by omega
      rw [e4, decide_eq_true rfl] at z
      exact absurd z.2 (by decide)
    · rw [pk_un (by omega), h k hk, e]
      exact ⟨fun z => ⟨z, by rw [decide_eq_false e2]; rfl⟩, fun z => z.1⟩
  · rw [pk_un e, pk_un (by omega)]
    exact h k hk
end
section
def zb_i (b : Bool) : Int32 := if b = true then 1 else 0
theorem zb_br {A B : Prop} (b : Bool) (f : b = false → A) (g : b = true → B) : (zb_i b = 0 → A) ∧ (¬ zb_i b = 0 → B) := by
  cases b
  · exact ⟨fun _ => f rfl, fun z => absurd rfl z⟩
  · exact ⟨fun z => absurd z (by decide), fun _ => g rfl⟩
theorem zb_nar (b : Bool) : narrow .boolean (.int (zb_i b)) = .int (zb_i b) := by
  cases b <;> rfl
def zi_o (n : Nat) (x : Int32) : Prop := x < 0 ∨ nI n ≤ x
theorem zi_io (x : Int32) {n : Nat} (hn : n ≤ 256) : zi_o n x ∨ ∃ j : Nat, j < n ∧ x = nI j := by
  rcases pk_ix x (n := n) (by omega) with h | h | h
  · exact Or.inl (Or.inl h)
  · exact Or.inl (Or.inr h)
  · exact Or.inr h
theorem zi_no {x : Int32} {n : Nat} {A B : Prop} (h : zi_o n x) (a : A) : (x < 0 → A) ∧ (¬ x < 0 → ((nI n ≤ x → A) ∧ (¬ nI n ≤ x → B))) :=
  br_c (fun _ => a) (fun z => h.elim (fun y => absurd y z) (fun y => br_t y a))
theorem zi_ys {n j : Nat} {A B C : Prop} (hn : n ≤ 256) (h : j < n) (b : B) : (nI j < 0 → A) ∧ (¬ nI j < 0 → ((nI n ≤ nI j → C) ∧ (¬ nI n ≤ nI j → B))) :=
  br_f (nI_pos (by omega)) (br_f (nI_ge h (by omega)) b)
theorem zx_con {post : Int32 → Prop} {x : Int32} {l : Nat} (hl : l < 32) (h : post (zb_i (bt x l))) : wpX_contains post () x (nI l) := by
  cases hb : bt x l
  · rw [hb] at h
    exact br_t ((zb_con x hl).mpr hb) h
  · rw [hb] at h
    exact br_f (fun z => by rw [(zb_con x hl).mp z] at hb; exact absurd hb (by decide)) h
section
variable {U R C cn : Nat} {wl fc : Int32} {dj cl pm asg rk ra rt rp rn wr wa la ds pv ar fs : Nat → Int32}
theorem zx_roleN {post : Int32 → Prop} {x : Int32} (h : zi_o R x) (hp : post 0) : wpX_isRole post (nI U, nI R, nI C, nI cn, wl, fc, dj, cl, pm, asg, rk, ra, rt, rp, rn, wr, wa, la, ds, pv, ar, fs) x := zi_no h hp
theorem zx_roleY {post : Int32 → Prop} {j : Nat} (hR : R ≤ 8) (h : j < R) (hp : post 1) : wpX_isRole post (nI U, nI R, nI C, nI cn, wl, fc, dj, cl, pm, asg, rk, ra, rt, rp, rn, wr, wa, la, ds, pv, ar, fs) (nI j) := zi_ys (by omega) h hp
theorem zx_userN {post : Int32 → Prop} {x : Int32} (h : zi_o U x) (hp : post 0) : wpX_isUser post (nI U, nI R, nI C, nI cn, wl, fc, dj, cl, pm, asg, rk, ra, rt, rp, rn, wr, wa, la, ds, pv, ar, fs) x := zi_no h hp
theorem zx_userY {post : Int32 → Prop} {j : Nat} (hU : U ≤ 8) (h : j < U) (hp : post 1) : wpX_isUser post (nI U, nI R, nI C, nI cn, wl, fc, dj, cl, pm, asg, rk, ra, rt, rp, rn, wr, wa, la, ds, pv, ar, fs) (nI j) := zi_ys (by omega) h hp
theorem zx_ruleN {post : Int32 → Prop} {x : Int32} (h : zi_o cn x) (hp : post 0) : wpX_isRule post (nI U, nI R, nI C, nI cn, wl, fc, dj, cl, pm, asg, rk, ra, rt, rp, rn, wr, wa, la, ds, pv, ar, fs) x := zi_no h hp
theorem zx_ruleY {post : Int32 → Prop} {j : Nat} (hc : cn ≤ 16) (h : j < cn) (hp : post 1) : wpX_isRule post (nI U, nI R, nI C, nI cn, wl, fc, dj, cl, pm, asg, rk, ra, rt, rp, rn, wr, wa, la, ds, pv, ar, fs) (nI j) := zi_ys (by omega) h hp
theorem zx_expand {post : Int32 → Prop} {s : Int32} (hR : R ≤ 8) (h : post (zx_ex cl s R)) : wpX_expand post (nI U, nI R, nI C, nI cn, wl, fc, dj, cl, pm, asg, rk, ra, rt, rp, rn, wr, wa, la, ds, pv, ar, fs) s := by
  have H : ∀ d r n : Nat, r + d = R → d < n → wX_expand_4 post s (nI U) (nI R) (nI C) (nI cn) wl fc dj cl pm asg rk ra rt rp rn wr wa la ds pv ar fs n (zx_ex cl s r) (nI r) := by
    intro d
    induction d with
    | zero =>
      intro r n hr hn
      obtain ⟨n, rfl⟩ : ∃ m, n = m + 1 := ⟨n - 1, by omega⟩
      have e : r = R := by omega
      subst e
      exact pk_le r r (fun _ => h) (fun z => absurd z (by omega))
    | succ d ih =>
      intro r n hr hn
      obtain ⟨n, rfl⟩ : ∃ m, n = m + 1 := ⟨n - 1, by omega⟩
      have i := ih (r + 1) n (by omega) (by omega)
      refine pk_le R r (fun z => absurd z (by omega)) (fun _ => ?_)
      by_cases hb : bt s r = true
      · have e : zx_ex cl s (r + 1) = zx_ex cl s r ||| cl r := if_pos hb
        rw [e] at i
        refine br_f (fun z => by rw [(zb_con s (by omega)).mp z] at hb; exact absurd hb (by decide)) ⟨pk_in r 8 (by omega), ?_⟩
        exact nm_r (by rw [nI_clamp (by omega)]) (nm_r (nI_1 r) i)
      · have e : zx_ex cl s (r + 1) = zx_ex cl s r := if_neg hb
        rw [e] at i
        exact br_t ((zb_con s (by omega)).mpr (zb_nt hb)) (nm_r (nI_1 r) i)
  exact ⟨R + 1, H R 0 (R + 1) (by omega) (by omega)⟩
theorem zx_may {post : Int32 → Prop} {v i a : Nat} (hR : R ≤ 8) (hv : v < 8) (hi : i < 16) (ha : a < 32) (e : ra i = nI a) (h : post (zb_i (bt (zx_ex cl (asg v) R) a))) : wpX_mayAdminister post (nI U, nI R, nI C, nI cn, wl, fc, dj, cl, pm, asg, rk, ra, rt, rp, rn, wr, wa, la, ds, pv, ar, fs) (nI v) (nI i) := by
  refine ⟨pk_in v 8 hv, ?_⟩
  rw [nI_clamp (show v < 2 ^ 31 by omega), nI_clamp (show i < 2 ^ 31 by omega), e]
  exact zx_expand hR ⟨pk_in i 16 hi, zx_con ha ⟨zb_nar _, h⟩⟩
theorem zx_meets {post : Int32 → Prop} {i : Nat} {x : Int32} (hi : i < 16) (h : post (zb_i (decide ((x &&& rp i) = rp i ∧ (x &&& rn i) = 0)))) : wpX_meetsPreconditions post (nI U, nI R, nI C, nI cn, wl, fc, dj, cl, pm, asg, rk, ra, rt, rp, rn, wr, wa, la, ds, pv, ar, fs) (nI i) x := by
  refine ⟨pk_in i 16 hi, ?_⟩
  rw [nI_clamp (show i < 2 ^ 31 by omega)]
  refine nm_e (br_c (fun h1 => ⟨pk_in i 16 hi, br_c (fun h2 => ?_) (fun h2 => ?_)⟩) (fun h1 => ?_))
  · rw [decide_eq_true ⟨h1, h2⟩] at h
    exact h
  · rw [decide_eq_false (fun z => h2 z.2)] at h
    exact h
  · rw [decide_eq_false (fun z => h1 z.1)] at h
    exact h
theorem zx_makes {post : Int32 → Prop} {i t : Nat} {x : Int32} (hi : i < 16) (ht : t < 32) (e : rt i = nI t) (h : post (zb_i (decide (bt x t = decide (¬ rk i = 1))))) : wpX_makesChange post (nI U, nI R, nI C, nI cn, wl, fc, dj, cl, pm, asg, rk, ra, rt, rp, rn, wr, wa, la, ds, pv, ar, fs) (nI i) x := by
  refine ⟨pk_in i 16 hi, ?_⟩
  rw [nI_clamp (show i < 2 ^ 31 by omega), e]
  refine zx_con ht ⟨pk_in i 16 hi, br_c (fun h1 => ?_) (fun h1 => ?_)⟩
  · rw [show decide (¬ rk i = 1) = false from decide_eq_false (fun z => z h1)] at h
    refine zb_br _ (fun hb => ?_) (fun hb => ?_)
    · rw [hb] at h
      exact h
    · rw [hb] at h
      exact h
  · rw [decide_eq_true h1] at h
    refine ⟨zb_nar _, ?_⟩
    cases hb : bt x t
    · rw [hb] at h
      exact h
    · rw [hb] at h
      exact h
theorem zx_res {post : Int32 → Prop} {i : Nat} {x : Int32} (hi : i < 16) (h : post (zr_x rk rt x i)) : wpX_resultOf post (nI U, nI R, nI C, nI cn, wl, fc, dj, cl, pm, asg, rk, ra, rt, rp, rn, wr, wa, la, ds, pv, ar, fs) (nI i) x := by
  refine ⟨pk_in i 16 hi, pk_in i 16 hi, ?_⟩
  rw [nI_clamp (show i < 2 ^ 31 by omega)]
  unfold zr_x at h
  refine br_c (fun h1 => ?_) (fun h1 => ?_)
  · rw [if_pos h1] at h
    exact br_f (by decide) h
  · rw [if_neg h1] at h
    exact br_t rfl h
theorem zx_reb1 {post : St2 → Prop} (hR : R ≤ 8) (hd : zi_dj R dj) (h : ∀ cl', zi_cl R dj cl' → post (nI U, nI R, nI C, nI cn, wl, fc, dj, cl', pm, asg, rk, ra, rt, rp, rn, wr, wa, la, ds, pv, ar, fs)) : ∀ d rnd n : Nat, ∀ cl' : Nat → Int32, rnd + d = R → d < n → zk_c R (rnd + 1) dj cl' 0 → wX_rebuildClosures_34 post (nI U) (nI R) (nI C) (nI cn) wl fc n (nI rnd) dj cl' pm asg rk ra rt rp rn wr wa la ds pv ar fs := by
  intro d
  induction d with
  | zero =>
    intro rnd n cl' hr hn hc
    obtain ⟨n, rfl⟩ : ∃ m, n = m + 1 := ⟨n - 1, by omega⟩
    have e : rnd = R := by omega
    subst e
    exact pk_le rnd rnd (fun _ => h cl' (zk_ok hR hd (by omega) hc)) (fun z => absurd z (by omega))
  | succ d ih =>
    intro rnd n cl' hr hn hc
    obtain ⟨n, rfl⟩ : ∃ m, n = m + 1 := ⟨n - 1, by omega⟩
    refine pk_le R rnd (fun z => absurd z (by omega)) (fun _ => ?_)
    have H : ∀ f role m : Nat, ∀ c : Nat → Int32, role + f = R → f < m → zk_c R (rnd + 1) dj c role → wX_rebuildClosures_44 post (wX_rebuildClosures_34 post (nI U) (nI R) (nI C) (nI cn) wl fc n) (nI rnd) (nI U) (nI R) (nI C) (nI cn) wl fc m (nI role) dj c pm asg rk ra rt rp rn wr wa la ds pv ar fs := by
      intro f
      induction f with
      | zero =>
        intro role m c hr2 hm hz
        obtain ⟨m, rfl⟩ : ∃ k, m = k + 1 := ⟨m - 1, by omega⟩
        have e : role = R := by omega
        subst e
        refine pk_le role role (fun _ => nm_r (nI_1 rnd) ?_) (fun z => absurd z (by omega))
        exact ih (rnd + 1) n c (by omega) (by omega) (zk_rd hz)
      | succ f ih2 =>
        intro role m c hr2 hm hz
        obtain ⟨m, rfl⟩ : ∃ k, m = k + 1 := ⟨m - 1, by omega⟩
        refine pk_le R role (fun z => absurd z (by omega)) (fun _ => ⟨pk_in role 8 (by omega), ?_⟩)
        rw [nI_clamp (show role < 2 ^ 31 by omega)]
        refine zx_expand hR ⟨pk_in role 8 (by omega), nm_e (nm_r (nI_1 role) ?_)⟩
        exact ih2 (role + 1) m _ (by omega) (by omega) (zk_in hR hd (by omega) (by omega) hz)
    exact ⟨R + 1, H R 0 (R + 1) cl' (by omega) (by omega) hc⟩
theorem zx_reb {post : St2 → Prop} (hR : R ≤ 8) (hd : zi_dj R dj) (h : ∀ cl', zi_cl R dj cl' → post (nI U, nI R, nI C, nI cn, wl, fc, dj, cl', pm, asg, rk, ra, rt, rp, rn, wr, wa, la, ds, pv, ar, fs)) : wpX_rebuildClosures post (nI U, nI R, nI C, nI cn, wl, fc, dj, cl, pm, asg, rk, ra, rt, rp, rn, wr, wa, la, ds, pv, ar, fs) := by
  have H : ∀ d role n : Nat, ∀ c : Nat → Int32, role + d = R → d < n → (∀ r, r < role → c r = dj r ||| ((1 : Int32) <<< (nI r &&& 31))) → wX_rebuildClosures_2 post (nI U) (nI R) (nI C) (nI cn) wl fc n (nI role) dj c pm asg rk ra rt rp rn wr wa la ds pv ar fs := by
    intro d
    induction d with
    | zero =>
      intro role n c hr hn hc
      obtain ⟨n, rfl⟩ : ∃ m, n = m + 1 := ⟨n - 1, by omega⟩
      have e : role = R := by omega
      subst e
      exact pk_le role role (fun _ => ⟨role + 1, zx_reb1 hR hd h role 0 (role + 1) c (by omega) (by omega) (zk_st hR hc)⟩) (fun z => absurd z (by omega))
    | succ d ih =>
      intro role n c hr hn hc
      obtain ⟨n, rfl⟩ : ∃ m, n = m + 1 := ⟨n - 1, by omega⟩
      refine pk_le R role (fun z => absurd z (by omega)) (fun _ => ⟨pk_in role 8 (by omega), pk_in role 8 (by omega), nm_e (nm_r (nI_1 role) ?_)⟩)
      rw [nI_clamp (show role < 2 ^ 31 by omega)]
      refine ih (role + 1) n _ (by omega) (by omega) (fun r hr2 => ?_)
      by_cases e : r = role
      · rw [e, pk_us]
      · rw [pk_un e]
        exact hc r (by omega)
  exact ⟨R + 1, H R 0 (R + 1) cl (by omega) (by omega) (fun r hr => absurd hr (Nat.not_lt_zero r))⟩
end
end
section
def zl_a (U R u : Nat) (cl asg ra : Nat → Int32) (i : Nat) : Int32 := zl_f (fun v => !decide (v = u) && bt (zx_ex cl (asg v) R) (ra i).toNatClampNeg) U 0
def zi_ru (cn R : Nat) (ra rt : Nat → Int32) : Prop := ∀ i, i < cn → (∃ a, a < R ∧ ra i = nI a) ∧ ∃ t, t < R ∧ rt i = nI t
theorem zl_in (g : Nat → Bool) : ∀ d j : Nat, zl_f g d j = -1 ∨ ∃ v, v < j + d ∧ g v = true ∧ zl_f g d j = nI v := by
  intro d
  induction d with
  | zero => intro j; exact Or.inl rfl
  | succ d ih =>
    intro j
    by_cases h : g j = true
    · exact Or.inr ⟨j, by omega, h, if_pos h⟩
    · have e : zl_f g (d + 1) j = zl_f g d (j + 1) := if_neg h
      rw [e]
      rcases ih (j + 1) with z | ⟨v, h1, h2, h3⟩
      · exact Or.inl z
      · exact Or.inr ⟨v, by omega, h2, h3⟩
section
variable {U R C cn : Nat} {wl fc : Int32} {dj cl pm asg rk ra rt rp rn wr wa la ds pv ar fs : Nat → Int32}
theorem zx_least {post : Int32 → Prop} {u i a : Nat} (hR : R ≤ 8) (hU : U ≤ 8) (hu : u < U) (hi : i < 16) (ha : a < 32) (e : ra i = nI a) (h : post (zl_a U R u cl asg ra i)) : wpX_leastAdminFor post (nI U, nI R, nI C, nI cn, wl, fc, dj, cl, pm, asg, rk, ra, rt, rp, rn, wr, wa, la, ds, pv, ar, fs) (nI i) (nI u) := by
  have ea : (ra i).toNatClampNeg = a := by rw [e, nI_clamp (by omega)]
  unfold zl_a at h
  rw [ea] at h
  have H : ∀ d v n : Nat, v + d = U → d < n → post (zl_f (fun v => !decide (v = u) && bt (zx_ex cl (asg v) R) a) d v) → wX_leastAdminFor_2 post (nI i) (nI u) (nI U) (nI R) (nI C) (nI cn) wl fc dj cl pm asg rk ra rt rp rn wr wa la ds pv ar fs n (nI v) := by
    intro d
    induction d with
    | zero =>
      intro v n hv hn hp
      obtain ⟨n, rfl⟩ : ∃ m, n = m + 1 := ⟨n - 1, by omega⟩
      have e : v = U := by omega
      subst e
      exact pk_le v v (fun _ => hp) (fun z => absurd z (by omega))
    | succ d ih =>
      intro v n hv hn hp
      obtain ⟨n, rfl⟩ : ∃ m, n = m + 1 := ⟨n - 1, by omega⟩
      have ih2 : ((fun v => !decide (v = u) && bt (zx_ex cl (asg v) R) a) v = false) → wX_leastAdminFor_2 post (nI i) (nI u) (nI U) (nI R) (nI C) (nI cn) wl fc dj cl pm asg rk ra rt rp rn wr wa la ds pv ar fs n (nI (v + 1)) := by
        intro hg
        refine ih (v + 1) n (by omega) (by omega) ?_
        have e2 : zl_f (fun v => !decide (v = u) && bt (zx_ex cl (asg v) R) a) (d + 1) v = zl_f (fun v => !decide (v = u) && bt (zx_ex cl (asg v) R) a) d (v + 1) := if_neg (by rw [hg]; decide)
        rw [e2] at hp
        exact hp
      refine pk_le U v (fun z => absurd z (by omega)) (fun _ => pk_eq v u (fun z => ?_) (fun z => ?_))
      · refine nm_r (nI_1 v) (ih2 ?_)
        dsimp only
        rw [decide_eq_true z]
        rfl
      · refine zx_may hR (by omega) hi ha e (zb_br _ (fun hb => nm_r (nI_1 v) (ih2 ?_)) (fun hb => ?_))
        · dsimp only
          rw [hb, Bool.and_false]
        · have e2 : zl_f (fun v => !decide (v = u) && bt (zx_ex cl (asg v) R) a) (d + 1) v = nI v := if_pos (by dsimp only; rw [hb, decide_eq_false z]; rfl)
          rw [e2] at hp
          exact hp
  exact ⟨U + 1, H U 0 (U + 1) (by omega) (by omega) h⟩
theorem zx_note {post : St2 → Prop} {s i t n : Nat} (hs : s < 256) (ht : t < 256) (h1 : ¬ ds t = -1 → post (nI U, nI R, nI C, nI cn, wl, nI n, dj, cl, pm, asg, rk, ra, rt, rp, rn, wr, wa, la, ds, pv, ar, fs)) (h2 : ds t = -1 → n < 256 ∧ post (nI U, nI R, nI C, nI cn, wl, nI (n + 1), dj, cl, pm, asg, rk, ra, rt, rp, rn, wr, wa, la, upd ds t (ds s + 1), upd pv t (nI s), upd ar t (nI i), upd fs n (nI t))) : wpX_noteArrival post (nI U, nI R, nI C, nI cn, wl, nI n, dj, cl, pm, asg, rk, ra, rt, rp, rn, wr, wa, la, ds, pv, ar, fs) (nI s) (nI i) (nI t) := by
  refine ⟨pk_in t 256 ht, ?_⟩
  rw [nI_clamp (show t < 2 ^ 31 by omega), nI_clamp (show s < 2 ^ 31 by omega)]
  refine br_c (fun z => ?_) (fun z => h1 z)
  obtain ⟨hn, h2⟩ := h2 z
  rw [nI_clamp (show n < 2 ^ 31 by omega)]
  exact ⟨pk_in s 256 hs, pk_in t 256 ht, nm_e ⟨pk_in t 256 ht, nm_e ⟨pk_in t 256 ht, nm_e ⟨pk_in n 256 hn, nm_e (nm_r (nI_1 n) h2)⟩⟩⟩⟩
theorem zx_sf {post : St2 → Prop} {l : Nat → Int32} {st p s : Nat} (hR : R ≤ 8) (hc : cn ≤ 16) (hr : zi_ru cn R ra rt) (hl : ∀ i, i < cn → la i = l i)
    (hp : ∀ (ds pv ar fs : Nat → Int32) (n : Nat) (Q : Nat → Nat) (P : Nat → List Nat), Q p = s → zs_inv (zr_ap cn R cl l rk rt rp rn) (zr_go rk rt) st R ds pv ar fs n p cn Q P → post (nI U, nI R, nI C, nI cn, wl, nI n, dj, cl, pm, asg, rk, ra, rt, rp, rn, wr, wa, la, ds, pv, ar, fs)) :
    ∀ (d i m : Nat) (ds pv ar fs : Nat → Int32) (n : Nat) (Q : Nat → Nat) (P : Nat → List Nat), i + d = cn → d < m → Q p = s → zs_inv (zr_ap cn R cl l rk rt rp rn) (zr_go rk rt) st R ds pv ar fs n p i Q P → wX_searchFrom_8 post (nI s) (zr_ef cl R s) m (nI i) (nI U) (nI R) (nI C) (nI cn) wl (nI n) dj cl pm asg rk ra rt rp rn wr wa la ds pv ar fs := by
  intro d
  have h8 := zb_p8 hR
  induction d with
  | zero =>
    intro i m ds pv ar fs n Q P hi hm hs hv
    obtain ⟨m, rfl⟩ : ∃ k, m = k + 1 := ⟨m - 1, by omega⟩
    have e : i = cn := by omega
    subst e
    exact pk_le i i (fun _ => hp ds pv ar fs n Q P hs hv) (fun z => absurd z (by omega))
  | succ d ih =>
    intro i m ds pv ar fs n Q P hi hm hs hv
    obtain ⟨m, rfl⟩ : ∃ k, m = k + 1 := ⟨m - 1, by omega⟩
    have hs2 : s < 2 ^ R := by
      have := (hv.2.2.2.2.2.1 p hv.1).1
      rw [hs] at this
      exact this
    obtain ⟨_, t, ht, et⟩ := hr i (by omega)
    have ett : (rt i).toNatClampNeg = t := by rw [et, nI_clamp (by omega)]
    have hgo := zr_goE (rk := rk) hR ht et hs2
    have skip : (zr_ap cn R cl l rk rt rp rn s i → ∃ k, k < n ∧ Q k = zr_go rk rt s i) → wX_searchFrom_8 post (nI s) (zr_ef cl R s) m (nI (i + 1)) (nI U) (nI R) (nI C) (nI cn) wl (nI n) dj cl pm asg rk ra rt rp rn wr wa la ds pv ar fs := by
      intro hx
      exact ih (i + 1) m ds pv ar fs n Q P (by omega) (by omega) hs (zs_skip hv (by rw [hs]; exact hx))
    refine pk_le cn i (fun z => absurd z (by omega)) (fun _ => ⟨pk_in i 16 (by omega), ?_⟩)
    rw [nI_clamp (show i < 2 ^ 31 by omega), hl i (by omega)]
    refine br_c (fun z => ?_) (fun z => ?_)
    · unfold wX_searchFrom_39 wX_searchFrom_40
      exact br_t rfl (nm_r (nI_1 i) (skip (fun ha => absurd z ha.2.1)))
    · refine zx_meets (by omega) (zb_br _ (fun hb => ?_) (fun hb => ?_))
      · unfold wX_searchFrom_39 wX_searchFrom_40
        exact br_t rfl (nm_r (nI_1 i) (skip (fun ha => absurd (And.intro ha.2.2.1 ha.2.2.2.1) (of_decide_eq_false hb))))
      · unfold wX_searchFrom_40
        refine br_f (by decide) (zx_makes (by omega) (by omega) et (zb_br _ (fun hb2 => ?_) (fun hb2 => ?_)))
        · refine nm_r (nI_1 i) (skip (fun ha => absurd ?_ (of_decide_eq_false hb2)))
          have := ha.2.2.2.2
          rw [ett] at this
          exact this
        · have hap : zr_ap cn R cl l rk rt rp rn s i := ⟨by omega, z, (of_decide_eq_true hb).1, (of_decide_eq_true hb).2, by rw [ett]; exact of_decide_eq_true hb2⟩
          refine zx_res (by omega) ?_
          rw [← hgo.1]
          have hg := hgo.2
          refine zx_note (by omega) (by omega) (fun hd => ?_) (fun hd => ⟨zs_room hv (by omega) hd, ?_⟩)
          · refine nm_r (nI_1 i) (skip (fun _ => ?_))
            rcases hv.2.2.2.2.2.2.1 (zr_go rk rt s i) (by omega) with y | y
            · exact absurd y hd
            · exact y
          · refine nm_r (nI_1 i) ?_
            have hn := zs_new hv h8 (by rw [hs]; exact hap) (by rw [hs]; exact hg) (by rw [hs]; exact hd)
            rw [hs] at hn
            obtain ⟨Q', P', hq, hv'⟩ := hn
            exact ih (i + 1) m _ _ _ _ (n + 1) Q' P' (by omega) (by omega) hq hv'
theorem zx_s78 {post : St2 → Prop} {l : Nat → Int32} {st : Nat} (hR : R ≤ 8) (hc : cn ≤ 16) (hr : zi_ru cn R ra rt) (hl : ∀ i, i < cn → la i = l i)
    (hp : ∀ (ds pv ar fs : Nat → Int32) (n : Nat) (Q : Nat → Nat) (P : Nat → List Nat), zs_fin (zr_ap cn R cl l rk rt rp rn) (zr_go rk rt) st R ds pv ar fs n Q P → post (nI U, nI R, nI C, nI cn, wl, nI n, dj, cl, pm, asg, rk, ra, rt, rp, rn, wr, wa, la, ds, pv, ar, fs)) :
    ∀ (d p m : Nat) (ds pv ar fs : Nat → Int32) (n : Nat) (Q : Nat → Nat) (P : Nat → List Nat), p + d = 256 → d < m → (zs_inv (zr_ap cn R cl l rk rt rp rn) (zr_go rk rt) st R ds pv ar fs n p 0 Q P ∨ (n ≤ p ∧ zs_fin (zr_ap cn R cl l rk rt rp rn) (zr_go rk rt) st R ds pv ar fs n Q P)) → wX_search_78 post m (nI p) (nI U) (nI R) (nI C) (nI cn) wl (nI n) dj cl pm asg rk ra rt rp rn wr wa la ds pv ar fs := by
  intro d
  have hA : ∀ s i, zr_ap cn R cl l rk rt rp rn s i → i < cn := fun s i h => h.1
  induction d with
  | zero =>
    intro p m ds pv ar fs n Q P hd hm hv
    obtain ⟨m, rfl⟩ : ∃ k, m = k + 1 := ⟨m - 1, by omega⟩
    have e : p = 256 := by omega
    subst e
    refine pk_le 256 256 (fun _ => ?_) (fun z => absurd z (by omega))
    rcases hv with hv | ⟨_, hv⟩
    · have h1 := hv.1
      have h2 := hv.2.1
      omega
    · exact hp ds pv ar fs n Q P hv
  | succ d ih =>
    intro p m ds pv ar fs n Q P hd hm hv
    obtain ⟨m, rfl⟩ : ∃ k, m = k + 1 := ⟨m - 1, by omega⟩
    have hn : n ≤ 256 := by
      rcases hv with hv | ⟨_, hv⟩
      · exact hv.2.1
      · exact hv.2.1
    refine pk_le 256 p (fun z => absurd z (by omega)) (fun _ => pk_le n p (fun z => ?_) (fun z => ⟨pk_in p 256 (by omega), ?_⟩))
    · rcases hv with hv | ⟨_, hv⟩
      · have h1 := hv.1
        omega
      · exact hp ds pv ar fs n Q P hv
    · rcases hv with hv | ⟨h1, _⟩
      · rw [nI_clamp (show p < 2 ^ 31 by omega), (hv.2.2.2.2.2.1 p hv.1).2.1]
        unfold wpX_searchFrom
        refine zx_expand hR ⟨cn + 1, ?_⟩
        refine zx_sf (l := l) (st := st) (p := p) (s := Q p) hR hc hr hl (fun ds pv ar fs n Q' P' hq hv' => ?_) cn 0 (cn + 1) ds pv ar fs n Q P (by omega) (by omega) rfl hv
        refine nm_r (nI_1 p) (ih (p + 1) m ds pv ar fs n Q' P' (by omega) (by omega) ?_)
        by_cases hx : p + 1 < n
        · exact Or.inl (zs_next hv' hc hA hx)
        · exact Or.inr ⟨by omega, zs_end hv' hA hx⟩
      · omega
theorem zx_s30 {post : St2 → Prop} {l : Nat → Int32} {st u : Nat} (hR : R ≤ 8) (hc : cn ≤ 16) (hr : zi_ru cn R ra rt) (hl : ∀ i, i < cn → la i = l i) (hu : u < 8) (hst : st < 2 ^ R) (eu : asg u = nI st)
    (hp : ∀ (ds pv ar fs : Nat → Int32) (n : Nat) (Q : Nat → Nat) (P : Nat → List Nat), zs_fin (zr_ap cn R cl l rk rt rp rn) (zr_go rk rt) st R ds pv ar fs n Q P → post (nI U, nI R, nI C, nI cn, wl, nI n, dj, cl, pm, asg, rk, ra, rt, rp, rn, wr, wa, la, ds, pv, ar, fs)) :
    ∀ (d s m : Nat) (ds : Nat → Int32), s + d = 256 → d < m → (∀ x, x < s → ds x = -1) → wX_search_30 post (nI u) (nI U) (nI R) (nI C) (nI cn) wl fc m (nI s) dj cl pm asg rk ra rt rp rn wr wa la ds pv ar fs := by
  intro d
  have h8 := zb_p8 hR
  induction d with
  | zero =>
    intro s m ds hd hm hv
    obtain ⟨m, rfl⟩ : ∃ k, m = k + 1 := ⟨m - 1, by omega⟩
    have e : s = 256 := by omega
    subst e
    refine pk_le 256 256 (fun _ => ⟨pk_in u 8 hu, ?_⟩) (fun z => absurd z (by omega))
    rw [nI_clamp (show u < 2 ^ 31 by omega), eu]
    refine nm_e ⟨pk_in st 256 (by omega), ?_⟩
    rw [nI_clamp (show st < 2 ^ 31 by omega)]
    refine nm_e (nm_e ⟨257, ?_⟩)
    exact zx_s78 (l := l) (st := st) hR hc hr hl hp 256 0 257 _ pv ar _ 1 _ _ (by omega) (by omega) (Or.inl (zs_0 hst h8 (fun x hx => hv x hx)))
  | succ d ih =>
    intro s m ds hd hm hv
    obtain ⟨m, rfl⟩ : ∃ k, m = k + 1 := ⟨m - 1, by omega⟩
    refine pk_le 256 s (fun z => absurd z (by omega)) (fun _ => ⟨pk_in s 256 (by omega), ?_⟩)
    rw [nI_clamp (show s < 2 ^ 31 by omega)]
    refine nm_e (nm_r (nI_1 s) (ih (s + 1) m _ (by omega) (by omega) (fun x hx => ?_)))
    by_cases e : x = s
    · rw [e, pk_us]
    · rw [pk_un e]
      exact hv x (by omega)
theorem zx_search {post : St2 → Prop} {st u : Nat} (hR : R ≤ 8) (hU : U ≤ 8) (hc : cn ≤ 16) (hr : zi_ru cn R ra rt) (hu : u < U) (hst : st < 2 ^ R) (eu : asg u = nI st)
    (hp : ∀ (la ds pv ar fs : Nat → Int32) (n : Nat) (Q : Nat → Nat) (P : Nat → List Nat), (∀ i, i < cn → la i = zl_a U R u cl asg ra i) → zs_fin (zr_ap cn R cl (zl_a U R u cl asg ra) rk rt rp rn) (zr_go rk rt) st R ds pv ar fs n Q P → post (nI U, nI R, nI C, nI cn, wl, nI n, dj, cl, pm, asg, rk, ra, rt, rp, rn, wr, wa, la, ds, pv, ar, fs)) : wpX_search post (nI U, nI R, nI C, nI cn, wl, fc, dj, cl, pm, asg, rk, ra, rt, rp, rn, wr, wa, la, ds, pv, ar, fs) (nI u) := by
  have H : ∀ (d i m : Nat) (la : Nat → Int32), i + d = cn → d < m → (∀ x, x < i → la x = zl_a U R u cl asg ra x) → wX_search_2 post (nI u) (nI U) (nI R) (nI C) (nI cn) wl fc m (nI i) dj cl pm asg rk ra rt rp rn wr wa la ds pv ar fs := by
    intro d
    induction d with
    | zero =>
      intro i m la hd hm hv
      obtain ⟨m, rfl⟩ : ∃ k, m = k + 1 := ⟨m - 1, by omega⟩
      have e : i = cn := by omega
      subst e
      refine pk_le i i (fun _ => ⟨257, ?_⟩) (fun z => absurd z (by omega))
      exact zx_s30 (l := zl_a U R u cl asg ra) hR hc hr hv (by omega) hst eu (fun ds pv ar fs n Q P h => hp la ds pv ar fs n Q P hv h) 256 0 257 ds (by omega) (by omega) (fun x hx => absurd hx (Nat.not_lt_zero x))
    | succ d ih =>
      intro i m la hd hm hv
      obtain ⟨m, rfl⟩ : ∃ k, m = k + 1 := ⟨m - 1, by omega⟩
      obtain ⟨⟨a, ha, ea⟩, _⟩ := hr i (by omega)
      refine pk_le cn i (fun z => absurd z (by omega)) (fun _ => zx_least hR hU hu (by omega) (by omega) ea ⟨pk_in i 16 (by omega), ?_⟩)
      rw [nI_clamp (show i < 2 ^ 31 by omega)]
      refine nm_e (nm_r (nI_1 i) (ih (i + 1) m _ (by omega) (by omega) (fun x hx => ?_)))
      by_cases e : x = i
      · rw [e, pk_us]
      · rw [pk_un e]
        exact hv x (by omega)
  exact ⟨cn + 1, H cn 0 (cn + 1) la (by omega) (by omega) (fun x hx => absurd hx (Nat.not_lt_zero x))⟩
theorem zx_first {post : Int32 → Prop} {g n : Nat} {Q : Nat → Nat} (hR : R ≤ 8) (hg : g < 32) (hn : n ≤ 256) (hf : ∀ j, j < n → fs j = nI (Q j))
    (h1 : ∀ j, j < n → bt (zr_ef cl R (Q j)) g = true → (∀ i, i < j → ¬ bt (zr_ef cl R (Q i)) g = true) → post (nI (Q j))) (h2 : (∀ i, i < n → ¬ bt (zr_ef cl R (Q i)) g = true) → post (-1)) : wpX_firstFoundWith post (nI U, nI R, nI C, nI cn, wl, nI n, dj, cl, pm, asg, rk, ra, rt, rp, rn, wr, wa, la, ds, pv, ar, fs) (nI g) := by
  have H : ∀ d j m : Nat, j + d = n → d < m → (∀ i, i < j → ¬ bt (zr_ef cl R (Q i)) g = true) → wX_firstFoundWith_2 post (nI g) (nI U) (nI R) (nI C) (nI cn) wl (nI n) dj cl pm asg rk ra rt rp rn wr wa la ds pv ar fs m (nI j) := by
    intro d
    induction d with
    | zero =>
      intro j m hj hm hv
      obtain ⟨m, rfl⟩ : ∃ k, m = k + 1 := ⟨m - 1, by omega⟩
      have e : j = n := by omega
      subst e
      exact pk_le j j (fun _ => h2 hv) (fun z => absurd z (by omega))
    | succ d ih =>
      intro j m hj hm hv
      obtain ⟨m, rfl⟩ : ∃ k, m = k + 1 := ⟨m - 1, by omega⟩
      refine pk_le n j (fun z => absurd z (by omega)) (fun _ => ⟨pk_in j 256 (by omega), ?_⟩)
      rw [nI_clamp (show j < 2 ^ 31 by omega), hf j (by omega)]
      refine zx_expand hR (zx_con hg (zb_br _ (fun hb => nm_r (nI_1 j) (ih (j + 1) m (by omega) (by omega) (fun i hi => ?_))) (fun hb => ⟨pk_in j 256 (by omega), h1 j (by omega) hb hv⟩)))
      by_cases e : i = j
      · rw [e]
        intro y
        have hb' : bt (zr_ef cl R (Q j)) g = false := hb
        rw [hb'] at y
        exact absurd y (by decide)
      · exact hv i (by omega)
  exact ⟨n + 1, H n 0 (n + 1) (by omega) (by omega) (fun x hx => absurd hx (Nat.not_lt_zero x))⟩
theorem zx_store {post : St2 → Prop} {ap : Nat → Nat → Prop} {go : Nat → Nat → Nat} {l : Nat → Int32} {st n : Nat} {Q : Nat → Nat} {P : Nat → List Nat} (hR : R ≤ 8) (hc : cn ≤ 16) (hA : ∀ s i, ap s i → i < cn) (hl : ∀ i, i < cn → la i = l i) (hv : zs_fin ap go st R ds pv ar fs n Q P) :
    ∀ (len j m : Nat) (x : Int32) (wr wa : Nat → Int32), j < n → (P (Q j)).length = len → len < m → x = nI len - 1 → post (nI U, nI R, nI C, nI cn, wl, fc, dj, cl, pm, asg, rk, ra, rt, rp, rn, zs_put nI wr (P (Q j)), zs_put l wa (P (Q j)), la, ds, pv, ar, fs) → wX_storeWitness_19 post (nI U) (nI R) (nI C) (nI cn) wl fc m (nI (Q j)) x dj cl pm asg rk ra rt rp rn wr wa la ds pv ar fs := by
  intro len
  have h8 := zb_p8 hR
  obtain ⟨he, hn, hq, hs⟩ := hv
  induction len with
  | zero =>
    intro j m x wr wa hj hlen hm hx hp
    obtain ⟨m, rfl⟩ : ∃ k, m = k + 1 := ⟨m - 1, by omega⟩
    have e : P (Q j) = [] := List.eq_nil_of_length_eq_zero hlen
    rw [e, zs_put0, zs_put0] at hp
    subst hx
    exact br_t (by decide) hp
  | succ len ih =>
    intro j m x wr wa hj hlen hm hx hp
    obtain ⟨m, rfl⟩ : ∃ k, m = k + 1 := ⟨m - 1, by omega⟩
    rw [nI_pred] at hx
    subst hx
    have hjq := hq j hj
    rcases hs j hj with e | ⟨k, r, hk, e1, e2, e3, e4⟩
    · subst e
      have e5 : P (Q 0) = [] := by rw [he.2.1]; exact he.2.2.1
      rw [e5] at hlen
      exact absurd hlen (by simp)
    · have hr := hA _ _ e4
      have hlk : (P (Q k)).length = len := by
        rw [e3, List.length_append, List.length_singleton] at hlen
        omega
      refine br_f (nI_pos (by omega)) ⟨pk_in (Q j) 256 (by omega), ?_⟩
      rw [nI_clamp (show Q j < 2 ^ 31 by omega), nI_clamp (show len < 2 ^ 31 by omega), e1, e2]
      refine nm_e ⟨pk_in len 256 (by omega), nm_e ⟨pk_in r 16 (by omega), pk_in len 256 (by omega), ?_⟩⟩
      rw [nI_clamp (show r < 2 ^ 31 by omega), hl r hr]
      refine nm_e ⟨pk_in (Q j) 256 (by omega), nm_e (nm_e ?_)⟩
      refine ih k m _ _ _ (by omega) hlk (by omega) (by rw [Int32.sub_eq_add_neg]) ?_
      rw [e3, ← zs_putS nI wr, ← zs_putS l wa, hlk] at hp
      exact hp
end
end
section
section
variable {U R C cn : Nat} {wl fc : Int32} {dj cl pm asg rk ra rt rp rn wr wa la ds pv ar fs : Nat → Int32}
theorem zx_analyse {post : Int32 → St2 → Prop} {u g st : Nat} (hR : R ≤ 8) (hU : U ≤ 8) (hc : cn ≤ 16) (hr : zi_ru cn R ra rt) (hu : u < U) (hg : g < R) (hst : st < 2 ^ R) (eu : asg u = nI st)
    (h2 : (∀ q t, zp_run (zr_ap cn R cl (zl_a U R u cl asg ra) rk rt rp rn) (zr_go rk rt) q st t → ¬ bt (zr_ef cl R t) g = true) → ∀ (fc : Int32) (la ds pv ar fs : Nat → Int32), post 2 (nI U, nI R, nI C, nI cn, -1, fc, dj, cl, pm, asg, rk, ra, rt, rp, rn, wr, wa, la, ds, pv, ar, fs))
    (h1 : ∀ p, zp_min (zr_ap cn R cl (zl_a U R u cl asg ra) rk rt rp rn) (zr_go rk rt) (fun t => bt (zr_ef cl R t) g = true) st p → p.length ≤ 255 → ∀ (fc : Int32) (la ds pv ar fs : Nat → Int32), post 1 (nI U, nI R, nI C, nI cn, nI p.length, fc, dj, cl, pm, asg, rk, ra, rt, rp, rn, zs_put nI wr p, zs_put (zl_a U R u cl asg ra) wa p, la, ds, pv, ar, fs)) :
    wpX_analyse post (nI U, nI R, nI C, nI cn, wl, fc, dj, cl, pm, asg, rk, ra, rt, rp, rn, wr, wa, la, ds, pv, ar, fs) (nI u) (nI g) := by
  have h8 := zb_p8 hR
  unfold wpX_analyse
  refine zx_userY hU hu (br_f (by decide) (zx_roleY hR hg (br_f (by decide) ?_)))
  refine zx_search hR hU hc hr hu hst eu (fun la ds pv ar fs n Q P hl hv => ?_)
  have hq := hv.2.2.1
  refine zx_first (Q := Q) hR (by omega) hv.2.1 (fun j hj => (hq j hj).2.1) (fun j hj hT hn => ?_) (fun hn => ?_)
  · have hjq := hq j hj
    have hn256 := hv.2.1
    have hm : zp_min (zr_ap cn R cl (zl_a U R u cl asg ra) rk rt rp rn) (zr_go rk rt) (fun t => bt (zr_ef cl R t) g = true) st (P (Q j)) := zp_fst hv.1 hj hT hn
    have hx := h1 (P (Q j)) hm (by omega) (nI n) la ds pv ar fs
    refine br_f (zs_m1 (by omega)) ⟨pk_in (Q j) 256 (by omega), ?_⟩
    rw [nI_clamp (show Q j < 2 ^ 31 by omega), hjq.2.2.1]
    refine nm_e (nm_e ⟨(P (Q j)).length + 1, ?_⟩)
    exact zx_store hR hc (fun s i h => h.1) hl hv (P (Q j)).length j _ _ wr wa hj rfl (by omega) rfl hx
  · exact br_t rfl (h2 (fun q t hrun => zp_non (T := fun t => bt (zr_ef cl R t) g = true) hv.1 hn hrun) (nI n) la ds pv ar fs)
theorem zx_reach {post : Int32 → St2 → Prop} {u st : Nat} (hR : R ≤ 8) (hU : U ≤ 8) (hc : cn ≤ 16) (hr : zi_ru cn R ra rt) (hu : u < U) (hst : st < 2 ^ R) (eu : asg u = nI st)
    (h : ∀ (n : Nat) (Q : Nat → Nat) (P : Nat → List Nat) (x : Int32), zp_end (zr_ap cn R cl (zl_a U R u cl asg ra) rk rt rp rn) (zr_go rk rt) st n Q P → (∀ j, j < n → Q j < 2 ^ R ∧ (P (Q j)).length ≤ 255) → (∀ b, bt x b = true ↔ ∃ j, j < n ∧ bt (zr_ef cl R (Q j)) b = true) → ∀ (fc : Int32) (la ds pv ar fs : Nat → Int32), post x (nI U, nI R, nI C, nI cn, wl, fc, dj, cl, pm, asg, rk, ra, rt, rp, rn, wr, wa, la, ds, pv, ar, fs)) :
    wpX_reachableRoles post (nI U, nI R, nI C, nI cn, wl, fc, dj, cl, pm, asg, rk, ra, rt, rp, rn, wr, wa, la, ds, pv, ar, fs) (nI u) := by
  have h8 := zb_p8 hR
  unfold wpX_reachableRoles
  refine zx_userY hU hu (br_f (by decide) ?_)
  refine zx_search hR hU hc hr hu hst eu (fun la ds pv ar fs n Q P hl hv => ?_)
  have hq := hv.2.2.1
  have hn := hv.2.1
  have H : ∀ (d i m : Nat) (x : Int32), i + d = n → d < m → (∀ b, bt x b = true ↔ ∃ j, j < i ∧ bt (zr_ef cl R (Q j)) b = true) → wX_reachableRoles_19 post (nI U) (nI R) (nI C) (nI cn) wl (nI n) dj cl pm asg rk ra rt rp rn wr wa la ds pv ar fs m x (nI i) := by
    intro d
    induction d with
    | zero =>
      intro i m x hi hm hx
      obtain ⟨m, rfl⟩ : ∃ k, m = k + 1 := ⟨m - 1, by omega⟩
      have e : i = n := by omega
      subst e
      exact pk_le i i (fun _ => h i Q P x hv.1 (fun j hj => ⟨(hq j hj).1, by have := (hq j hj).2.2.2; omega⟩) hx (nI i) la ds pv ar fs) (fun z => absurd z (by omega))
    | succ d ih =>
      intro i m x hi hm hx
      obtain ⟨m, rfl⟩ : ∃ k, m = k + 1 := ⟨m - 1, by omega⟩
      refine pk_le n i (fun z => absurd z (by omega)) (fun _ => ⟨pk_in i 256 (by omega), ?_⟩)
      rw [nI_clamp (show i < 2 ^ 31 by omega), (hq i (by omega)).2.1]
      refine zx_expand hR (nm_e (nm_r (nI_1 i) (ih (i + 1) m _ (by omega) (by omega) (fun b => ?_))))
      rw [b_or, Bool.or_eq_true, hx b]
      constructor
      · rintro (⟨j, h1, h2⟩ | h2)
        · exact ⟨j, by omega, h2⟩
        · exact ⟨i, by omega, h2⟩
      · intro ⟨j, h1, h2⟩
        by_cases e : j = i
        · subst e
          exact Or.inr h2
        · exact Or.inl ⟨j, by omega, h2⟩
  exact ⟨n + 1, H n 0 (n + 1) 0 (by omega) (by omega) (fun b => by rw [b_0]; exact ⟨fun z => absurd z (by decide), fun ⟨j, hj, _⟩ => absurd hj (Nat.not_lt_zero j)⟩)⟩
end
end
section
theorem zv_cl (x : Int32) (lo hi : Nat) (h : lo ≤ hi) (hh : hi < 256) : ∃ n, lo ≤ n ∧ n ≤ hi ∧ ∀ A : Int32 → Prop, A (nI n) → ((nI lo ≤ x → ((x ≤ nI hi → A x) ∧ (¬ x ≤ nI hi → A (nI hi)))) ∧ (¬ nI lo ≤ x → A (nI lo))) := by
  by_cases h1 : nI lo ≤ x
  · have h0 : ¬ x < 0 := by
      intro z
      have a := Int32.lt_iff_toInt_lt.mp z
      have b := Int32.le_iff_toInt_le.mp h1
      rw [nI_toInt (by omega)] at b
      rw [show (0 : Int32).toInt = 0 from by decide] at a
      omega
    obtain ⟨j, hj, rfl⟩ := nI_of h0
    by_cases h2 : nI j ≤ nI hi
    · exact ⟨j, (nI_leI (by omega) hj).mp h1, (nI_leI hj (by omega)).mp h2, fun A a => br_t h1 (br_t h2 a)⟩
    · exact ⟨hi, h, Nat.le_refl _, fun A a => br_t h1 (br_f h2 a)⟩
  · exact ⟨lo, Nat.le_refl _, h, fun A a => br_f h1 a⟩
theorem zx_clampN {post : Int32 → Prop} {n : Nat} (lo hi : Nat) (h1 : lo ≤ n) (h2 : n ≤ hi) (hh : hi < 256) (hp : post (nI n)) : wpX_clamp post () (nI n) (nI lo) (nI hi) := br_t (nI_le h1 (by omega)) (br_t (nI_le h2 (by omega)) hp)
theorem zi_z0 (R : Nat) : zi_dj R (fun _ => 0) := by
  intro a _ b z
  rw [b_0] at z
  exact absurd z (by decide)
def zi_as (U R : Nat) (asg : Nat → Int32) : Prop := ∀ v, v < U → ∀ j, R ≤ j → bt (asg v) j = false
theorem zi_aset {U R w : Nat} {asg : Nat → Int32} {x : Int32} (ha : zi_as U R asg) (hx : ∀ j, R ≤ j → bt x j = false) : zi_as U R (upd asg w x) := by
  intro v hv j hj
  by_cases e : v = w
  · rw [e, pk_us]
    exact hx j hj
  · rw [pk_un e]
    exact ha v hv j hj
section
variable {U R C cn : Nat} {wl fc : Int32} {dj cl pm asg rk ra rt rp rn wr wa la ds pv ar fs : Nat → Int32}
theorem zx_act1 {post : Int32 → St2 → Prop} {w x i a t : Nat} (hR : R ≤ 8) (hU : U ≤ 8) (hc : cn ≤ 16) (hw : w < U) (hx : x < U) (hi : i < cn) (ha : a < R) (ea : ra i = nI a) (ht : t < R) (et : rt i = nI t) (hwx : w ≠ x)
    (b1 : bt (zx_ex cl (asg w) R) a = true) (b2 : (zx_ex cl (asg x) R &&& rp i) = rp i ∧ (zx_ex cl (asg x) R &&& rn i) = 0) (b3 : bt (asg x) t = decide (¬ rk i = 1)) (h : post 0 (nI U, nI R, nI C, nI cn, wl, fc, dj, cl, pm, upd asg x (zr_x rk rt (asg x) i), rk, ra, rt, rp, rn, wr, wa, la, ds, pv, ar, fs)) : wpX_act post (nI U, nI R, nI C, nI cn, wl, fc, dj, cl, pm, asg, rk, ra, rt, rp, rn, wr, wa, la, ds, pv, ar, fs) (nI w) (nI x) (nI i) := by
  have hxn := pk_in x 8 (show x < 8 by omega)
  unfold wpX_act
  refine zx_userY hU hw (br_f (by decide) (zx_userY hU hx (br_f (by decide) (zx_ruleY hc hi (br_f (by decide) (pk_eq w x (fun z => absurd z hwx) (fun _ => ?_)))))))
  refine zx_may hR (by omega) (by omega) (by omega) ea (zb_br _ (fun z => ?_) (fun _ => ⟨hxn, ?_⟩))
  · rw [b1] at z
    exact absurd z (by decide)
  · rw [nI_clamp (show x < 2 ^ 31 by omega)]
    exact zx_expand hR (zx_meets (by omega) (zb_br _ (fun z => absurd b2 (of_decide_eq_false z)) (fun _ => ⟨hxn, zx_makes (by omega) (by omega) et (zb_br _ (fun z => absurd b3 (of_decide_eq_false z)) (fun _ => ⟨hxn, zx_res (by omega) ⟨hxn, nm_e h⟩⟩))⟩)))
theorem zx_actA {post : Int32 → St2 → Prop} {w x i : Nat} (hR : R ≤ 8) (hU : U ≤ 8) (hc : cn ≤ 16) (hw : w < U) (hx : x < U) (hi : i < cn) (hr : zi_ru cn R ra rt) (hs : zi_as U R asg) (h : ∀ (r : Int32) (asg : Nat → Int32), zi_as U R asg → post r (nI U, nI R, nI C, nI cn, wl, fc, dj, cl, pm, asg, rk, ra, rt, rp, rn, wr, wa, la, ds, pv, ar, fs)) : wpX_act post (nI U, nI R, nI C, nI cn, wl, fc, dj, cl, pm, asg, rk, ra, rt, rp, rn, wr, wa, la, ds, pv, ar, fs) (nI w) (nI x) (nI i) := by
  have hxn := pk_in x 8 (show x < 8 by omega)
  obtain ⟨⟨a, ha, ea⟩, t, ht, et⟩ := hr i hi
  unfold wpX_act
  refine zx_userY hU hw (br_f (by decide) (zx_userY hU hx (br_f (by decide) (zx_ruleY hc hi (br_f (by decide) (br_c (fun _ => h _ asg hs) (fun _ => ?_)))))))
  refine zx_may hR (by omega) (by omega) (by omega) ea (zb_br _ (fun z => h _ asg hs) (fun _ => ⟨hxn, ?_⟩))
  rw [nI_clamp (show x < 2 ^ 31 by omega)]
  exact zx_expand hR (zx_meets (by omega) (zb_br _ (fun _ => h _ asg hs) (fun _ => ⟨hxn, zx_makes (by omega) (by omega) et (zb_br _ (fun _ => h _ asg hs) (fun _ => ⟨hxn, zx_res (by omega) ⟨hxn, nm_e (h _ _ (zi_aset hs (zr_xb hR ht et (hs x hx))))⟩⟩))⟩)))
theorem zx_addI {post : Int32 → St2 → Prop} {s j : Nat} (hR : R ≤ 8) (hs : s < R) (hj : j < R) (hd : zi_dj R dj) (hc : zi_cl R dj cl) (h : ∀ (r : Int32) (dj cl : Nat → Int32), zi_dj R dj → zi_cl R dj cl → post r (nI U, nI R, nI C, nI cn, wl, fc, dj, cl, pm, asg, rk, ra, rt, rp, rn, wr, wa, la, ds, pv, ar, fs)) : wpX_addInheritance post (nI U, nI R, nI C, nI cn, wl, fc, dj, cl, pm, asg, rk, ra, rt, rp, rn, wr, wa, la, ds, pv, ar, fs) (nI s) (nI j) := by
  unfold wpX_addInheritance
  refine zx_roleY hR hs (br_f (by decide) (zx_roleY hR hj (br_f (by decide) (br_c (fun _ => h _ dj cl hd hc) (fun _ => ⟨pk_in s 8 (by omega), ?_⟩)))))
  rw [nI_clamp (show s < 2 ^ 31 by omega), nI_clamp (show j < 2 ^ 31 by omega)]
  refine zx_con (by omega) (zb_br _ (fun hb => ⟨pk_in j 8 (by omega), zx_con (by omega) (zb_br _ (fun hb2 => ⟨pk_in s 8 (by omega), pk_in s 8 (by omega), nm_e ?_⟩) (fun hb2 => h _ dj cl hd hc))⟩) (fun hb => h _ dj cl hd hc))
  exact zx_reb hR (zi_djA hd hR hs hj) (fun cl' hcl => h _ _ cl' (zi_djA hd hR hs hj) hcl)
theorem zx_setA {post : Int32 → St2 → Prop} {s p : Nat} (hR : R ≤ 8) (hU : U ≤ 8) (hs : s < U) (hp : p < R) (ha : zi_as U R asg) (h : ∀ (r : Int32) (asg : Nat → Int32), zi_as U R asg → post r (nI U, nI R, nI C, nI cn, wl, fc, dj, cl, pm, asg, rk, ra, rt, rp, rn, wr, wa, la, ds, pv, ar, fs)) : wpX_setAssigned post (nI U, nI R, nI C, nI cn, wl, fc, dj, cl, pm, asg, rk, ra, rt, rp, rn, wr, wa, la, ds, pv, ar, fs) (nI s) (nI p) 1 := by
  unfold wpX_setAssigned
  refine zx_userY hU hs (br_f (by decide) (zx_roleY hR hp (br_f (by decide) ⟨pk_in s 8 (by omega), ?_⟩)))
  rw [nI_clamp (show s < 2 ^ 31 by omega)]
  refine zx_con (by omega) (br_c (fun _ => h _ asg ha) (fun _ => ⟨pk_in s 8 (by omega), br_f (by decide) ⟨pk_in s 8 (by omega), nm_e (h _ _ (zi_aset ha (fun j hj => ?_)))⟩⟩))
  rw [zb_set _ (by omega), ha s hs j hj, decide_eq_false (by omega), Bool.or_self]
theorem zx_exp {post : Int32 → Prop} {x : Nat} (hU : U ≤ 8) (hx : x < U) (h : post (asg x)) : wpX_explicitRoles post (nI U, nI R, nI C, nI cn, wl, fc, dj, cl, pm, asg, rk, ra, rt, rp, rn, wr, wa, la, ds, pv, ar, fs) (nI x) := by
  unfold wpX_explicitRoles
  refine zx_userY hU hx (br_f (by decide) ⟨pk_in x 8 (by omega), ?_⟩)
  rw [nI_clamp (show x < 2 ^ 31 by omega)]
  exact h
theorem zx_efr {post : Int32 → Prop} {x : Nat} (hR : R ≤ 8) (hU : U ≤ 8) (hx : x < U) (h : post (zx_ex cl (asg x) R)) : wpX_effectiveRoles post (nI U, nI R, nI C, nI cn, wl, fc, dj, cl, pm, asg, rk, ra, rt, rp, rn, wr, wa, la, ds, pv, ar, fs) (nI x) := by
  unfold wpX_effectiveRoles
  refine zx_userY hU hx (br_f (by decide) ⟨pk_in x 8 (by omega), ?_⟩)
  rw [nI_clamp (show x < 2 ^ 31 by omega)]
  exact zx_expand hR h
theorem zx_jun {post : Int32 → Prop} {x : Nat} (hR : R ≤ 8) (hx : x < R) (h : post (cl x)) : wpX_juniorsOf post (nI U, nI R, nI C, nI cn, wl, fc, dj, cl, pm, asg, rk, ra, rt, rp, rn, wr, wa, la, ds, pv, ar, fs) (nI x) := by
  unfold wpX_juniorsOf
  refine zx_roleY hR hx (br_f (by decide) ⟨pk_in x 8 (by omega), ?_⟩)
  rw [nI_clamp (show x < 2 ^ 31 by omega)]
  exact h
theorem zx_wru {post : Int32 → Prop} {k len : Nat} (hk : k < len) (hl : len ≤ 255) (h : post (wr k)) : wpX_witnessRule post (nI U, nI R, nI C, nI cn, nI len, fc, dj, cl, pm, asg, rk, ra, rt, rp, rn, wr, wa, la, ds, pv, ar, fs) (nI k) := by
  unfold wpX_witnessRule
  refine zi_ys (n := len) (by omega) hk (br_f (by decide) ⟨pk_in k 256 (by omega), ?_⟩)
  rw [nI_clamp (show k < 2 ^ 31 by omega)]
  exact h
theorem zx_wad {post : Int32 → Prop} {k len : Nat} (hk : k < len) (hl : len ≤ 255) (h : post (wa k)) : wpX_witnessAdmin post (nI U, nI R, nI C, nI cn, nI len, fc, dj, cl, pm, asg, rk, ra, rt, rp, rn, wr, wa, la, ds, pv, ar, fs) (nI k) := by
  unfold wpX_witnessAdmin
  refine zi_ys (n := len) (by omega) hk (br_f (by decide) ⟨pk_in k 256 (by omega), ?_⟩)
  rw [nI_clamp (show k < 2 ^ 31 by omega)]
  exact h
theorem zx_addR {post : Int32 → St2 → Prop} {a t : Nat} {kd x : Int32} (hR : R ≤ 8) (hC : C ≤ 16) (hc : cn < C) (ha : a < R) (ht : t < R) (hk : kd = 1 ∨ kd = 2)
    (h0 : (x.toUInt32 >>> ((16 : Int32).toUInt32 &&& Int32.toUInt32 31)).toInt32 = 0) (p : Nat) (q : Nat) (hp : p < 2 ^ R) (hq : q < 2 ^ R) (ep : x &&& 255 = nI p) (eq : ((x.toUInt32 >>> ((8 : Int32).toUInt32 &&& Int32.toUInt32 31)).toInt32) &&& 255 = nI q) (hpq : nI p &&& nI q = 0)
    (h : post (nI cn) (nI U, nI R, nI C, nI (cn + 1), wl, fc, dj, cl, pm, asg, upd rk cn kd, upd ra cn (nI a), upd rt cn (nI t), upd rp cn (nI p), upd rn cn (nI q), wr, wa, la, ds, pv, ar, fs)) : wpX_addRule post (nI U, nI R, nI C, nI cn, wl, fc, dj, cl, pm, asg, rk, ra, rt, rp, rn, wr, wa, la, ds, pv, ar, fs) kd (nI a) (nI t) x := by
  have h8 := zb_p8 hR
  have hfu : (1 : Int32) <<< (nI R &&& 31) = nI (2 ^ R) := (by decide +kernel : ∀ R, R < 9 → (1 : Int32) <<< (nI R &&& 31) = nI (2 ^ R)) R (by omega)
  have hM : wX_addRule_26 post kd (nI a) (nI t) x (nI U) (nI R) (nI C) (nI cn) wl fc dj cl pm asg rk ra rt rp rn wr wa la ds pv ar fs := by
    unfold wX_addRule_26
    refine zx_roleY hR ha (br_f (by decide) (zx_roleY hR ht (br_f (by decide) ?_)))
    refine br_t h0 ?_
    unfold wpX_positivePart wpX_negativePart
    rw [ep, eq]
    refine br_f (nI_pos (by omega)) ?_
    rw [hfu]
    refine br_f (nI_ge hp (by omega)) (br_f (by decide) (br_f (nI_pos (by omega)) ?_))
    rw [hfu]
    refine br_f (nI_ge hq (by omega)) (br_f (by decide) (br_t hpq (br_f (by decide) ?_)))
    have hi := pk_in cn 16 (show cn < 16 by omega)
    rw [nI_clamp (show cn < 2 ^ 31 by omega)]
    exact ⟨hi, nm_e ⟨hi, nm_e ⟨hi, nm_e ⟨hi, nm_e ⟨hi, nm_e (nm_r (nI_1 cn) h)⟩⟩⟩⟩⟩
  refine pk_lt cn C (fun _ => ?_) (fun z => absurd z (by omega))
  rcases hk with e | e
  · exact br_t e hM
  · exact br_f (by rw [e]; decide) (br_t e hM)
end
end
section
/-! levels: E a b, some rule takes set a to set b -/
def zq_E (ap : Nat → Nat → Prop) (go : Nat → Nat → Nat) (R : Nat) (a b : Nat) : Prop := a < 2 ^ R ∧ ∃ i, ap a i ∧ go a i = b
def zq_V (E : Nat → Nat → Prop) (st : Nat) : Nat → Nat → Prop
  | 0 => fun _ => False
  | n + 1 => zw_d E st n
theorem zq_hE {ap : Nat → Nat → Prop} {go : Nat → Nat → Nat} {R : Nat} (hg : ∀ s i, s < 2 ^ R → ap s i → go s i < 2 ^ R) : ∀ a b, zq_E ap go R a b → b < 2 ^ R := by
  intro a b ⟨h1, i, h2, h3⟩
  rw [← h3]
  exact hg a i h1 h2
theorem zq_run {ap : Nat → Nat → Prop} {go : Nat → Nat → Nat} {R st : Nat} : ∀ {n t : Nat}, zw_d (zq_E ap go R) st n t → ∃ q, zp_run ap go q st t ∧ q.length ≤ n := by
  intro n
  induction n with
  | zero => exact fun {t} h => ⟨[], h, Nat.le_refl _⟩
  | succ n ih =>
    intro t h
    rcases h with h | ⟨a, h, _, i, h1, h2⟩
    · obtain ⟨q, a, b⟩ := ih h
      exact ⟨q, a, by omega⟩
    · obtain ⟨q, a, b⟩ := ih h
      refine ⟨q ++ [i], ?_, by rw [List.length_append, List.length_singleton]; omega⟩
      rw [← h2]
      exact zp_sn a h1
theorem zq_nur {ap : Nat → Nat → Prop} {go : Nat → Nat → Nat} {R st : Nat} (hg : ∀ s i, s < 2 ^ R → ap s i → go s i < 2 ^ R) : ∀ (q : List Nat) (s t n : Nat), s < 2 ^ R → zw_d (zq_E ap go R) st n s → zp_run ap go q s t → zw_d (zq_E ap go R) st (n + q.length) t := by
  intro q
  induction q with
  | nil =>
    intro s t n _ h hr
    have e : s = t := hr
    rw [← e]
    exact h
  | cons i q ih =>
    intro s t n hs h hr
    have w := ih (go s i) t (n + 1) (hg s i hs hr.1) (Or.inr ⟨s, h, hs, i, hr.1, rfl⟩) hr.2
    rw [List.length_cons, show n + (q.length + 1) = n + 1 + q.length by omega]
    exact w
theorem zq_nr {ap : Nat → Nat → Prop} {go : Nat → Nat → Nat} {R st t : Nat} {q : List Nat} (hg : ∀ s i, s < 2 ^ R → ap s i → go s i < 2 ^ R) (hst : st < 2 ^ R) (h : zp_run ap go q st t) : zw_d (zq_E ap go R) st q.length t := by
  have w := zq_nur hg q st t 0 hst rfl h
  rw [Nat.zero_add] at w
  exact w
def zq_i (ap : Nat → Nat → Prop) (go : Nat → Nat → Nat) (E : Nat → Nat → Prop) (st lv : Nat) (x y : Int32) (S i : Nat) : Prop :=
  (∀ s, bt x s = true → zw_d E st (lv + 1) s) ∧ (∀ s, zw_d E st lv s → bt x s = true) ∧
  (∀ a j, (a < S ∨ (a = S ∧ j < i)) → zw_d E st lv a → ¬ zq_V E st lv a → ap a j → bt x (go a j) = true) ∧
  (∀ s, bt y s = true ↔ (bt x s = true ∧ ¬ zw_d E st lv s))
theorem zq_isk {ap : Nat → Nat → Prop} {go : Nat → Nat → Nat} {E : Nat → Nat → Prop} {st lv : Nat} {x y : Int32} {S i : Nat} (h : zq_i ap go E st lv x y S i) (ha : ap S i → bt x (go S i) = true) : zq_i ap go E st lv x y S (i + 1) := by
  refine ⟨h.1, h.2.1, fun a j hj h1 h2 h3 => ?_, h.2.2.2⟩
  by_cases hc : a < S ∨ (a = S ∧ j < i)
  · exact h.2.2.1 a j hc h1 h2 h3
  · have e1 : a = S := by omega
    have e2 : j = i := by omega
    subst e1 e2
    exact ha h3
theorem zq_ise {ap : Nat → Nat → Prop} {go : Nat → Nat → Nat} {R st lv : Nat} {x y : Int32} {S i : Nat} (h : zq_i ap go (zq_E ap go R) st lv x y S i) (hS : S < 2 ^ R) (hw : zw_d (zq_E ap go R) st lv S) (ha : ap S i) (hT : go S i < 32) (hb : bt x (go S i) = false) :
    zq_i ap go (zq_E ap go R) st lv (x ||| ((1 : Int32) <<< (nI (go S i) &&& 31))) (y ||| ((1 : Int32) <<< (nI (go S i) &&& 31))) S (i + 1) := by
  have hn : ¬ zw_d (zq_E ap go R) st lv (go S i) := by
    intro z
    rw [h.2.1 _ z] at hb
    exact absurd hb (by decide)
  have hk : ∀ s, bt x s = true → bt (x ||| ((1 : Int32) <<< (nI (go S i) &&& 31))) s = true := by
    intro s z
    rw [zb_set _ hT, z, Bool.true_or]
  refine ⟨fun s z => ?_, fun s z => hk s (h.2.1 s z), fun a j hj h1 h2 h3 => ?_, fun s => ?_⟩
  · rw [zb_set _ hT, Bool.or_eq_true] at z
    rcases z with z | z
    · exact h.1 s z
    · rw [of_decide_eq_true z]
      exact Or.inr ⟨S, hw, hS, i, ha, rfl⟩
  · by_cases hc : a < S ∨ (a = S ∧ j < i)
    · exact hk _ (h.2.2.1 a j hc h1 h2 h3)
    · have e1 : a = S := by omega
      have e2 : j = i := by omega
      subst e1 e2
      rw [zb_set _ hT, decide_eq_true rfl, Bool.or_true]
  · rw [zb_set _ hT, zb_set _ hT, Bool.or_eq_true, Bool.or_eq_true, h.2.2.2 s]
    constructor
    · rintro (⟨a, b⟩ | a)
      · exact ⟨Or.inl a, b⟩
      · exact ⟨Or.inr a, by rw [of_decide_eq_true a]; exact hn⟩
    · rintro ⟨a | a, b⟩
      · exact Or.inl ⟨a, b⟩
      · exact Or.inr a
theorem zq_inx {ap : Nat → Nat → Prop} {go : Nat → Nat → Nat} {E : Nat → Nat → Prop} {st lv N : Nat} {x y : Int32} {S : Nat} (hA : ∀ s i, ap s i → i < N) (h : zq_i ap go E st lv x y S N) : zq_i ap go E st lv x y (S + 1) 0 := by
  refine ⟨h.1, h.2.1, fun a j hj h1 h2 h3 => ?_, h.2.2.2⟩
  have := hA _ _ h3
  exact h.2.2.1 a j (by omega) h1 h2 h3
theorem zq_ins {ap : Nat → Nat → Prop} {go : Nat → Nat → Nat} {E : Nat → Nat → Prop} {st lv : Nat} {x y : Int32} {S : Nat} (hn : ¬ (zw_d E st lv S ∧ ¬ zq_V E st lv S)) (h : zq_i ap go E st lv x y S 0) : zq_i ap go E st lv x y (S + 1) 0 := by
  refine ⟨h.1, h.2.1, fun a j hj h1 h2 h3 => ?_, h.2.2.2⟩
  by_cases hc : a < S
  · exact h.2.2.1 a j (Or.inl hc) h1 h2 h3
  · have e1 : a = S := by omega
    subst e1
    exact absurd ⟨h1, h2⟩ hn
theorem zq_ien {ap : Nat → Nat → Prop} {go : Nat → Nat → Nat} {R st lv : Nat} {x y : Int32} (hg : ∀ s i, s < 2 ^ R → ap s i → go s i < 2 ^ R) (hst : st < 2 ^ R) (h : zq_i ap go (zq_E ap go R) st lv x y (2 ^ R) 0) :
    (∀ s, bt x s = true ↔ zw_d (zq_E ap go R) st (lv + 1) s) ∧ (∀ s, bt y s = true ↔ (zw_d (zq_E ap go R) st (lv + 1) s ∧ ¬ zq_V (zq_E ap go R) st (lv + 1) s)) := by
  have hx : ∀ s, bt x s = true ↔ zw_d (zq_E ap go R) st (lv + 1) s := by
    intro s
    refine ⟨h.1 s, fun z => ?_⟩
    rcases z with z | ⟨a, z, ha, i, h1, h2⟩
    · exact h.2.1 s z
    · by_cases hv : zq_V (zq_E ap go R) st lv a
      · cases lv with
        | zero => exact hv.elim
        | succ n => exact h.2.1 s (Or.inr ⟨a, hv, ha, i, h1, h2⟩)
      · rw [← h2]
        exact h.2.2.1 a i (Or.inl ha) z hv h1
  refine ⟨hx, fun s => ?_⟩
  rw [h.2.2.2 s, hx s]
  exact Iff.rfl
theorem zq_ibg {ap : Nat → Nat → Prop} {go : Nat → Nat → Nat} {E : Nat → Nat → Prop} {st lv : Nat} {x : Int32} (h : ∀ s, bt x s = true ↔ zw_d E st lv s) : zq_i ap go E st lv x 0 0 0 := by
  refine ⟨fun s z => Or.inl ((h s).mp z), fun s z => (h s).mpr z, fun a j hj => by omega, fun s => ?_⟩
  rw [b_0]
  exact ⟨fun z => absurd z (by decide), fun z => absurd ((h s).mp z.1) z.2⟩
theorem zq_Vle {E : Nat → Nat → Prop} {st lv s : Nat} (h : zq_V E st lv s) : zw_d E st lv s := by
  cases lv with
  | zero => exact h.elim
  | succ n => exact Or.inl h
/-! the least length so far -/
def zq_D (ap : Nat → Nat → Prop) (go : Nat → Nat → Nat) (T : Nat → Prop) (st m : Nat) : Prop := (∃ q t, zp_run ap go q st t ∧ T t ∧ q.length = m) ∧ ∀ q t, zp_run ap go q st t → T t → m ≤ q.length
def zq_d (ap : Nat → Nat → Prop) (go : Nat → Nat → Nat) (T : Nat → Prop) (st : Nat) (B : Nat → Prop) (x : Int32) : Prop :=
  (x = -1 ∧ ∀ s, B s → ¬ T s) ∨ ∃ m, m ≤ 100 ∧ x = nI m ∧ zq_D ap go T st m
theorem zq_dst {ap : Nat → Nat → Prop} {go : Nat → Nat → Nat} {T : Nat → Prop} {R st lv S : Nat} (hg : ∀ s i, s < 2 ^ R → ap s i → go s i < 2 ^ R) (hst : st < 2 ^ R) (h : ∀ s, zq_V (zq_E ap go R) st lv s → ¬ T s) (hw : zw_d (zq_E ap go R) st lv S) (hv : ¬ zq_V (zq_E ap go R) st lv S) (hT : T S) : zq_D ap go T st lv := by
  have hm : ∀ q t, zp_run ap go q st t → T t → lv ≤ q.length := by
    intro q t hr ht
    rcases Nat.lt_or_ge q.length lv with hl | hl
    · have w := zq_nr hg hst hr
      cases lv with
      | zero => omega
      | succ n => exact absurd ht (h t (zw_le (by omega) w))
    · exact hl
  refine ⟨?_, hm⟩
  obtain ⟨q, h1, h2⟩ := zq_run hw
  have := hm q S h1 hT
  exact ⟨q, S, h1, hT, by omega⟩
/-! a frontier that is empty: all is found -/
theorem zq_all {ap : Nat → Nat → Prop} {go : Nat → Nat → Nat} {R st lv : Nat} (hg : ∀ s i, s < 2 ^ R → ap s i → go s i < 2 ^ R) (hst : st < 2 ^ R) (hR : R ≤ 5) (h : (∀ s, ¬ (zw_d (zq_E ap go R) st lv s ∧ ¬ zq_V (zq_E ap go R) st lv s)) ∨ 34 ≤ lv) : ∀ q t, zp_run ap go q st t → zq_V (zq_E ap go R) st lv t := by
  intro q t hr
  have w := zq_nr hg hst hr
  rcases h with h | h
  · cases lv with
    | zero => exact absurd ⟨(rfl : st = st), fun z => z.elim⟩ (h st)
    | succ n =>
      refine zw_fix (fun j hj => ?_) q.length t w
      exact Classical.byContradiction (fun z => h j ⟨hj, z⟩)
  · have h5 : 2 ^ R ≤ 32 := Nat.pow_le_pow_right (n := 2) (by omega) hR
    cases lv with
    | zero => omega
    | succ n => exact zw_le (by omega) (zw_cut (zq_hE hg) hst w)
/-! cells and remainders -/
def zq_c (L : Nat) (xs : Nat → Int32) (k : Nat) : Int32 := if k < L then xs k else 0
theorem zq_cell {post : Int32 → Prop} {L : Nat} {xs : Nat → Int32} {y : Int32} (k : Nat) (hL : L ≤ 260) (hk : k < 1000) (e : y = nI k) (h : post (zq_c L xs k)) : wpL_cell post L xs () y := by
  subst e
  unfold zq_c at h
  refine pk_le L k (fun z => ?_) (fun z => ⟨pk_in k L z, ?_⟩)
  · rw [if_neg (by omega)] at h
    exact h
  · rw [if_pos z] at h
    rw [nI_clamp (by omega)]
    exact h
def zq_r (x : Int32) (n : Nat) : Int32 := if 0 ≤ x - x / nI n * nI n then x - x / nI n * nI n else x - x / nI n * nI n + nI n
def zq_m (x : Int32) (n : Nat) : Nat := (zq_r x n).toNatClampNeg
theorem zq_rj (x : Int32) {n : Nat} (h0 : 0 < n) (hn : n < 256) : ∃ j, j < n ∧ zq_r x n = nI j := by
  have t := tmod_bounds (a := x.toInt) (M := (n : Int)) (by omega)
  have e : (x - x / nI n * nI n).toInt = x.toInt.tmod n := by rw [rem_toInt, nI_toInt (by omega)]
  unfold zq_r
  by_cases h : 0 ≤ x - x / nI n * nI n
  · rw [if_pos h]
    obtain ⟨j, hj, ej⟩ := nI_of (Int32.not_lt.mpr h)
    rw [ej, nI_toInt hj] at e
    exact ⟨j, by omega, ej⟩
  · rw [if_neg h]
    have hl : (x - x / nI n * nI n).toInt < 0 := by
      have a := Int32.lt_iff_toInt_lt.mp (Int32.not_le.mp h)
      rw [show (0 : Int32).toInt = 0 from by decide] at a
      exact a
    have e2 : (x - x / nI n * nI n + nI n).toInt = x.toInt.tmod n + n := by
      rw [Int32.toInt_add, e, nI_toInt (by omega)]
      exact Int.bmod_eq_of_le (by omega) (by omega)
    obtain ⟨j, hj, ej⟩ := nI_of (x := x - x / nI n * nI n + nI n) (by
      intro z
      have a := Int32.lt_iff_toInt_lt.mp z
      rw [e2, show (0 : Int32).toInt = 0 from by decide] at a
      omega)
    rw [ej, nI_toInt hj] at e2
    exact ⟨j, by omega, ej⟩
theorem zq_mE (x : Int32) {n : Nat} (h0 : 0 < n) (hn : n < 256) : zq_r x n = nI (zq_m x n) ∧ zq_m x n < n := by
  obtain ⟨j, hj, e⟩ := zq_rj x h0 hn
  have e2 : zq_m x n = j := by
    unfold zq_m
    rw [e, nI_clamp (by omega)]
  rw [e2]
  exact ⟨e, hj⟩
theorem zq_mm {post : Int32 → Prop} {x y : Int32} (n : Nat) (h0 : 0 < n) (hn : n < 256) (e : y = nI n) (h : post (nI (zq_m x n))) : wpL_m post () x y := by
  subst e
  have hz := (zq_mE x h0 hn).1
  unfold zq_r at hz
  refine ⟨nI_ne0 h0 (by omega), nm_e (br_c (fun z => ?_) (fun z => ?_))⟩
  · rw [if_pos z] at hz
    rw [hz]
    exact h
  · rw [if_neg z] at hz
    rw [hz]
    exact h
theorem zq_us (x : Int32) {l : Nat} (hl : l < 32) : ((x.toUInt32 >>> ((nI l).toUInt32 &&& Int32.toUInt32 31)).toInt32 &&& 1) = 0 ↔ bt x l = false := by
  have h0 : bt ((x.toUInt32 >>> ((nI l).toUInt32 &&& Int32.toUInt32 31)).toInt32) 0 = bt x l := by
    rw [b_ushr l hl x 0]
    rfl
  constructor
  · intro h
    have e := congrArg (fun z => bt z 0) h
    rw [b_and, zb_1, b_0, h0, decide_eq_true rfl, Bool.and_true] at e
    exact e
  · intro h
    apply b_ext
    intro i _
    rw [b_and, zb_1, b_0]
    by_cases e : i = 0
    · subst e; rw [h0, h]; rfl
    · rw [decide_eq_false e, Bool.and_false]
theorem zq_ub {A B : Prop} (x : Int32) {l : Nat} (hl : l < 32) (f : bt x l = false → A) (g : bt x l = true → B) : (((x.toUInt32 >>> ((nI l).toUInt32 &&& Int32.toUInt32 31)).toInt32 &&& 1) = 0 → A) ∧ (¬ ((x.toUInt32 >>> ((nI l).toUInt32 &&& Int32.toUInt32 31)).toInt32 &&& 1) = 0 → B) :=
  br_c (fun z => f ((zq_us x hl).mp z)) (fun z => g (zb_nf (fun w => z ((zq_us x hl).mpr w))))
theorem zq_fu : ∀ R, R < 9 → ((1 : Int32) <<< (nI R &&& 31)) - 1 = nI (2 ^ R - 1) := by decide +kernel
theorem zq_fb : ∀ R, R < 9 → ∀ i, i < 32 → bt (nI (2 ^ R - 1)) i = decide (i < R) := by decide +kernel
def zq_p (d f : Int32) : Int32 := (d &&& ((d.toUInt32 >>> ((8 : Int32).toUInt32 &&& Int32.toUInt32 31)).toInt32)) &&& f
def zq_n (d f : Int32) : Int32 := ((((d.toUInt32 >>> ((16 : Int32).toUInt32 &&& Int32.toUInt32 31)).toInt32) &&& ((d.toUInt32 >>> ((24 : Int32).toUInt32 &&& Int32.toUInt32 31)).toInt32)) &&& f) &&& (zq_p d f ^^^ (-1))
theorem zq_fh {R : Nat} (hR : R ≤ 8) : ∀ j, R ≤ j → bt (nI (2 ^ R - 1)) j = false := by
  intro j hj
  rcases Nat.lt_or_ge j 32 with h | h
  · rw [zq_fb R (by omega) j h, decide_eq_false (by omega)]
  · exact b_big h
theorem zq_pb {R : Nat} (hR : R ≤ 8) (d : Int32) : ∀ j, R ≤ j → bt (zq_p d (nI (2 ^ R - 1))) j = false := by
  intro j hj
  unfold zq_p
  rw [b_and, zq_fh hR j hj, Bool.and_false]
theorem zq_nb {R : Nat} (hR : R ≤ 8) (d : Int32) : ∀ j, R ≤ j → bt (zq_n d (nI (2 ^ R - 1))) j = false := by
  intro j hj
  unfold zq_n
  rw [b_and, b_and, zq_fh hR j hj, Bool.and_false, Bool.false_and]
theorem zq_pn {f : Int32} (d : Int32) : zq_p d f &&& zq_n d f = 0 := by
  apply b_ext
  intro i hi
  rw [b_0, b_and]
  unfold zq_n
  rw [b_and, b_xor, b_m1 i hi, Bool.xor_true]
  cases bt (zq_p d f) i
  · rfl
  · simp
/-! the packed condition of two masks below 256 -/
theorem zq_cb {p q : Int32} (hp : ∀ j, 8 ≤ j → bt p j = false) (hq : ∀ j, 8 ≤ j → bt q j = false) :
    ((p ||| (q <<< ((8 : Int32) &&& 31))).toUInt32 >>> ((16 : Int32).toUInt32 &&& Int32.toUInt32 31)).toInt32 = 0 ∧ (p ||| (q <<< ((8 : Int32) &&& 31))) &&& 255 = p ∧ (((p ||| (q <<< ((8 : Int32) &&& 31))).toUInt32 >>> ((8 : Int32).toUInt32 &&& Int32.toUInt32 31)).toInt32) &&& 255 = q := by
  have hs : ∀ i, i < 32 → bt (p ||| (q <<< ((8 : Int32) &&& 31))) i = (bt p i || (decide (8 ≤ i) && bt q (i - 8))) := by
    intro i hi
    rw [b_or, b_shl8 q hi]
  have hb : ∀ i, 32 ≤ i → bt (p ||| (q <<< ((8 : Int32) &&& 31))) i = false := fun i hi => b_big hi
  refine ⟨?_, ?_, ?_⟩
  · apply b_ext
    intro i hi
    rw [b_0]
    have e := b_ushr 16 (by omega) (p ||| (q <<< ((8 : Int32) &&& 31))) i
    refine e.trans ?_
    rcases Nat.lt_or_ge (16 + i) 32 with h | h
    · rw [hs _ h, hp _ (by omega), hq _ (by omega), Bool.and_false, Bool.or_self]
    · exact hb _ h
  · apply b_ext
    intro i hi
    rw [b_and, b_255, hs i hi]
    rcases Nat.lt_or_ge i 8 with h | h
    · rw [decide_eq_true h, Bool.and_true, decide_eq_false (by omega), Bool.false_and, Bool.or_false]
    · rw [show decide (i < 8) = false from decide_eq_false (by omega), Bool.and_false, hp i h]
  · apply b_ext
    intro i hi
    rw [b_and, b_255]
    have e := b_ushr 8 (by omega) (p ||| (q <<< ((8 : Int32) &&& 31))) i
    rw [show bt (((p ||| (q <<< ((8 : Int32) &&& 31))).toUInt32 >>> ((8 : Int32).toUInt32 &&& Int32.toUInt32 31)).toInt32) i = bt (p ||| (q <<< ((8 : Int32) &&& 31))) (8 + i) from e]
    rcases Nat.lt_or_ge i 8 with h | h
    · rw [decide_eq_true h, Bool.and_true, hs _ (by omega), hp _ (by omega), decide_eq_true (by omega), Bool.false_or, Bool.true_and, show 8 + i - 8 = i by omega]
    · rw [show decide (i < 8) = false from decide_eq_false (by omega), Bool.and_false, hq i h]
end
section
theorem zs_putG {f w : Nat → Int32} {p dn rest : List Nat} {i : Nat} (e : dn ++ i :: rest = p) : zs_put f w p dn.length = f i := by
  subst e
  unfold zs_put
  rw [if_pos (by simp), List.getD_eq_getElem?_getD, List.getElem?_append_right (Nat.le_refl _), Nat.sub_self]
  rfl
theorem zq_uu {f : Nat → Int32} {k : Nat} {a b : Int32} : upd (upd f k a) k b = upd f k b := by
  funext j
  by_cases e : j = k
  · rw [e, pk_us, pk_us]
  · rw [pk_un e, pk_un e, pk_un e]
theorem zq_su {f : Nat → Int32} {k : Nat} {a : Int32} (h : f k = a) : f = upd f k a := by
  funext j
  by_cases e : j = k
  · rw [e, pk_us, h]
  · rw [pk_un e]
theorem zl_ne (g : Nat → Bool) : ∀ d j : Nat, j + d < 1000 → (¬ zl_f g d j = -1 ↔ ∃ v, j ≤ v ∧ v < j + d ∧ g v = true) := by
  intro d
  induction d with
  | zero =>
    intro j _
    exact ⟨fun z => absurd rfl z, fun ⟨v, h1, h2, _⟩ => by omega⟩
  | succ d ih =>
    intro j hj
    by_cases h : g j = true
    · rw [show zl_f g (d + 1) j = nI j from if_pos h]
      exact ⟨fun _ => ⟨j, Nat.le_refl _, by omega, h⟩, fun _ => zs_m1 (by omega)⟩
    · rw [show zl_f g (d + 1) j = zl_f g d (j + 1) from if_neg h, ih (j + 1) (by omega)]
      constructor
      · intro ⟨v, h1, h2, h3⟩
        exact ⟨v, by omega, by omega, h3⟩
      · intro ⟨v, h1, h2, h3⟩
        by_cases e : v = j
        · rw [e] at h3
          exact absurd h3 h
        · exact ⟨v, by omega, by omega, h3⟩
section
variable {U R C cn : Nat} {wl fc : Int32} {dj cl pm asg rk ra rt rp rn wr wa la ds pv ar fs : Nat → Int32} {post : Int32 → Prop} {L kc ks u g st : Nat} {xs : Nat → Int32}
theorem zq_834 {t : Nat} {p : List Nat} (hR : R ≤ 8) (hU : U ≤ 8) (hc : cn ≤ 16) (hr : zi_ru cn R ra rt) (hu : u < U) (hg : g < R) (hl : p.length ≤ 255) (h1 : post 1) (hT : bt (zr_ef cl R t) g = true) :
    ∀ (rest dn : List Nat) (s m : Nat), dn ++ rest = p → s < 2 ^ R → zp_run (zr_ap cn R cl (zl_a U R u cl asg ra) rk rt rp rn) (zr_go rk rt) rest s t → rest.length < m → wL_law_834 post L xs (nI u) (nI g) (nI p.length) kc ks m (nI dn.length) (nI U) (nI R) (nI C) (nI cn) (nI p.length) fc dj cl pm (upd asg u (nI s)) rk ra rt rp rn (zs_put nI wr p) (zs_put (zl_a U R u cl asg ra) wa p) la ds pv ar fs := by
  intro rest
  induction rest with
  | nil =>
    intro dn s m hp hs hrun hm
    obtain ⟨m, rfl⟩ : ∃ x, m = x + 1 := ⟨m - 1, by omega⟩
    have e : s = t := hrun
    have e2 : dn = p := by rw [← hp, List.append_nil]
    rw [e2]
    refine pk_le p.length p.length (fun _ => zx_efr hR hU hu ?_) (fun z => absurd z (by omega))
    rw [pk_us, e]
    exact zq_ub _ (by omega) (fun z => absurd (show bt (zr_ef cl R t) g = false from z) (by rw [hT]; decide)) (fun _ => h1)
  | cons i rest ih =>
    intro dn s m hp hs hrun hm
    obtain ⟨m, rfl⟩ : ∃ x, m = x + 1 := ⟨m - 1, by omega⟩
    have hlen : dn.length + (rest.length + 1) = p.length := by rw [← hp, List.length_append, List.length_cons]
    simp only [List.length_cons] at hm
    obtain ⟨hap, hrun⟩ := hrun
    obtain ⟨⟨a, ha, ea⟩, t2, ht2, et2⟩ := hr i hap.1
    have h8 := zb_p8 hR
    have hgo := zr_goE (rk := rk) hR ht2 et2 hs
    have eaa : (ra i).toNatClampNeg = a := by rw [ea, nI_clamp (by omega)]
    have ett : (rt i).toNatClampNeg = t2 := by rw [et2, nI_clamp (by omega)]
    rcases zl_in (fun v => !decide (v = u) && bt (zx_ex cl (asg v) R) (ra i).toNatClampNeg) U 0 with z | ⟨v, hv, hgv, ev⟩
    · exact absurd z hap.2.1
    · have ev2 : zl_a U R u cl asg ra i = nI v := ev
      rw [Bool.and_eq_true] at hgv
      have hvu : v ≠ u := by
        intro z
        rw [decide_eq_true z] at hgv
        exact absurd hgv.1 (by decide)
      refine pk_le p.length dn.length (fun z => absurd z (by omega)) (fun _ => zx_wad (by omega) hl ?_)
      rw [zs_putG hp]
      refine zx_wru (by omega) hl ?_
      rw [zs_putG hp, ev2]
      refine zx_act1 (asg := upd asg u (nI s)) hR hU hc (by omega) hu hap.1 ha ea ht2 et2 hvu ?_ ?_ ?_ (br_t rfl (nm_r (nI_1 _) ?_))
      · rw [pk_un hvu, ← eaa]
        exact hgv.2
      · rw [pk_us]
        exact ⟨hap.2.2.1, hap.2.2.2.1⟩
      · have w := hap.2.2.2.2
        rw [ett] at w
        rw [pk_us]
        exact w
      · rw [pk_us, ← hgo.1, zq_uu]
        have nx := ih (dn ++ [i]) (zr_go rk rt s i) m (by rw [← hp]; simp) hgo.2 hrun (by omega)
        rw [List.length_append, List.length_singleton] at nx
        exact nx
def zq_A (U R cn u g st : Nat) (x8 wl : Int32) (cl asg rk ra rt rp rn wr wa : Nat → Int32) : Prop :=
  (x8 = 2 ∧ wl = -1 ∧ ∀ q t, zp_run (zr_ap cn R cl (zl_a U R u cl asg ra) rk rt rp rn) (zr_go rk rt) q st t → ¬ bt (zr_ef cl R t) g = true) ∨
  ∃ (p : List Nat) (wr0 wa0 : Nat → Int32), x8 = 1 ∧ wl = nI p.length ∧ wr = zs_put nI wr0 p ∧ wa = zs_put (zl_a U R u cl asg ra) wa0 p ∧ p.length ≤ 255 ∧ zp_min (zr_ap cn R cl (zl_a U R u cl asg ra) rk rt rp rn) (zr_go rk rt) (fun t => bt (zr_ef cl R t) g = true) st p
theorem zq_773 {x8 x13 x14 : Int32} (hR : R ≤ 8) (hU : U ≤ 8) (hc : cn ≤ 16) (hr : zi_ru cn R ra rt) (hu : u < U) (hg : g < R) (hst : st < 2 ^ R) (eu : asg u = nI st) (h1 : post 1)
    (hA : zq_A U R cn u g st x8 wl cl asg rk ra rt rp rn wr wa)
    (hrc : ∀ b, bt x14 b = true ↔ ∃ s, (∃ q, zp_run (zr_ap cn R cl (zl_a U R u cl asg ra) rk rt rp rn) (zr_go rk rt) q st s) ∧ bt (zr_ef cl R s) b = true)
    (hd : zq_d (zr_ap cn R cl (zl_a U R u cl asg ra) rk rt rp rn) (zr_go rk rt) (fun t => bt (zr_ef cl R t) g = true) st (fun s => ∃ q, zp_run (zr_ap cn R cl (zl_a U R u cl asg ra) rk rt rp rn) (zr_go rk rt) q st s) x13) : wL_law_773 post L xs (nI u) (nI g) x8 x13 x14 kc ks (nI U) (nI R) (nI C) (nI cn) wl fc dj cl pm asg rk ra rt rp rn wr wa la ds pv ar fs := by
  unfold wL_law_773
  refine zx_reach hR hU hc hr hu hst eu (fun n Q P y he hq hy fc la ds pv ar fs => ?_)
  have ey : y = x14 := by
    apply zo_ext
    intro b
    rw [hy b, hrc b]
    constructor
    · intro ⟨j, k1, k2⟩
      exact ⟨Q j, ⟨P (Q j), he.2.2.2.1 j k1⟩, k2⟩
    · intro ⟨s, ⟨q, hq2⟩, k2⟩
      obtain ⟨j, j1, j2, _⟩ := zp_fnd he hq2
      exact ⟨j, j1, by rw [j2]; exact k2⟩
  refine br_t ey ?_
  rcases hA with ⟨e8, ew, hn⟩ | ⟨p, wr0, wa0, e8, ew, er, ea, hl, hm⟩
  · rcases hd with ⟨e13, _⟩ | ⟨m, _, _, ⟨q, t, k1, k2, _⟩, _⟩
    · subst e8 ew e13
      exact br_f (by decide) (br_t rfl (br_t rfl h1))
    · exact absurd k2 (hn q t k1)
  · obtain ⟨t, hrun, hT⟩ := hm.1
    rcases hd with ⟨_, hn⟩ | ⟨m, hm100, e13, ⟨q, t', k1, k2, k3⟩, kmin⟩
    · exact absurd hT (hn t ⟨p, hrun⟩)
    · have em : m = p.length := by
        have a := zp_mlen (fun s i h => Nat.lt_of_lt_of_le h.1 hc) hm k1 k2
        have b := kmin p t hrun hT
        omega
      subst e8 ew e13 er ea em
      refine br_t (nI_pos' (by omega)) (br_t rfl (br_t rfl ⟨p.length + 1, ?_⟩))
      rw [zq_su eu]
      have e3 : zl_a U R u cl (upd asg u (nI st)) ra = zl_a U R u cl asg ra := by rw [← zq_su eu]
      rw [e3]
      exact zq_834 hR hU hc hr hu hg hl h1 hT p [] st (p.length + 1) rfl hst hrun (by omega)
end
end
section
def zq_rl (L : Nat) (xs : Nat → Int32) (cn R : Nat) (rk ra rt rp rn : Nat → Int32) : Prop := ∀ i, i < cn →
  rk i = 1 + (zq_c L xs (13 + 2 * i) &&& 1) ∧
  ra i = nI (zq_m ((zq_c L xs (13 + 2 * i)).toUInt32 >>> ((1 : Int32).toUInt32 &&& Int32.toUInt32 31)).toInt32 R) ∧
  rt i = nI (zq_m ((zq_c L xs (13 + 2 * i)).toUInt32 >>> ((4 : Int32).toUInt32 &&& Int32.toUInt32 31)).toInt32 R) ∧
  rp i = zq_p (zq_c L xs (14 + 2 * i)) (nI (2 ^ R - 1)) ∧ rn i = zq_n (zq_c L xs (14 + 2 * i)) (nI (2 ^ R - 1))
theorem zq_rru {L cn R : Nat} {xs rk ra rt rp rn : Nat → Int32} (h0 : 0 < R) (hR : R ≤ 5) (h : zq_rl L xs cn R rk ra rt rp rn) : zi_ru cn R ra rt := by
  intro i hi
  obtain ⟨_, e1, e2, _⟩ := h i hi
  exact ⟨⟨_, (zq_mE _ h0 (by omega)).2, e1⟩, ⟨_, (zq_mE _ h0 (by omega)).2, e2⟩⟩
theorem zq_i2 (a i : Nat) : nI a + nI 2 * nI i = nI (a + 2 * i) := by
  rw [show nI 2 * nI i = nI (2 * i) from (Int32.ofNat_mul 2 i).symm, nI_add]
theorem zq_posW {post : Int32 → Prop} {d f : Int32} (h : post (zq_p d f)) : wpL_pos post () d f := h
theorem zq_negW {post : Int32 → Prop} {d f : Int32} (h : post (zq_n d f)) : wpL_neg post () d f := h
section
variable {U R C cn : Nat} {wl fc : Int32} {dj cl pm asg rk ra rt rp rn wr wa la ds pv ar fs : Nat → Int32} {post : Int32 → Prop} {L kc ks u g st : Nat} {xs : Nat → Int32}
theorem zq_efO {post : Int32 → Prop} {s : Int32} (hR : R ≤ 8) (h : post (zx_ex cl s R)) : wpL_effOf post (nI U, nI R, nI C, nI cn, wl, fc, dj, cl, pm, asg, rk, ra, rt, rp, rn, wr, wa, la, ds, pv, ar, fs) s (nI R) := by
  have H : ∀ d r n : Nat, r + d = R → d < n → wL_effOf_5 post s (nI R) (nI U) (nI R) (nI C) (nI cn) wl fc dj cl pm asg rk ra rt rp rn wr wa la ds pv ar fs n (zx_ex cl s r) (nI r) := by
    intro d
    induction d with
    | zero =>
      intro r n hr hn
      obtain ⟨n, rfl⟩ : ∃ m, n = m + 1 := ⟨n - 1, by omega⟩
      have e : r = R := by omega
      rw [e]
      exact pk_le R R (fun _ => h) (fun z => absurd z (by omega))
    | succ d ih =>
      intro r n hr hn
      obtain ⟨n, rfl⟩ : ∃ m, n = m + 1 := ⟨n - 1, by omega⟩
      have i := ih (r + 1) n (by omega) (by omega)
      refine pk_le R r (fun z => absurd z (by omega)) (fun _ => zq_ub s (by omega) (fun hb => ?_) (fun hb => ?_))
      · have e : zx_ex cl s (r + 1) = zx_ex cl s r := if_neg (by rw [hb]; decide)
        rw [e] at i
        exact nm_r (nI_1 r) i
      · have e : zx_ex cl s (r + 1) = zx_ex cl s r ||| cl r := if_pos hb
        rw [e] at i
        exact zx_jun hR (by omega) (nm_e (nm_r (nI_1 r) i))
  exact ⟨R + 1, H R 0 (R + 1) (by omega) (by omega)⟩
theorem zq_559 {J482 J500 : Int32 → Int32 → Int32 → Int32 → Int32 → Prop} {x8 x9 x12 x13 x14 : Int32} {lv S : Nat} (hL : L ≤ 260) (h0 : 0 < R) (hR : R ≤ 5) (hc : cn ≤ 6) (hrl : zq_rl L xs cn R rk ra rt rp rn) (hok : ∀ i, i < cn → (bt x9 i = true ↔ ¬ (zl_a U R u cl asg ra) i = -1)) (hS : S < 2 ^ R) (hw : zw_d (zq_E (zr_ap cn R cl (zl_a U R u cl asg ra) rk rt rp rn) (zr_go rk rt) R) st lv S)
    (hJ : ∀ x y, zq_i (zr_ap cn R cl (zl_a U R u cl asg ra) rk rt rp rn) (zr_go rk rt) (zq_E (zr_ap cn R cl (zl_a U R u cl asg ra) rk rt rp rn) (zr_go rk rt) R) st lv x y S cn → J500 x x13 x14 y (nI (S + 1))) :
    ∀ (f i m : Nat) (x y : Int32), i + f = cn → f < m → zq_i (zr_ap cn R cl (zl_a U R u cl asg ra) rk rt rp rn) (zr_go rk rt) (zq_E (zr_ap cn R cl (zl_a U R u cl asg ra) rk rt rp rn) (zr_go rk rt) R) st lv x y S i → wL_law_559 post L xs J482 J500 (nI R) (nI cn) (nI (2 ^ R - 1)) (nI u) (nI g) x8 x9 x12 x13 x14 (nI lv) (nI S) (zr_ef cl R S) kc ks (nI U) (nI R) (nI C) (nI cn) wl fc dj cl pm asg rk ra rt rp rn wr wa la ds pv ar fs m x y (nI i) := by
  intro f
  have h5 : 2 ^ R ≤ 32 := Nat.pow_le_pow_right (n := 2) (by omega) hR
  induction f with
  | zero =>
    intro i m x y hi hm hv
    obtain ⟨m, rfl⟩ : ∃ z, m = z + 1 := ⟨m - 1, by omega⟩
    have e : i = cn := by omega
    rw [e] at hv ⊢
    exact pk_le cn cn (fun _ => nm_r (nI_1 S) (hJ x y hv)) (fun z => absurd z (by omega))
  | succ f ih =>
    intro i m x y hi hm hv
    obtain ⟨m, rfl⟩ : ∃ z, m = z + 1 := ⟨m - 1, by omega⟩
    have hic : i < cn := by omega
    obtain ⟨e1, e2, e3, e4, e5⟩ := hrl i hic
    have ht := (zq_mE ((zq_c L xs (13 + 2 * i)).toUInt32 >>> ((4 : Int32).toUInt32 &&& Int32.toUInt32 31)).toInt32 h0 (show R < 256 by omega)).2
    have skip : ((zr_ap cn R cl (zl_a U R u cl asg ra) rk rt rp rn) S i → bt x ((zr_go rk rt) S i) = true) → wL_law_559 post L xs J482 J500 (nI R) (nI cn) (nI (2 ^ R - 1)) (nI u) (nI g) x8 x9 x12 x13 x14 (nI lv) (nI S) (zr_ef cl R S) kc ks (nI U) (nI R) (nI C) (nI cn) wl fc dj cl pm asg rk ra rt rp rn wr wa la ds pv ar fs m x y (nI (i + 1)) :=
      fun hx => ih (i + 1) m x y (by omega) (by omega) (zq_isk hv hx)
    refine pk_le cn i (fun z => absurd z (by omega)) (fun _ => zq_ub x9 (by omega) (fun hb => ?_) (fun hb => ?_))
    · refine nm_r (nI_1 i) (skip (fun ha => absurd ((hok i hic).mpr ha.2.1) ?_))
      rw [hb]
      decide
    · have hl := (hok i hic).mp hb
      refine zq_cell (13 + 2 * i) hL (by omega) (zq_i2 13 i) (zq_cell (14 + 2 * i) hL (by omega) (zq_i2 14 i) (nm_e (zq_mm R h0 (by omega) rfl (zq_posW (zq_negW ?_)))))
      rw [← e1, ← e4, ← e5]
      generalize zq_m ((zq_c L xs (13 + 2 * i)).toUInt32 >>> ((4 : Int32).toUInt32 &&& Int32.toUInt32 31)).toInt32 R = t at e3 ht ⊢
      have hgo := zr_goE (rk := rk) (s := S) (show R ≤ 8 by omega) ht e3 hS
      have hgl := hgo.2
      have hge := hgo.1
      unfold zr_x at hge
      rw [e3] at hge
      have ett : (rt i).toNatClampNeg = t := by rw [e3, nI_clamp (by omega)]
      have arr : (zr_ap cn R cl (zl_a U R u cl asg ra) rk rt rp rn) S i → ∀ z : Int32, z = nI ((zr_go rk rt) S i) → wL_law_723 post L xs J482 J500 (wL_law_559 post L xs J482 J500 (nI R) (nI cn) (nI (2 ^ R - 1)) (nI u) (nI g) x8 x9 x12 x13 x14 (nI lv) (nI S) (zr_ef cl R S) kc ks (nI U) (nI R) (nI C) (nI cn) wl fc dj cl pm asg rk ra rt rp rn wr wa la ds pv ar fs m) (nI R) (nI cn) (nI (2 ^ R - 1)) (nI u) (nI g) x8 x9 x x12 x13 x14 (nI lv) y (nI S) (zr_ef cl R S) (nI i) z kc ks (nI U) (nI R) (nI C) (nI cn) wl fc dj cl pm asg rk ra rt rp rn wr wa la ds pv ar fs := by
        intro ha z hz
        subst hz
        unfold wL_law_723
        refine zq_ub x (by omega) (fun hb2 => ?_) (fun hb2 => nm_r (nI_1 i) (skip (fun _ => hb2)))
        exact nm_e (nm_e (nm_r (nI_1 i) (ih (i + 1) m _ _ (by omega) (by omega) (zq_ise hv hS hw ha (by omega) hb2))))
      refine br_c (fun y1 => br_c (fun y2 => zq_ub (nI S) (by omega) (fun b => ?_) (fun b => ?_)) (fun y2 => nm_r (nI_1 i) (skip (fun ha => absurd ha.2.2.2.1 y2)))) (fun y1 => nm_r (nI_1 i) (skip (fun ha => absurd ha.2.2.1 y1)))
      · unfold wL_law_676
        refine br_c (fun k1 => br_t rfl (fun z hz => ?_)) (fun k1 => br_t rfl (nm_r (nI_1 i) (skip (fun ha => ?_))))
        · rw [if_pos k1] at hge
          refine arr ⟨hic, hl, y1, y2, ?_⟩ z (by rw [hz, hge])
          rw [ett, b, show decide (¬ rk i = 1) = false from decide_eq_false (fun w => w k1)]
        · have w := ha.2.2.2.2
          rw [ett, b, decide_eq_true k1] at w
          exact absurd w (by decide)
      · unfold wL_law_676
        refine br_c (fun k1 => br_f (by decide) (nm_r (nI_1 i) (skip (fun ha => ?_)))) (fun k1 => br_f (by decide) (fun z hz => ?_))
        · have w := ha.2.2.2.2
          rw [ett, b, show decide (¬ rk i = 1) = false from decide_eq_false (fun w => w k1)] at w
          exact absurd w (by decide)
        · rw [if_neg k1] at hge
          refine arr ⟨hic, hl, y1, y2, ?_⟩ z (by rw [hz, hge])
          rw [ett, b, decide_eq_true k1]
theorem zq_500 {J482 : Int32 → Int32 → Int32 → Int32 → Int32 → Prop} {x8 x9 x12 : Int32} {lv : Nat} (hL : L ≤ 260) (h0 : 0 < R) (hR : R ≤ 5) (hc : cn ≤ 6) (hg : g < R) (hst : st < 2 ^ R) (hrl : zq_rl L xs cn R rk ra rt rp rn) (hok : ∀ i, i < cn → (bt x9 i = true ↔ ¬ (zl_a U R u cl asg ra) i = -1)) (hlv : lv ≤ 33)
    (hF : ∀ s, bt x12 s = true ↔ (zw_d (zq_E (zr_ap cn R cl (zl_a U R u cl asg ra) rk rt rp rn) (zr_go rk rt) R) st lv s ∧ ¬ zq_V (zq_E (zr_ap cn R cl (zl_a U R u cl asg ra) rk rt rp rn) (zr_go rk rt) R) st lv s))
    (hJ : ∀ x y x13 x14, zq_i (zr_ap cn R cl (zl_a U R u cl asg ra) rk rt rp rn) (zr_go rk rt) (zq_E (zr_ap cn R cl (zl_a U R u cl asg ra) rk rt rp rn) (zr_go rk rt) R) st lv x y (2 ^ R) 0 → zq_d (zr_ap cn R cl (zl_a U R u cl asg ra) rk rt rp rn) (zr_go rk rt) (fun t => bt (zr_ef cl R t) g = true) st (zw_d (zq_E (zr_ap cn R cl (zl_a U R u cl asg ra) rk rt rp rn) (zr_go rk rt) R) st lv) x13 → (∀ b, bt x14 b = true ↔ ∃ s, zw_d (zq_E (zr_ap cn R cl (zl_a U R u cl asg ra) rk rt rp rn) (zr_go rk rt) R) st lv s ∧ bt (zr_ef cl R s) b = true) → J482 x y x13 x14 (nI (lv + 1))) :
    ∀ (f S m : Nat) (x y x13 x14 : Int32), S + f = 2 ^ R → f < m → zq_i (zr_ap cn R cl (zl_a U R u cl asg ra) rk rt rp rn) (zr_go rk rt) (zq_E (zr_ap cn R cl (zl_a U R u cl asg ra) rk rt rp rn) (zr_go rk rt) R) st lv x y S 0 → zq_d (zr_ap cn R cl (zl_a U R u cl asg ra) rk rt rp rn) (zr_go rk rt) (fun t => bt (zr_ef cl R t) g = true) st (fun s => zq_V (zq_E (zr_ap cn R cl (zl_a U R u cl asg ra) rk rt rp rn) (zr_go rk rt) R) st lv s ∨ (zw_d (zq_E (zr_ap cn R cl (zl_a U R u cl asg ra) rk rt rp rn) (zr_go rk rt) R) st lv s ∧ s < S)) x13 → (∀ b, bt x14 b = true ↔ ∃ s, (zq_V (zq_E (zr_ap cn R cl (zl_a U R u cl asg ra) rk rt rp rn) (zr_go rk rt) R) st lv s ∨ (zw_d (zq_E (zr_ap cn R cl (zl_a U R u cl asg ra) rk rt rp rn) (zr_go rk rt) R) st lv s ∧ s < S)) ∧ bt (zr_ef cl R s) b = true) → wL_law_500 post L xs J482 (nI R) (nI cn) (nI (2 ^ R - 1)) (nI u) (nI g) x8 x9 x12 (nI lv) kc ks (nI U) (nI R) (nI C) (nI cn) wl fc dj cl pm asg rk ra rt rp rn wr wa la ds pv ar fs m x x13 x14 y (nI S) := by
  intro f
  have h5 : 2 ^ R ≤ 32 := Nat.pow_le_pow_right (n := 2) (by omega) hR
  have hp := Nat.two_pow_pos R
  have hgo : ∀ s i, s < 2 ^ R → (zr_ap cn R cl (zl_a U R u cl asg ra) rk rt rp rn) s i → (zr_go rk rt) s i < 2 ^ R := by
    intro s i hs ha
    obtain ⟨_, t, ht, et⟩ := zq_rru h0 hR hrl i ha.1
    exact (zr_goE (show R ≤ 8 by omega) ht et hs).2
  have hE := zq_hE hgo
  induction f with
  | zero =>
    intro S m x y x13 x14 hS hm hv hd hr
    obtain ⟨m, rfl⟩ : ∃ z, m = z + 1 := ⟨m - 1, by omega⟩
    have e : S = 2 ^ R := by omega
    have hB : ∀ s, (zq_V (zq_E (zr_ap cn R cl (zl_a U R u cl asg ra) rk rt rp rn) (zr_go rk rt) R) st lv s ∨ (zw_d (zq_E (zr_ap cn R cl (zl_a U R u cl asg ra) rk rt rp rn) (zr_go rk rt) R) st lv s ∧ s < S)) ↔ zw_d (zq_E (zr_ap cn R cl (zl_a U R u cl asg ra) rk rt rp rn) (zr_go rk rt) R) st lv s := by
      intro s
      exact ⟨fun z => z.elim zq_Vle (fun z => z.1), fun z => Or.inr ⟨z, by rw [e]; exact zw_in hE hst z⟩⟩
    rw [e] at hv
    refine pk_lt (2 ^ R - 1) S (fun _ => nm_r (nI_1 lv) (hJ x y x13 x14 hv ?_ (fun b => ?_))) (fun z => absurd z (by omega))
    · rcases hd with ⟨a, b⟩ | hd
      · exact Or.inl ⟨a, fun s hs => b s ((hB s).mpr hs)⟩
      · exact Or.inr hd
    · rw [hr b]
      constructor
      · intro ⟨s, k1, k2⟩
        exact ⟨s, (hB s).mp k1, k2⟩
      · intro ⟨s, k1, k2⟩
        exact ⟨s, (hB s).mpr k1, k2⟩
  | succ f ih =>
    intro S m x y x13 x14 hS hm hv hd hr
    obtain ⟨m, rfl⟩ : ∃ z, m = z + 1 := ⟨m - 1, by omega⟩
    refine pk_lt (2 ^ R - 1) S (fun z => absurd z (by omega)) (fun _ => zq_ub x12 (by omega) (fun hb => ?_) (fun hb => ?_))
    · have hn : ¬ (zw_d (zq_E (zr_ap cn R cl (zl_a U R u cl asg ra) rk rt rp rn) (zr_go rk rt) R) st lv S ∧ ¬ zq_V (zq_E (zr_ap cn R cl (zl_a U R u cl asg ra) rk rt rp rn) (zr_go rk rt) R) st lv S) := by
        intro z
        rw [(hF S).mpr z] at hb
        exact absurd hb (by decide)
      have hB : ∀ s, (zq_V (zq_E (zr_ap cn R cl (zl_a U R u cl asg ra) rk rt rp rn) (zr_go rk rt) R) st lv s ∨ (zw_d (zq_E (zr_ap cn R cl (zl_a U R u cl asg ra) rk rt rp rn) (zr_go rk rt) R) st lv s ∧ s < S + 1)) ↔ (zq_V (zq_E (zr_ap cn R cl (zl_a U R u cl asg ra) rk rt rp rn) (zr_go rk rt) R) st lv s ∨ (zw_d (zq_E (zr_ap cn R cl (zl_a U R u cl asg ra) rk rt rp rn) (zr_go rk rt) R) st lv s ∧ s < S)) := by
        intro s
        constructor
        · rintro (z | ⟨z, w⟩)
          · exact Or.inl z
          · by_cases e : s = S
            · rw [e] at z ⊢
              exact Or.inl (Classical.byContradiction (fun q => hn ⟨z, q⟩))
            · exact Or.inr ⟨z, by omega⟩
        · rintro (z | ⟨z, w⟩)
          · exact Or.inl z
          · exact Or.inr ⟨z, by omega⟩
      refine nm_r (nI_1 S) (ih (S + 1) m x y x13 x14 (by omega) (by omega) (zq_ins hn hv) ?_ (fun b => ?_))
      · rcases hd with ⟨a, b⟩ | hd
        · exact Or.inl ⟨a, fun s hs => b s ((hB s).mp hs)⟩
        · exact Or.inr hd
      · rw [hr b]
        constructor
        · intro ⟨s, k1, k2⟩
          exact ⟨s, (hB s).mpr k1, k2⟩
        · intro ⟨s, k1, k2⟩
          exact ⟨s, (hB s).mp k1, k2⟩
    · obtain ⟨hw, hnv⟩ := (hF S).mp hb
      have hB : ∀ s, (zq_V (zq_E (zr_ap cn R cl (zl_a U R u cl asg ra) rk rt rp rn) (zr_go rk rt) R) st lv s ∨ (zw_d (zq_E (zr_ap cn R cl (zl_a U R u cl asg ra) rk rt rp rn) (zr_go rk rt) R) st lv s ∧ s < S + 1)) ↔ ((zq_V (zq_E (zr_ap cn R cl (zl_a U R u cl asg ra) rk rt rp rn) (zr_go rk rt) R) st lv s ∨ (zw_d (zq_E (zr_ap cn R cl (zl_a U R u cl asg ra) rk rt rp rn) (zr_go rk rt) R) st lv s ∧ s < S)) ∨ s = S) := by
        intro s
        constructor
        · rintro (z | ⟨z, w⟩)
          · exact Or.inl (Or.inl z)
          · by_cases e : s = S
            · exact Or.inr e
            · exact Or.inl (Or.inr ⟨z, by omega⟩)
        · rintro ((z | ⟨z, w⟩) | z)
          · exact Or.inl z
          · exact Or.inr ⟨z, by omega⟩
          · rw [z]
            exact Or.inr ⟨hw, by omega⟩
      refine zq_efO (show R ≤ 8 by omega) (nm_e ?_)
      have hr2 : ∀ b, bt (x14 ||| zx_ex cl (nI S) R) b = true ↔ ∃ s, (zq_V (zq_E (zr_ap cn R cl (zl_a U R u cl asg ra) rk rt rp rn) (zr_go rk rt) R) st lv s ∨ (zw_d (zq_E (zr_ap cn R cl (zl_a U R u cl asg ra) rk rt rp rn) (zr_go rk rt) R) st lv s ∧ s < S + 1)) ∧ bt (zr_ef cl R s) b = true := by
        intro b
        rw [b_or, Bool.or_eq_true, hr b]
        constructor
        · rintro (⟨s, k1, k2⟩ | k2)
          · exact ⟨s, (hB s).mpr (Or.inl k1), k2⟩
          · exact ⟨S, (hB S).mpr (Or.inr rfl), k2⟩
        · intro ⟨s, k1, k2⟩
          rcases (hB s).mp k1 with k | k
          · exact Or.inl ⟨s, k, k2⟩
          · rw [k] at k2
            exact Or.inr k2
      have go559 : ∀ x13' : Int32, zq_d (zr_ap cn R cl (zl_a U R u cl asg ra) rk rt rp rn) (zr_go rk rt) (fun t => bt (zr_ef cl R t) g = true) st (fun s => zq_V (zq_E (zr_ap cn R cl (zl_a U R u cl asg ra) rk rt rp rn) (zr_go rk rt) R) st lv s ∨ (zw_d (zq_E (zr_ap cn R cl (zl_a U R u cl asg ra) rk rt rp rn) (zr_go rk rt) R) st lv s ∧ s < S + 1)) x13' → ∃ n, wL_law_559 post L xs J482 (wL_law_500 post L xs J482 (nI R) (nI cn) (nI (2 ^ R - 1)) (nI u) (nI g) x8 x9 x12 (nI lv) kc ks (nI U) (nI R) (nI C) (nI cn) wl fc dj cl pm asg rk ra rt rp rn wr wa la ds pv ar fs m) (nI R) (nI cn) (nI (2 ^ R - 1)) (nI u) (nI g) x8 x9 x12 x13' (x14 ||| zx_ex cl (nI S) R) (nI lv) (nI S) (zx_ex cl (nI S) R) kc ks (nI U) (nI R) (nI C) (nI cn) wl fc dj cl pm asg rk ra rt rp rn wr wa la ds pv ar fs n x y 0 := by
        intro x13' hd'
        exact ⟨cn + 1, zq_559 hL h0 hR hc hrl hok (by omega) hw (fun x' y' hv' => ih (S + 1) m x' y' x13' _ (by omega) (by omega) (zq_inx (fun s i h => h.1) hv') hd' hr2) cn 0 (cn + 1) x y (by omega) (by omega) hv⟩
      rcases hd with ⟨a, b⟩ | ⟨mm, c1, c2, c3⟩
      · rw [a]
        refine br_f (by decide) (zq_ub _ (by omega) (fun hb2 => go559 (-1) (Or.inl ⟨rfl, fun s hs => ?_⟩)) (fun hb2 => go559 (nI lv) (Or.inr ⟨lv, by omega, rfl, zq_dst hgo hst (fun s hs => b s (Or.inl hs)) hw hnv hb2⟩)))
        rcases (hB s).mp hs with k | k
        · exact b s k
        · rw [k]
          intro z
          have z2 : bt (zx_ex cl (nI S) R) g = true := z
          rw [hb2] at z2
          exact absurd z2 (by decide)
      · rw [c2]
        exact br_t (nI_pos' (by omega)) (go559 (nI mm) (Or.inr ⟨mm, c1, rfl, c3⟩))
theorem zq_482 {x8 x9 : Int32} (hL : L ≤ 260) (h0 : 0 < R) (hR : R ≤ 5) (hU : U ≤ 8) (hc : cn ≤ 6) (hu : u < U) (hg : g < R) (hst : st < 2 ^ R) (eu : asg u = nI st) (hrl : zq_rl L xs cn R rk ra rt rp rn) (hok : ∀ i, i < cn → (bt x9 i = true ↔ ¬ (zl_a U R u cl asg ra) i = -1)) (h1 : post 1)
    (hA : zq_A U R cn u g st x8 wl cl asg rk ra rt rp rn wr wa) :
    ∀ (f lv m : Nat) (x11 x12 x13 x14 : Int32), lv + f = 34 → f < m → (∀ s, bt x11 s = true ↔ zw_d (zq_E (zr_ap cn R cl (zl_a U R u cl asg ra) rk rt rp rn) (zr_go rk rt) R) st lv s) → (∀ s, bt x12 s = true ↔ (zw_d (zq_E (zr_ap cn R cl (zl_a U R u cl asg ra) rk rt rp rn) (zr_go rk rt) R) st lv s ∧ ¬ zq_V (zq_E (zr_ap cn R cl (zl_a U R u cl asg ra) rk rt rp rn) (zr_go rk rt) R) st lv s)) → zq_d (zr_ap cn R cl (zl_a U R u cl asg ra) rk rt rp rn) (zr_go rk rt) (fun t => bt (zr_ef cl R t) g = true) st (zq_V (zq_E (zr_ap cn R cl (zl_a U R u cl asg ra) rk rt rp rn) (zr_go rk rt) R) st lv) x13 → (∀ b, bt x14 b = true ↔ ∃ s, zq_V (zq_E (zr_ap cn R cl (zl_a U R u cl asg ra) rk rt rp rn) (zr_go rk rt) R) st lv s ∧ bt (zr_ef cl R s) b = true) → wL_law_482 post L xs (nI R) (nI cn) (nI (2 ^ R - 1)) (nI u) (nI g) x8 x9 kc ks (nI U) (nI R) (nI C) (nI cn) wl fc dj cl pm asg rk ra rt rp rn wr wa la ds pv ar fs m x11 x12 x13 x14 (nI lv) := by
  intro f
  have hru := zq_rru h0 hR hrl
  have hgo : ∀ s i, s < 2 ^ R → (zr_ap cn R cl (zl_a U R u cl asg ra) rk rt rp rn) s i → (zr_go rk rt) s i < 2 ^ R := by
    intro s i hs ha
    obtain ⟨_, t, ht, et⟩ := hru i ha.1
    exact (zr_goE (show R ≤ 8 by omega) ht et hs).2
  have fin : ∀ (lv : Nat) (x13 x14 : Int32), ((∀ s, ¬ (zw_d (zq_E (zr_ap cn R cl (zl_a U R u cl asg ra) rk rt rp rn) (zr_go rk rt) R) st lv s ∧ ¬ zq_V (zq_E (zr_ap cn R cl (zl_a U R u cl asg ra) rk rt rp rn) (zr_go rk rt) R) st lv s)) ∨ 34 ≤ lv) → zq_d (zr_ap cn R cl (zl_a U R u cl asg ra) rk rt rp rn) (zr_go rk rt) (fun t => bt (zr_ef cl R t) g = true) st (zq_V (zq_E (zr_ap cn R cl (zl_a U R u cl asg ra) rk rt rp rn) (zr_go rk rt) R) st lv) x13 → (∀ b, bt x14 b = true ↔ ∃ s, zq_V (zq_E (zr_ap cn R cl (zl_a U R u cl asg ra) rk rt rp rn) (zr_go rk rt) R) st lv s ∧ bt (zr_ef cl R s) b = true) → wL_law_773 post L xs (nI u) (nI g) x8 x13 x14 kc ks (nI U) (nI R) (nI C) (nI cn) wl fc dj cl pm asg rk ra rt rp rn wr wa la ds pv ar fs := by
    intro lv x13 x14 hx hd hr
    have hall := zq_all hgo hst hR hx
    have hB : ∀ s, zq_V (zq_E (zr_ap cn R cl (zl_a U R u cl asg ra) rk rt rp rn) (zr_go rk rt) R) st lv s ↔ ∃ q, zp_run (zr_ap cn R cl (zl_a U R u cl asg ra) rk rt rp rn) (zr_go rk rt) q st s := by
      intro s
      constructor
      · intro z
        obtain ⟨q, k1, _⟩ := zq_run (zq_Vle z)
        exact ⟨q, k1⟩
      · intro ⟨q, k⟩
        exact hall q s k
    refine zq_773 (show R ≤ 8 by omega) hU (by omega) hru hu hg hst eu h1 hA (fun b => ?_) ?_
    · rw [hr b]
      constructor
      · intro ⟨s, k1, k2⟩
        exact ⟨s, (hB s).mp k1, k2⟩
      · intro ⟨s, k1, k2⟩
        exact ⟨s, (hB s).mpr k1, k2⟩
    · rcases hd with ⟨a, b⟩ | hd
      · exact Or.inl ⟨a, fun s hs => b s ((hB s).mpr hs)⟩
      · exact Or.inr hd
  have emp : ∀ (lv : Nat) (x12 : Int32), x12 = 0 → (∀ s, bt x12 s = true ↔ (zw_d (zq_E (zr_ap cn R cl (zl_a U R u cl asg ra) rk rt rp rn) (zr_go rk rt) R) st lv s ∧ ¬ zq_V (zq_E (zr_ap cn R cl (zl_a U R u cl asg ra) rk rt rp rn) (zr_go rk rt) R) st lv s)) → ∀ s, ¬ (zw_d (zq_E (zr_ap cn R cl (zl_a U R u cl asg ra) rk rt rp rn) (zr_go rk rt) R) st lv s ∧ ¬ zq_V (zq_E (zr_ap cn R cl (zl_a U R u cl asg ra) rk rt rp rn) (zr_go rk rt) R) st lv s) := by
    intro lv x12 e hf s z
    have w := (hf s).mpr z
    rw [e, b_0] at w
    exact absurd w (by decide)
  induction f with
  | zero =>
    intro lv m x11 x12 x13 x14 hl hm hv hf hd hr
    obtain ⟨m, rfl⟩ : ∃ z, m = z + 1 := ⟨m - 1, by omega⟩
    have e : lv = 34 := by omega
    subst e
    exact br_c (fun z => fin 34 x13 x14 (Or.inl (emp 34 x12 z hf)) hd hr) (fun _ => pk_lt 33 34 (fun _ => fin 34 x13 x14 (Or.inr (by omega)) hd hr) (fun z => absurd z (by omega)))
  | succ f ih =>
    intro lv m x11 x12 x13 x14 hl hm hv hf hd hr
    obtain ⟨m, rfl⟩ : ∃ z, m = z + 1 := ⟨m - 1, by omega⟩
    refine br_c (fun z => fin lv x13 x14 (Or.inl (emp lv x12 z hf)) hd hr) (fun _ => pk_lt 33 lv (fun z => absurd z (by omega)) (fun _ => ⟨2 ^ R + 1, ?_⟩))
    refine zq_500 hL h0 hR hc hg hst hrl hok (by omega) hf (fun x y x13' x14' k1 k2 k3 => ?_) (2 ^ R) 0 (2 ^ R + 1) x11 0 x13 x14 (by omega) (by omega) (zq_ibg hv) ?_ (fun b => ?_)
    · obtain ⟨q1, q2⟩ := zq_ien hgo hst k1
      exact ih (lv + 1) m x y x13' x14' (by omega) (by omega) q1 q2 k2 k3
    · rcases hd with ⟨a, b⟩ | hd
      · exact Or.inl ⟨a, fun s hs => hs.elim (b s) (fun z => absurd z.2 (Nat.not_lt_zero s))⟩
      · exact Or.inr hd
    · rw [hr b]
      constructor
      · intro ⟨s, k1, k2⟩
        exact ⟨s, Or.inl k1, k2⟩
      · intro ⟨s, k1, k2⟩
        exact ⟨s, k1.elim (fun z => z) (fun z => absurd z.2 (Nat.not_lt_zero s)), k2⟩
end
end
section
section
variable {U R C cn : Nat} {wl fc : Int32} {dj cl pm asg rk ra rt rp rn wr wa la ds pv ar fs : Nat → Int32} {post : Int32 → Prop} {L kc ks u g st : Nat} {xs : Nat → Int32}
theorem zq_391 {J363 : Int32 → Int32 → Prop} {x4 x8 x9 : Int32} {i a : Nat} (hR : R ≤ 8) (hU : U ≤ 8) (ha : a < 32) (hi : i < 32)
    (hJ : ∀ x, (∀ b, bt x b = true ↔ (bt x9 b = true ∨ (b = i ∧ ∃ w, w < U ∧ w ≠ u ∧ bt (zx_ex cl (asg w) R) a = true))) → J363 x (nI (i + 1))) (hu : u < U) :
    ∀ (f v m : Nat) (x : Int32), v + f = U → f < m → (∀ b, bt x b = true ↔ (bt x9 b = true ∨ (b = i ∧ ∃ w, w < v ∧ w ≠ u ∧ bt (zx_ex cl (asg w) R) a = true))) → wL_law_391 post L xs J363 (nI U) (nI R) (nI cn) x4 (nI u) (nI g) x8 (nI i) (nI a) kc ks (nI U) (nI R) (nI C) (nI cn) wl fc dj cl pm asg rk ra rt rp rn wr wa la ds pv ar fs m x (nI v) := by
  intro f
  induction f with
  | zero =>
    intro v m x hv hm hx
    obtain ⟨m, rfl⟩ : ∃ z, m = z + 1 := ⟨m - 1, by omega⟩
    have e : v = U := by omega
    rw [e] at hx ⊢
    exact pk_le U U (fun _ => nm_r (nI_1 i) (hJ x hx)) (fun z => absurd z (by omega))
  | succ f ih =>
    intro v m x hv hm hx
    obtain ⟨m, rfl⟩ : ∃ z, m = z + 1 := ⟨m - 1, by omega⟩
    have skip : ¬ (v ≠ u ∧ bt (zx_ex cl (asg v) R) a = true) → wL_law_391 post L xs J363 (nI U) (nI R) (nI cn) x4 (nI u) (nI g) x8 (nI i) (nI a) kc ks (nI U) (nI R) (nI C) (nI cn) wl fc dj cl pm asg rk ra rt rp rn wr wa la ds pv ar fs m x (nI (v + 1)) := by
      intro hn
      refine ih (v + 1) m x (by omega) (by omega) (fun b => ?_)
      rw [hx b]
      constructor
      · rintro (z | ⟨z, w, k1, k2⟩)
        · exact Or.inl z
        · exact Or.inr ⟨z, w, by omega, k2⟩
      · rintro (z | ⟨z, w, k1, k2⟩)
        · exact Or.inl z
        · by_cases e : w = v
          · rw [e] at k2
            exact absurd k2 hn
          · exact Or.inr ⟨z, w, by omega, k2⟩
    refine pk_le U v (fun z => absurd z (by omega)) (fun _ => pk_eq v u (fun e => nm_r (nI_1 v) (skip (fun z => z.1 e))) (fun e => zx_efr hR hU (by omega) (zq_ub _ ha (fun hb => nm_r (nI_1 v) (skip (fun z => ?_))) (fun hb => nm_e (nm_r (nI_1 v) (ih (v + 1) m _ (by omega) (by omega) (fun b => ?_)))))))
    · have w := z.2
      rw [hb] at w
      exact absurd w (by decide)
    · rw [zb_set _ hi, Bool.or_eq_true, hx b]
      constructor
      · rintro ((z | ⟨z, w, k1, k2⟩) | z)
        · exact Or.inl z
        · exact Or.inr ⟨z, w, by omega, k2⟩
        · exact Or.inr ⟨of_decide_eq_true z, v, by omega, e, hb⟩
      · rintro (z | ⟨z, _⟩)
        · exact Or.inl (Or.inl z)
        · exact Or.inr (decide_eq_true z)
theorem zq_363 {x8 : Int32} (hL : L ≤ 260) (h0 : 0 < R) (hR : R ≤ 5) (hU : U ≤ 8) (hc : cn ≤ 6) (hu : u < U) (hg : g < R) (hst : st < 2 ^ R) (eu : asg u = nI st) (hrl : zq_rl L xs cn R rk ra rt rp rn) (h1 : post 1)
    (hA : zq_A U R cn u g st x8 wl cl asg rk ra rt rp rn wr wa) :
    ∀ (f i m : Nat) (x : Int32), i + f = cn → f < m → (∀ b, bt x b = true ↔ (b < i ∧ ¬ (zl_a U R u cl asg ra) b = -1)) → wL_law_363 post L xs (nI U) (nI R) (nI cn) (nI (2 ^ R - 1)) (nI u) (nI g) x8 kc ks (nI U) (nI R) (nI C) (nI cn) wl fc dj cl pm asg rk ra rt rp rn wr wa la ds pv ar fs m x (nI i) := by
  intro f
  have h5 : 2 ^ R ≤ 32 := Nat.pow_le_pow_right (n := 2) (by omega) hR
  have hru := zq_rru h0 hR hrl
  induction f with
  | zero =>
    intro i m x hi hm hx
    obtain ⟨m, rfl⟩ : ∃ z, m = z + 1 := ⟨m - 1, by omega⟩
    have e : i = cn := by omega
    rw [e] at hx ⊢
    refine pk_le cn cn (fun _ => zx_exp hU hu ?_) (fun z => absurd z (by omega))
    rw [eu]
    refine br_f (nI_pos (by omega)) (pk_le st (2 ^ R - 1) (fun _ => nm_e ⟨35, ?_⟩) (fun z => absurd z (by omega)))
    refine zq_482 hL h0 hR hU hc hu hg hst eu hrl (fun j hj => ?_) h1 hA 34 0 35 _ _ (-1) 0 (by omega) (by omega) (fun s => ?_) (fun s => ?_) (Or.inl ⟨rfl, fun s hs => hs.elim⟩) (fun b => ?_)
    · rw [hx j]
      exact ⟨fun z => z.2, fun z => ⟨hj, z⟩⟩
    · rw [zb_sh (by omega), decide_eq_true_iff]
      exact ⟨fun z => z.symm, fun z => Eq.symm z⟩
    · rw [zb_sh (by omega), decide_eq_true_iff]
      exact ⟨fun z => ⟨z.symm, fun w => w.elim⟩, fun z => Eq.symm z.1⟩
    · rw [b_0]
      exact ⟨fun z => absurd z (by decide), fun ⟨s, k, _⟩ => k.elim⟩
  | succ f ih =>
    intro i m x hi hm hx
    obtain ⟨m, rfl⟩ : ∃ z, m = z + 1 := ⟨m - 1, by omega⟩
    have hic : i < cn := by omega
    obtain ⟨_, e2, _⟩ := hrl i hic
    have ha := (zq_mE ((zq_c L xs (13 + 2 * i)).toUInt32 >>> ((1 : Int32).toUInt32 &&& Int32.toUInt32 31)).toInt32 h0 (show R < 256 by omega)).2
    refine pk_le cn i (fun z => absurd z (by omega)) (fun _ => zq_cell (13 + 2 * i) hL (by omega) (zq_i2 13 i) (zq_mm R h0 (by omega) rfl ⟨U + 1, ?_⟩))
    generalize zq_m ((zq_c L xs (13 + 2 * i)).toUInt32 >>> ((1 : Int32).toUInt32 &&& Int32.toUInt32 31)).toInt32 R = a at e2 ha ⊢
    refine zq_391 (x9 := x) (show R ≤ 8 by omega) hU (by omega) (by omega) (fun y hy => ih (i + 1) m y (by omega) (by omega) (fun b => ?_)) hu U 0 (U + 1) x (by omega) (by omega) (fun b => ?_)
    · have hl : ¬ (zl_a U R u cl asg ra) i = -1 ↔ ∃ w, w < U ∧ w ≠ u ∧ bt (zx_ex cl (asg w) R) a = true := by
        unfold zl_a
        rw [e2, nI_clamp (show a < 2 ^ 31 by omega), zl_ne _ U 0 (by omega)]
        constructor
        · intro ⟨v, _, k2, k3⟩
          rw [Bool.and_eq_true] at k3
          refine ⟨v, by omega, fun z => ?_, k3.2⟩
          rw [decide_eq_true z] at k3
          exact absurd k3.1 (by decide)
        · intro ⟨v, k1, k2, k3⟩
          refine ⟨v, Nat.zero_le _, by omega, ?_⟩
          rw [k3, decide_eq_false k2]
          rfl
      rw [hy b, hx b, ← hl]
      constructor
      · rintro (⟨k1, k2⟩ | ⟨k1, k2⟩)
        · exact ⟨by omega, k2⟩
        · rw [k1]
          exact ⟨by omega, k2⟩
      · intro ⟨k1, k2⟩
        by_cases e : b = i
        · rw [e] at k2
          exact Or.inr ⟨e, k2⟩
        · exact Or.inl ⟨by omega, k2⟩
    · constructor
      · exact Or.inl
      · rintro (z | ⟨_, w, k, _⟩)
        · exact z
        · exact absurd k (Nat.not_lt_zero w)
theorem zq_270 (hL : L ≤ 260) (h0 : 0 < R) (hR : R ≤ 5) (hU0 : 0 < U) (hU : U ≤ 8) (hc0 : 0 < cn) (hc : cn ≤ 6) (hrl : zq_rl L xs cn R rk ra rt rp rn) (h1 : post 1) :
    ∀ (f k m : Nat) (asg : Nat → Int32), k + f = 4 → f < m → zi_as U R asg → wL_law_270 post L xs (nI U) (nI R) (nI cn) (nI (2 ^ R - 1)) kc ks m (nI k) (nI U) (nI R) (nI C) (nI cn) wl fc dj cl pm asg rk ra rt rp rn wr wa la ds pv ar fs := by
  intro f
  have hru := zq_rru h0 hR hrl
  induction f with
  | zero =>
    intro k m asg hk hm has
    obtain ⟨m, rfl⟩ : ∃ z, m = z + 1 := ⟨m - 1, by omega⟩
    have e : k = 4 := by omega
    subst e
    refine pk_le 4 4 (fun _ => zq_cell 29 hL (by omega) rfl (zq_mm U hU0 (by omega) rfl (zq_cell 30 hL (by omega) rfl (zq_mm R h0 (by omega) rfl ?_)))) (fun z => absurd z (by omega))
    have hu := (zq_mE (zq_c L xs 29) hU0 (show U < 256 by omega)).2
    have hg := (zq_mE (zq_c L xs 30) h0 (show R < 256 by omega)).2
    generalize zq_m (zq_c L xs 29) U = u at hu ⊢
    generalize zq_m (zq_c L xs 30) R = g at hg ⊢
    obtain ⟨st, hst, eu⟩ := zb_of (has u hu)
    refine zx_analyse (show R ≤ 8 by omega) hU (by omega) hru hu hg hst eu (fun hn fc la ds pv ar fs => ⟨cn + 1, ?_⟩) (fun p hm hl fc la ds pv ar fs => ⟨cn + 1, ?_⟩)
    · refine zq_363 hL h0 hR hU hc hu hg hst eu hrl h1 (Or.inl ⟨rfl, rfl, hn⟩) cn 0 (cn + 1) 0 (by omega) (by omega) (fun b => ?_)
      rw [b_0]
      exact ⟨fun z => absurd z (by decide), fun z => absurd z.1 (Nat.not_lt_zero b)⟩
    · refine zq_363 hL h0 hR hU hc hu hg hst eu hrl h1 (Or.inr ⟨p, wr, wa, rfl, rfl, rfl, rfl, hl, hm⟩) cn 0 (cn + 1) 0 (by omega) (by omega) (fun b => ?_)
      rw [b_0]
      exact ⟨fun z => absurd z (by decide), fun z => absurd z.1 (Nat.not_lt_zero b)⟩
  | succ f ih =>
    intro k m asg hk hm has
    obtain ⟨m, rfl⟩ : ∃ z, m = z + 1 := ⟨m - 1, by omega⟩
    refine pk_le 4 k (fun z => absurd z (by omega)) (fun _ => zq_cell (25 + k) hL (by omega) (nI_add 25 k) (zq_mm U hU0 (by omega) rfl (zq_mm U hU0 (by omega) rfl (zq_mm cn hc0 (by omega) rfl ?_))))
    refine zx_actA (show R ≤ 8 by omega) hU (by omega) (zq_mE _ hU0 (by omega)).2 (zq_mE _ hU0 (by omega)).2 (zq_mE _ hc0 (by omega)).2 hru has (fun r asg' has' => nm_r (nI_1 k) (ih (k + 1) m asg' (by omega) (by omega) has'))
theorem zq_kd (x : Int32) : 1 + (x &&& 1) = 1 ∨ 1 + (x &&& 1) = 2 := by
  obtain ⟨j, hj, e⟩ := pk_andE x (m := 1) 1 (by decide)
  rw [e]
  have h : j = 0 ∨ j = 1 := by omega
  rcases h with h | h
  · subst h
    exact Or.inl (by decide)
  · subst h
    exact Or.inr (by decide)
theorem zq_173 (hL : L ≤ 260) (h0 : 0 < R) (hR : R ≤ 5) (hU0 : 0 < U) (hU : U ≤ 8) (hC0 : 0 < C) (hC : C ≤ 6) (has : zi_as U R asg) (h1 : post 1) :
    ∀ (f i m : Nat) (rk ra rt rp rn : Nat → Int32), i + f = C → f < m → zq_rl L xs i R rk ra rt rp rn → wL_law_173 post L xs (nI U) (nI R) (nI C) (nI (2 ^ R - 1)) kc ks m (nI i) (nI U) (nI R) (nI C) (nI i) wl fc dj cl pm asg rk ra rt rp rn wr wa la ds pv ar fs := by
  intro f
  have h8 : R ≤ 8 := by omega
  have h256 := zb_p8 h8
  induction f with
  | zero =>
    intro i m rk ra rt rp rn hi hm hrl
    obtain ⟨m, rfl⟩ : ∃ z, m = z + 1 := ⟨m - 1, by omega⟩
    have e : i = C := by omega
    rw [e] at hrl ⊢
    exact pk_le C C (fun _ => ⟨5, zq_270 hL h0 hR hU0 hU hC0 hC hrl h1 4 0 5 asg (by omega) (by omega) has⟩) (fun z => absurd z (by omega))
  | succ f ih =>
    intro i m rk ra rt rp rn hi hm hrl
    obtain ⟨m, rfl⟩ : ∃ z, m = z + 1 := ⟨m - 1, by omega⟩
    refine pk_le C i (fun z => absurd z (by omega)) (fun _ => zq_cell (13 + 2 * i) hL (by omega) (zq_i2 13 i) (zq_cell (14 + 2 * i) hL (by omega) (zq_i2 14 i) (nm_e (zq_mm R h0 (by omega) rfl (zq_mm R h0 (by omega) rfl (zq_posW (zq_negW ?_)))))))
    have hpb := zq_pb h8 (zq_c L xs (14 + 2 * i))
    have hnb := zq_nb h8 (zq_c L xs (14 + 2 * i))
    have hpn := zq_pn (f := nI (2 ^ R - 1)) (zq_c L xs (14 + 2 * i))
    obtain ⟨p, hp, ep⟩ := zb_of hpb
    obtain ⟨q, hq, eq⟩ := zb_of hnb
    obtain ⟨c1, c2, c3⟩ := zq_cb (fun j hj => hpb j (by omega)) (fun j hj => hnb j (by omega))
    rw [ep, eq] at hpn
    refine zx_addR h8 (show C ≤ 16 by omega) (by omega) (zq_mE _ h0 (by omega)).2 (zq_mE _ h0 (by omega)).2 (zq_kd _) c1 p q hp hq (c2.trans ep) (c3.trans eq) hpn ?_
    refine br_t rfl (nm_r (nI_1 i) (ih (i + 1) m _ _ _ _ _ (by omega) (by omega) (fun j hj => ?_)))
    by_cases e : j = i
    · rw [e, pk_us, pk_us, pk_us, pk_us, pk_us]
      exact ⟨rfl, rfl, rfl, ep.symm, eq.symm⟩
    · rw [pk_un e, pk_un e, pk_un e, pk_un e, pk_un e]
      exact hrl j (by omega)
theorem zq_108 (hL : L ≤ 260) (h0 : 0 < R) (hR : R ≤ 5) (hU0 : 0 < U) (hU : U ≤ 8) (hC0 : 0 < C) (hC : C ≤ 6) (h1 : post 1) :
    ∀ (f v m : Nat) (asg : Nat → Int32), v + f = U → f < m → zi_as U R asg → wL_law_108 post L xs (nI U) (nI R) (nI C) (nI (2 ^ R - 1)) kc ks m (nI v) (nI U) (nI R) (nI C) (nI 0) wl fc dj cl pm asg rk ra rt rp rn wr wa la ds pv ar fs := by
  intro f
  have h8 : R ≤ 8 := by omega
  induction f with
  | zero =>
    intro v m asg hv hm has
    obtain ⟨m, rfl⟩ : ∃ z, m = z + 1 := ⟨m - 1, by omega⟩
    have e : v = U := by omega
    rw [e]
    exact pk_le U U (fun _ => ⟨C + 1, zq_173 hL h0 hR hU0 hU hC0 hC has h1 C 0 (C + 1) rk ra rt rp rn (by omega) (by omega) (fun j hj => absurd hj (Nat.not_lt_zero j))⟩) (fun z => absurd z (by omega))
  | succ f ih =>
    intro v m asg hv hm has
    obtain ⟨m, rfl⟩ : ∃ z, m = z + 1 := ⟨m - 1, by omega⟩
    refine pk_le U v (fun z => absurd z (by omega)) (fun _ => zq_cell (9 + v) hL (by omega) (nI_add 9 v) (nm_e ⟨R + 1, ?_⟩))
    have I : ∀ (d r n : Nat) (asg : Nat → Int32), r + d = R → d < n → zi_as U R asg → wL_law_131 post L xs (wL_law_108 post L xs (nI U) (nI R) (nI C) (nI (2 ^ R - 1)) kc ks m) (nI U) (nI R) (nI C) (nI (2 ^ R - 1)) (nI v) (zq_c L xs (9 + v) &&& nI (2 ^ R - 1)) kc ks n (nI r) (nI U) (nI R) (nI C) (nI 0) wl fc dj cl pm asg rk ra rt rp rn wr wa la ds pv ar fs := by
      intro d
      induction d with
      | zero =>
        intro r n asg hr hn has
        obtain ⟨n, rfl⟩ : ∃ z, n = z + 1 := ⟨n - 1, by omega⟩
        have e : r = R := by omega
        rw [e]
        exact pk_le R R (fun _ => nm_r (nI_1 v) (ih (v + 1) m asg (by omega) (by omega) has)) (fun z => absurd z (by omega))
      | succ d ih2 =>
        intro r n asg hr hn has
        obtain ⟨n, rfl⟩ : ∃ z, n = z + 1 := ⟨n - 1, by omega⟩
        exact pk_le R r (fun z => absurd z (by omega)) (fun _ => zq_ub _ (by omega) (fun _ => nm_r (nI_1 r) (ih2 (r + 1) n asg (by omega) (by omega) has)) (fun _ => zx_setA h8 hU (by omega) (by omega) has (fun _ asg' has' => nm_r (nI_1 r) (ih2 (r + 1) n asg' (by omega) (by omega) has'))))
    exact I R 0 (R + 1) asg (by omega) (by omega) has
theorem zq_59 (hL : L ≤ 260) (h0 : 0 < R) (hR : R ≤ 5) (hU0 : 0 < U) (hU : U ≤ 8) (hC0 : 0 < C) (hC : C ≤ 6) (has : zi_as U R asg) (h1 : post 1) :
    ∀ (f e m : Nat) (dj cl : Nat → Int32), e + f = 3 → f < m → zi_dj R dj → zi_cl R dj cl → wL_law_59 post L xs (nI U) (nI R) (nI C) (nI (2 ^ R - 1)) kc ks m (nI e) (nI U) (nI R) (nI C) (nI 0) wl fc dj cl pm asg rk ra rt rp rn wr wa la ds pv ar fs := by
  intro f
  have h8 : R ≤ 8 := by omega
  induction f with
  | zero =>
    intro e m dj cl he hm hd hcl
    obtain ⟨m, rfl⟩ : ∃ z, m = z + 1 := ⟨m - 1, by omega⟩
    have e3 : e = 3 := by omega
    subst e3
    exact pk_le 3 3 (fun _ => ⟨U + 1, zq_108 hL h0 hR hU0 hU hC0 hC h1 U 0 (U + 1) asg (by omega) (by omega) has⟩) (fun z => absurd z (by omega))
  | succ f ih =>
    intro e m dj cl he hm hd hcl
    obtain ⟨m, rfl⟩ : ∃ z, m = z + 1 := ⟨m - 1, by omega⟩
    refine pk_le 3 e (fun z => absurd z (by omega)) (fun _ => zq_cell (3 + 2 * e) hL (by omega) (zq_i2 3 e) (zq_mm R h0 (by omega) rfl (zq_cell (4 + 2 * e) hL (by omega) (zq_i2 4 e) (zq_mm R h0 (by omega) rfl ?_))))
    exact zx_addI (cn := 0) h8 (zq_mE _ h0 (by omega)).2 (zq_mE _ h0 (by omega)).2 hd hcl (fun r dj' cl' hd' hcl' => nm_r (nI_1 e) (ih (e + 1) m dj' cl' (by omega) (by omega) hd' hcl'))
end
theorem i_vc (xs : Nat → Int32) (L : Nat) (hL : L ≤ 260) : wpL_law (fun r => r = 1) L xs := by
  unfold wpL_law
  refine zq_cell 0 hL (by omega) rfl (zq_mm 3 (by omega) (by omega) rfl (nm_r (nI_add 2 _) (zq_cell 1 hL (by omega) rfl (zq_mm 4 (by omega) (by omega) rfl (nm_r (nI_add 2 _) (zq_cell 2 hL (by omega) rfl (zq_mm 6 (by omega) (by omega) rfl (nm_r (nI_add 1 _) ?_))))))))
  have hU := (zq_mE (zq_c L xs 0) (n := 3) (by omega) (by omega)).2
  have hR := (zq_mE (zq_c L xs 1) (n := 4) (by omega) (by omega)).2
  have hC := (zq_mE (zq_c L xs 2) (n := 6) (by omega) (by omega)).2
  generalize zq_m (zq_c L xs 0) 3 = a at hU ⊢
  generalize zq_m (zq_c L xs 1) 4 = b at hR ⊢
  generalize zq_m (zq_c L xs 2) 6 = c at hC ⊢
  refine nm_r (zq_fu (2 + b) (by omega)) ⟨16, 1664, by omega, by omega, ?_⟩
  refine ⟨by omega, by omega, by omega, by omega, by omega, by omega, by omega, by omega, by omega, by omega, by omega, by omega, by omega, by omega, by omega, by omega, by omega, by omega, by omega, by omega, by omega, by omega, by omega, by omega, by omega, by omega, by omega, by omega, by omega, by omega, by omega, by omega, ?_⟩
  refine zx_clampN 1 8 (by omega) (by omega) (by omega) (zx_clampN 2 8 (by omega) (by omega) (by omega) (zx_clampN 1 16 (by omega) (by omega) (by omega) ?_))
  refine zx_reb (cn := 0) (show 2 + b ≤ 8 by omega) (zi_z0 (2 + b)) (fun cl hcl => ⟨4, ?_⟩)
  exact zq_59 (post := fun r => r = 1) (U := 2 + a) (R := 2 + b) (C := 1 + c) hL (by omega) (by omega) (by omega) (by omega) (by omega) (by omega) (fun v _ j _ => b_0 j) rfl 3 0 4 _ cl (by omega) (by omega) (zi_z0 (2 + b)) hcl
end
