/-! levels: E a b, some rule takes set a to set b -/
def zq_E (ap : Nat → Nat → Prop) (go : Nat → Nat → Nat) (R : Nat) (a b : Nat) : Prop := a < 2 ^ R ∧ ∃ i, ap a i ∧ go a i = b
def zq_V (E : Nat → Nat → Prop) (st : Nat) : Nat → Nat → Prop
  | 0 => fun _ => False
  | n + 1 => zw_d E st n
theorem zq_hE {ap : Nat → Nat → Prop} {go : Nat → Nat → Nat} {R : Nat} (hg : ∀ s i, s < 2 ^ R → ap s i → go s i < 2 ^ R) : ∀ a b, zq_E ap go R a b → b < 2 ^ R := by
  intro a b ⟨h1, i, h2, h3⟩
  rw [← h3]
  exact hg a i h1 h2
theorem zq_run {ap : Nat → Nat → Prop} {go : Nat → Nat → Nat} {R st : Nat} : ∀ {n t : Nat}, zw_d (zq_E ap go R) st n t → ∃ q, zp_run ap go q st t ∧ q.length ≤ n := by
  intro n
  induction n with
  | zero => exact fun {t} h => ⟨[], h, Nat.le_refl _⟩
  | succ n ih =>
    intro t h
    rcases h with h | ⟨a, h, _, i, h1, h2⟩
    · obtain ⟨q, a, b⟩ := ih h
      exact ⟨q, a, by omega⟩
    · obtain ⟨q, a, b⟩ := ih h
      refine ⟨q ++ [i], ?_, by rw [List.length_append, List.length_singleton]; omega⟩
      rw [← h2]
      exact zp_sn a h1
theorem zq_nur {ap : Nat → Nat → Prop} {go : Nat → Nat → Nat} {R st : Nat} (hg : ∀ s i, s < 2 ^ R → ap s i → go s i < 2 ^ R) : ∀ (q : List Nat) (s t n : Nat), s < 2 ^ R → zw_d (zq_E ap go R) st n s → zp_run ap go q s t → zw_d (zq_E ap go R) st (n + q.length) t := by
  intro q
  induction q with
  | nil =>
    intro s t n _ h hr
    have e : s = t := hr
    rw [← e]
    exact h
  | cons i q ih =>
    intro s t n hs h hr
    have w := ih (go s i) t (n + 1) (hg s i hs hr.1) (Or.inr ⟨s, h, hs, i, hr.1, rfl⟩) hr.2
    rw [List.length_cons, show n + (q.length + 1) = n + 1 + q.length by omega]
    exact w
theorem zq_nr {ap : Nat → Nat → Prop} {go : Nat → Nat → Nat} {R st t : Nat} {q : List Nat} (hg : ∀ s i, s < 2 ^ R → ap s i → go s i < 2 ^ R) (hst : st < 2 ^ R) (h : zp_run ap go q st t) : zw_d (zq_E ap go R) st q.length t := by
  have w := zq_nur hg q st t 0 hst rfl h
  rw [Nat.zero_add] at w
  exact w
def zq_i (ap : Nat → Nat → Prop) (go : Nat → Nat → Nat) (E : Nat → Nat → Prop) (st lv : Nat) (x y : Int32) (S i : Nat) : Prop :=
  (∀ s, bt x s = true → zw_d E st (lv + 1) s) ∧ (∀ s, zw_d E st lv s → bt x s = true) ∧
  (∀ a j, (a < S ∨ (a = S ∧ j < i)) → zw_d E st lv a → ¬ zq_V E st lv a → ap a j → bt x (go a j) = true) ∧
  (∀ s, bt y s = true ↔ (bt x s = true ∧ ¬ zw_d E st lv s))
theorem zq_isk {ap : Nat → Nat → Prop} {go : Nat → Nat → Nat} {E : Nat → Nat → Prop} {st lv : Nat} {x y : Int32} {S i : Nat} (h : zq_i ap go E st lv x y S i) (ha : ap S i → bt x (go S i) = true) : zq_i ap go E st lv x y S (i + 1) := by
  refine ⟨h.1, h.2.1, fun a j hj h1 h2 h3 => ?_, h.2.2.2⟩
  by_cases hc : a < S ∨ (a = S ∧ j < i)
  · exact h.2.2.1 a j hc h1 h2 h3
  · have e1 : a = S := by omega
    have e2 : j = i := by omega
    subst e1 e2
    exact ha h3
theorem zq_ise {ap : Nat → Nat → Prop} {go : Nat → Nat → Nat} {R st lv : Nat} {x y : Int32} {S i : Nat} (h : zq_i ap go (zq_E ap go R) st lv x y S i) (hS : S < 2 ^ R) (hw : zw_d (zq_E ap go R) st lv S) (ha : ap S i) (hT : go S i < 32) (hb : bt x (go S i) = false) :
    zq_i ap go (zq_E ap go R) st lv (x ||| ((1 : Int32) <<< (nI (go S i) &&& 31))) (y ||| ((1 : Int32) <<< (nI (go S i) &&& 31))) S (i + 1) := by
  have hn : ¬ zw_d (zq_E ap go R) st lv (go S i) := by
    intro z
    rw [h.2.1 _ z] at hb
    exact absurd hb (by decide)
  have hk : ∀ s, bt x s = true → bt (x ||| ((1 : Int32) <<< (nI (go S i) &&& 31))) s = true := by
    intro s z
    rw [zb_set _ hT, z, Bool.true_or]
  refine ⟨fun s z => ?_, fun s z => hk s (h.2.1 s z), fun a j hj h1 h2 h3 => ?_, fun s => ?_⟩
  · rw [zb_set _ hT, Bool.or_eq_true] at z
    rcases z with z | z
    · exact h.1 s z
    · rw [of_decide_eq_true z]
      exact Or.inr ⟨S, hw, hS, i, ha, rfl⟩
  · by_cases hc : a < S ∨ (a = S ∧ j < i)
    · exact hk _ (h.2.2.1 a j hc h1 h2 h3)
    · have e1 : a = S := by omega
      have e2 : j = i := by omega
      subst e1 e2
      rw [zb_set _ hT, decide_eq_true rfl, Bool.or_true]
  · rw [zb_set _ hT, zb_set _ hT, Bool.or_eq_true, Bool.or_eq_true, h.2.2.2 s]
    constructor
    · rintro (⟨a, b⟩ | a)
      · exact ⟨Or.inl a, b⟩
      · exact ⟨Or.inr a, by rw [of_decide_eq_true a]; exact hn⟩
    · rintro ⟨a | a, b⟩
      · exact Or.inl ⟨a, b⟩
      · exact Or.inr a
theorem zq_inx {ap : Nat → Nat → Prop} {go : Nat → Nat → Nat} {E : Nat → Nat → Prop} {st lv N : Nat} {x y : Int32} {S : Nat} (hA : ∀ s i, ap s i → i < N) (h : zq_i ap go E st lv x y S N) : zq_i ap go E st lv x y (S + 1) 0 := by
  refine ⟨h.1, h.2.1, fun a j hj h1 h2 h3 => ?_, h.2.2.2⟩
  have := hA _ _ h3
  exact h.2.2.1 a j (by omega) h1 h2 h3
theorem zq_ins {ap : Nat → Nat → Prop} {go : Nat → Nat → Nat} {E : Nat → Nat → Prop} {st lv : Nat} {x y : Int32} {S : Nat} (hn : ¬ (zw_d E st lv S ∧ ¬ zq_V E st lv S)) (h : zq_i ap go E st lv x y S 0) : zq_i ap go E st lv x y (S + 1) 0 := by
  refine ⟨h.1, h.2.1, fun a j hj h1 h2 h3 => ?_, h.2.2.2⟩
  by_cases hc : a < S
  · exact h.2.2.1 a j (Or.inl hc) h1 h2 h3
  · have e1 : a = S := by omega
    subst e1
    exact absurd ⟨h1, h2⟩ hn
theorem zq_ien {ap : Nat → Nat → Prop} {go : Nat → Nat → Nat} {R st lv : Nat} {x y : Int32} (hg : ∀ s i, s < 2 ^ R → ap s i → go s i < 2 ^ R) (hst : st < 2 ^ R) (h : zq_i ap go (zq_E ap go R) st lv x y (2 ^ R) 0) :
    (∀ s, bt x s = true ↔ zw_d (zq_E ap go R) st (lv + 1) s) ∧ (∀ s, bt y s = true ↔ (zw_d (zq_E ap go R) st (lv + 1) s ∧ ¬ zq_V (zq_E ap go R) st (lv + 1) s)) := by
  have hx : ∀ s, bt x s = true ↔ zw_d (zq_E ap go R) st (lv + 1) s := by
    intro s
    refine ⟨h.1 s, fun z => ?_⟩
    rcases z with z | ⟨a, z, ha, i, h1, h2⟩
    · exact h.2.1 s z
    · by_cases hv : zq_V (zq_E ap go R) st lv a
      · cases lv with
        | zero => exact hv.elim
        | succ n => exact h.2.1 s (Or.inr ⟨a, hv, ha, i, h1, h2⟩)
      · rw [← h2]
        exact h.2.2.1 a i (Or.inl ha) z hv h1
  refine ⟨hx, fun s => ?_⟩
  rw [h.2.2.2 s, hx s]
  exact Iff.rfl
theorem zq_ibg {ap : Nat → Nat → Prop} {go : Nat → Nat → Nat} {E : Nat → Nat → Prop} {st lv : Nat} {x : Int32} (h : ∀ s, bt x s = true ↔ zw_d E st lv s) : zq_i ap go E st lv x 0 0 0 := by
  refine ⟨fun s z => Or.inl ((h s).mp z), fun s z => (h s).mpr z, fun a j hj => by omega, fun s => ?_⟩
  rw [b_0]
  exact ⟨fun z => absurd z (by decide), fun z => absurd ((h s).mp z.1) z.2⟩
theorem zq_Vle {E : Nat → Nat → Prop} {st lv s : Nat} (h : zq_V E st lv s) : zw_d E st lv s := by
  cases lv with
  | zero => exact h.elim
  | succ n => exact Or.inl h
/-! the least length so far -/
def zq_D (ap : Nat → Nat → Prop) (go : Nat → Nat → Nat) (T : Nat → Prop) (st m : Nat) : Prop := (∃ q t, zp_run ap go q st t ∧ T t ∧ q.length = m) ∧ ∀ q t, zp_run ap go q st t → T t → m ≤ q.length
def zq_d (ap : Nat → Nat → Prop) (go : Nat → Nat → Nat) (T : Nat → Prop) (st : Nat) (B : Nat → Prop) (x : Int32) : Prop :=
  (x = -1 ∧ ∀ s, B s → ¬ T s) ∨ ∃ m, m ≤ 100 ∧ x = nI m ∧ zq_D ap go T st m
theorem zq_dst {ap : Nat → Nat → Prop} {go : Nat → Nat → Nat} {T : Nat → Prop} {R st lv S : Nat} (hg : ∀ s i, s < 2 ^ R → ap s i → go s i < 2 ^ R) (hst : st < 2 ^ R) (h : ∀ s, zq_V (zq_E ap go R) st lv s → ¬ T s) (hw : zw_d (zq_E ap go R) st lv S) (hv : ¬ zq_V (zq_E ap go R) st lv S) (hT : T S) : zq_D ap go T st lv := by
  have hm : ∀ q t, zp_run ap go q st t → T t → lv ≤ q.length := by
    intro q t hr ht
    rcases Nat.lt_or_ge q.length lv with hl | hl
    · have w := zq_nr hg hst hr
      cases lv with
      | zero => omega
      | succ n => exact absurd ht (h t (zw_le (by omega) w))
    · exact hl
  refine ⟨?_, hm⟩
  obtain ⟨q, h1, h2⟩ := zq_run hw
  have := hm q S h1 hT
  exact ⟨q, S, h1, hT, by omega⟩
/-! a frontier that is empty: all is found -/
theorem zq_all {ap : Nat → Nat → Prop} {go : Nat → Nat → Nat} {R st lv : Nat} (hg : ∀ s i, s < 2 ^ R → ap s i → go s i < 2 ^ R) (hst : st < 2 ^ R) (hR : R ≤ 5) (h : (∀ s, ¬ (zw_d (zq_E ap go R) st lv s ∧ ¬ zq_V (zq_E ap go R) st lv s)) ∨ 34 ≤ lv) : ∀ q t, zp_run ap go q st t → zq_V (zq_E ap go R) st lv t := by
  intro q t hr
  have w := zq_nr hg hst hr
  rcases h with h | h
  · cases lv with
    | zero => exact absurd ⟨(rfl : st = st), fun z => z.elim⟩ (h st)
    | succ n =>
      refine zw_fix (fun j hj => ?_) q.length t w
      exact Classical.byContradiction (fun z => h j ⟨hj, z⟩)
  · have h5 : 2 ^ R ≤ 32 := Nat.pow_le_pow_right (n := 2) (by omega) hR
    cases lv with
    | zero => omega
    | succ n => exact zw_le (by omega) (zw_cut (zq_hE hg) hst w)
/-! cells and remainders -/
def zq_c (L : Nat) (xs : Nat → Int32) (k : Nat) : Int32 := if k < L then xs k else 0
theorem zq_cell {post : Int32 → Prop} {L : Nat} {xs : Nat → Int32} {y : Int32} (k : Nat) (hL : L ≤ 260) (hk : k < 1000) (e : y = nI k) (h : post (zq_c L xs k)) : wpL_cell post L xs () y := by
  subst e
  unfold zq_c at h
  refine pk_le L k (fun z => ?_) (fun z => ⟨pk_in k L z, ?_⟩)
  · rw [if_neg (by omega)] at h
    exact h
  · rw [if_pos z] at h
    rw [nI_clamp (by omega)]
    exact h
def zq_r (x : Int32) (n : Nat) : Int32 := if 0 ≤ x - x / nI n * nI n then x - x / nI n * nI n else x - x / nI n * nI n + nI n
def zq_m (x : Int32) (n : Nat) : Nat := (zq_r x n).toNatClampNeg
theorem zq_rj (x : Int32) {n : Nat} (h0 : 0 < n) (hn : n < 256) : ∃ j, j < n ∧ zq_r x n = nI j := by
  have t := tmod_bounds (a := x.toInt) (M := (n : Int)) (by omega)
  have e : (x - x / nI n * nI n).toInt = x.toInt.tmod n := by rw [rem_toInt, nI_toInt (by omega)]
  unfold zq_r
  by_cases h : 0 ≤ x - x / nI n * nI n
  · rw [if_pos h]
    obtain ⟨j, hj, ej⟩ := nI_of (Int32.not_lt.mpr h)
    rw [ej, nI_toInt hj] at e
    exact ⟨j, by omega, ej⟩
  · rw [if_neg h]
    have hl : (x - x / nI n * nI n).toInt < 0 := by
      have a := Int32.lt_iff_toInt_lt.mp (Int32.not_le.mp h)
      rw [show (0 : Int32).toInt = 0 from by decide] at a
      exact a
    have e2 : (x - x / nI n * nI n + nI n).toInt = x.toInt.tmod n + n := by
      rw [Int32.toInt_add, e, nI_toInt (by omega)]
      exact Int.bmod_eq_of_le (by omega) (by omega)
    obtain ⟨j, hj, ej⟩ := nI_of (x := x - x / nI n * nI n + nI n) (by
      intro z
      have a := Int32.lt_iff_toInt_lt.mp z
      rw [e2, show (0 : Int32).toInt = 0 from by decide] at a
      omega)
    rw [ej, nI_toInt hj] at e2
    exact ⟨j, by omega, ej⟩
theorem zq_mE (x : Int32) {n : Nat} (h0 : 0 < n) (hn : n < 256) : zq_r x n = nI (zq_m x n) ∧ zq_m x n < n := by
  obtain ⟨j, hj, e⟩ := zq_rj x h0 hn
  have e2 : zq_m x n = j := by
    unfold zq_m
    rw [e, nI_clamp (by omega)]
  rw [e2]
  exact ⟨e, hj⟩
theorem zq_mm {post : Int32 → Prop} {x y : Int32} (n : Nat) (h0 : 0 < n) (hn : n < 256) (e : y = nI n) (h : post (nI (zq_m x n))) : wpL_m post () x y := by
  subst e
  have hz := (zq_mE x h0 hn).1
  unfold zq_r at hz
  refine ⟨nI_ne0 h0 (by omega), nm_e (br_c (fun z => ?_) (fun z => ?_))⟩
  · rw [if_pos z] at hz
    rw [hz]
    exact h
  · rw [if_neg z] at hz
    rw [hz]
    exact h
theorem zq_us (x : Int32) {l : Nat} (hl : l < 32) : ((x.toUInt32 >>> ((nI l).toUInt32 &&& Int32.toUInt32 31)).toInt32 &&& 1) = 0 ↔ bt x l = false := by
  have h0 : bt ((x.toUInt32 >>> ((nI l).toUInt32 &&& Int32.toUInt32 31)).toInt32) 0 = bt x l := by
    rw [b_ushr l hl x 0]
    rfl
  constructor
  · intro h
    have e := congrArg (fun z => bt z 0) h
    rw [b_and, zb_1, b_0, h0, decide_eq_true rfl, Bool.and_true] at e
    exact e
  · intro h
    apply b_ext
    intro i _
    rw [b_and, zb_1, b_0]
    by_cases e : i = 0
    · subst e; rw [h0, h]; rfl
    · rw [decide_eq_false e, Bool.and_false]
theorem zq_ub {A B : Prop} (x : Int32) {l : Nat} (hl : l < 32) (f : bt x l = false → A) (g : bt x l = true → B) : (((x.toUInt32 >>> ((nI l).toUInt32 &&& Int32.toUInt32 31)).toInt32 &&& 1) = 0 → A) ∧ (¬ ((x.toUInt32 >>> ((nI l).toUInt32 &&& Int32.toUInt32 31)).toInt32 &&& 1) = 0 → B) :=
  br_c (fun z => f ((zq_us x hl).mp z)) (fun z => g (zb_nf (fun w => z ((zq_us x hl).mpr w))))
theorem zq_fu : ∀ R, R < 9 → ((1 : Int32) <<< (nI R &&& 31)) - 1 = nI (2 ^ R - 1) := by decide +kernel
theorem zq_fb : ∀ R, R < 9 → ∀ i, i < 32 → bt (nI (2 ^ R - 1)) i = decide (i < R) := by decide +kernel
def zq_p (d f : Int32) : Int32 := (d &&& ((d.toUInt32 >>> ((8 : Int32).toUInt32 &&& Int32.toUInt32 31)).toInt32)) &&& f
def zq_n (d f : Int32) : Int32 := ((((d.toUInt32 >>> ((16 : Int32).toUInt32 &&& Int32.toUInt32 31)).toInt32) &&& ((d.toUInt32 >>> ((24 : Int32).toUInt32 &&& Int32.toUInt32 31)).toInt32)) &&& f) &&& (zq_p d f ^^^ (-1))
theorem zq_fh {R : Nat} (hR : R ≤ 8) : ∀ j, R ≤ j → bt (nI (2 ^ R - 1)) j = false := by
  intro j hj
  rcases Nat.lt_or_ge j 32 with h | h
  · rw [zq_fb R (by omega) j h, decide_eq_false (by omega)]
  · exact b_big h
theorem zq_pb {R : Nat} (hR : R ≤ 8) (d : Int32) : ∀ j, R ≤ j → bt (zq_p d (nI (2 ^ R - 1))) j = false := by
  intro j hj
  unfold zq_p
  rw [b_and, zq_fh hR j hj, Bool.and_false]
theorem zq_nb {R : Nat} (hR : R ≤ 8) (d : Int32) : ∀ j, R ≤ j → bt (zq_n d (nI (2 ^ R - 1))) j = false := by
  intro j hj
  unfold zq_n
  rw [b_and, b_and, zq_fh hR j hj, Bool.and_false, Bool.false_and]
theorem zq_pn {f : Int32} (d : Int32) : zq_p d f &&& zq_n d f = 0 := by
  apply b_ext
  intro i hi
  rw [b_0, b_and]
  unfold zq_n
  rw [b_and, b_xor, b_m1 i hi, Bool.xor_true]
  cases bt (zq_p d f) i
  · rfl
  · simp
/-! the packed condition of two masks below 256 -/
theorem zq_cb {p q : Int32} (hp : ∀ j, 8 ≤ j → bt p j = false) (hq : ∀ j, 8 ≤ j → bt q j = false) :
    ((p ||| (q <<< ((8 : Int32) &&& 31))).toUInt32 >>> ((16 : Int32).toUInt32 &&& Int32.toUInt32 31)).toInt32 = 0 ∧ (p ||| (q <<< ((8 : Int32) &&& 31))) &&& 255 = p ∧ (((p ||| (q <<< ((8 : Int32) &&& 31))).toUInt32 >>> ((8 : Int32).toUInt32 &&& Int32.toUInt32 31)).toInt32) &&& 255 = q := by
  have hs : ∀ i, i < 32 → bt (p ||| (q <<< ((8 : Int32) &&& 31))) i = (bt p i || (decide (8 ≤ i) && bt q (i - 8))) := by
    intro i hi
    rw [b_or, b_shl8 q hi]
  have hb : ∀ i, 32 ≤ i → bt (p ||| (q <<< ((8 : Int32) &&& 31))) i = false := fun i hi => b_big hi
  refine ⟨?_, ?_, ?_⟩
  · apply b_ext
    intro i hi
    rw [b_0]
    have e := b_ushr 16 (by omega) (p ||| (q <<< ((8 : Int32) &&& 31))) i
    refine e.trans ?_
    rcases Nat.lt_or_ge (16 + i) 32 with h | h
    · rw [hs _ h, hp _ (by omega), hq _ (by omega), Bool.and_false, Bool.or_self]
    · exact hb _ h
  · apply b_ext
    intro i hi
    rw [b_and, b_255, hs i hi]
    rcases Nat.lt_or_ge i 8 with h | h
    · rw [decide_eq_true h, Bool.and_true, decide_eq_false (by omega), Bool.false_and, Bool.or_false]
    · rw [show decide (i < 8) = false from decide_eq_false (by omega), Bool.and_false, hp i h]
  · apply b_ext
    intro i hi
    rw [b_and, b_255]
    have e := b_ushr 8 (by omega) (p ||| (q <<< ((8 : Int32) &&& 31))) i
    rw [show bt (((p ||| (q <<< ((8 : Int32) &&& 31))).toUInt32 >>> ((8 : Int32).toUInt32 &&& Int32.toUInt32 31)).toInt32) i = bt (p ||| (q <<< ((8 : Int32) &&& 31))) (8 + i) from e]
    rcases Nat.lt_or_ge i 8 with h | h
    · rw [decide_eq_true h, Bool.and_true, hs _ (by omega), hp _ (by omega), decide_eq_true (by omega), Bool.false_or, Bool.true_and, show 8 + i - 8 = i by omega]
    · rw [show decide (i < 8) = false from decide_eq_false (by omega), Bool.and_false, hq i h]
