noncomputable def zc_n (p : Nat → Prop) : Nat → Nat
  | 0 => 0
  | m + 1 => zc_n p m + @ite Nat (p m) (Classical.propDecidable _) 1 0
theorem zc_s1 {p : Nat → Prop} {m : Nat} (h : p m) : zc_n p (m + 1) = zc_n p m + 1 := by
  show zc_n p m + @ite Nat (p m) (Classical.propDecidable _) 1 0 = _
  rw [if_pos h]
theorem zc_s0 {p : Nat → Prop} {m : Nat} (h : ¬ p m) : zc_n p (m + 1) = zc_n p m := by
  show zc_n p m + @ite Nat (p m) (Classical.propDecidable _) 1 0 = _
  rw [if_neg h]
  rfl
theorem zc_le (p : Nat → Prop) : ∀ m : Nat, zc_n p m ≤ m := by
  intro m
  induction m with
  | zero => exact Nat.le_refl _
  | succ m ih =>
    by_cases h : p m
    · rw [zc_s1 h]; omega
    · rw [zc_s0 h]; omega
theorem zc_mono {p q : Nat → Prop} : ∀ m : Nat, (∀ j, j < m → p j → q j) → zc_n p m ≤ zc_n q m := by
  intro m
  induction m with
  | zero => intro _; exact Nat.le_refl _
  | succ m ih =>
    intro h
    have i := ih (fun j hj => h j (by omega))
    by_cases hp : p m
    · rw [zc_s1 hp, zc_s1 (h m (by omega) hp)]; omega
    · rw [zc_s0 hp]
      by_cases hq : q m
      · rw [zc_s1 hq]; omega
      · rw [zc_s0 hq]; exact i
theorem zc_lt {p q : Nat → Prop} : ∀ m : Nat, (∀ j, j < m → p j → q j) → ∀ j, j < m → q j → ¬ p j → zc_n p m < zc_n q m := by
  intro m
  induction m with
  | zero => intro _ j hj; omega
  | succ m ih =>
    intro h j hj hq hp
    have i := zc_mono m (fun j hj => h j (by omega))
    rcases Nat.lt_or_ge j m with hl | hl
    · have i2 := ih (fun j hj => h j (by omega)) j hl hq hp
      by_cases hpm : p m
      · rw [zc_s1 hpm, zc_s1 (h m (by omega) hpm)]; omega
      · rw [zc_s0 hpm]
        by_cases hqm : q m
        · rw [zc_s1 hqm]; omega
        · rw [zc_s0 hqm]; exact i2
    · have e : j = m := by omega
      subst e
      rw [zc_s0 hp, zc_s1 hq]; omega
/-! walks of at most n edges from r -/
def zw_d (E : Nat → Nat → Prop) (r : Nat) : Nat → Nat → Prop
  | 0 => fun j => r = j
  | n + 1 => fun j => zw_d E r n j ∨ ∃ m, zw_d E r n m ∧ E m j
def zw_r (E : Nat → Nat → Prop) (r j : Nat) : Prop := ∃ n : Nat, zw_d E r n j
theorem zw_le {E : Nat → Nat → Prop} {r n : Nat} : ∀ {m j : Nat}, n ≤ m → zw_d E r n j → zw_d E r m j := by
  intro m
  induction m with
  | zero =>
    intro j h z
    have e : n = 0 := by omega
    subst e
    exact z
  | succ m ih =>
    intro j h z
    rcases Nat.lt_or_ge m n with h2 | h2
    · have e : n = m + 1 := by omega
      subst e
      exact z
    · exact Or.inl (ih h2 z)
theorem zw_in {E : Nat → Nat → Prop} {R r : Nat} (hE : ∀ a b, E a b → b < R) (hr : r < R) : ∀ {n j : Nat}, zw_d E r n j → j < R := by
  intro n
  induction n with
  | zero =>
    intro j h
    have e : r = j := h
    omega
  | succ n ih =>
    intro j h
    rcases h with h | ⟨m, _, h⟩
    · exact ih h
    · exact hE _ _ h
theorem zw_fix {E : Nat → Nat → Prop} {r n : Nat} (h : ∀ j, zw_d E r (n + 1) j → zw_d E r n j) : ∀ (m j : Nat), zw_d E r m j → zw_d E r n j := by
  intro m
  induction m with
  | zero => exact fun j z => zw_le (Nat.zero_le _) z
  | succ m ih =>
    intro j z
    rcases z with z | ⟨a, z, e⟩
    · exact ih j z
    · exact h j (Or.inr ⟨a, ih a z, e⟩)
theorem zw_cut {E : Nat → Nat → Prop} {R r : Nat} (hE : ∀ a b, E a b → b < R) (hr : r < R) {m j : Nat} (h : zw_d E r m j) : zw_d E r R j := by
  by_cases H : ∃ n, n ≤ R ∧ ∀ j, zw_d E r (n + 1) j → zw_d E r n j
  · obtain ⟨n, hn, hf⟩ := H
    exact zw_le hn (zw_fix hf m j h)
  · have hg : ∀ n, n ≤ R + 1 → n ≤ zc_n (zw_d E r n) R := by
      intro n
      induction n with
      | zero => intro _; exact Nat.zero_le _
      | succ n ih =>
        intro hn
        have i := ih (by omega)
        have hx : ∃ j, zw_d E r (n + 1) j ∧ ¬ zw_d E r n j := by
          apply Classical.byContradiction
          intro hc
          apply H
          refine ⟨n, by omega, fun j hj => ?_⟩
          apply Classical.byContradiction
          intro hc2
          exact hc ⟨j, hj, hc2⟩
        obtain ⟨j, h1, h2⟩ := hx
        have := zc_lt (p := zw_d E r n) (q := zw_d E r (n + 1)) R (fun j _ z => Or.inl z) j (zw_in hE hr h1) h1 h2
        omega
    have a := hg (R + 1) (by omega)
    have b := zc_le (zw_d E r (R + 1)) R
    omega
theorem zw_tr {E : Nat → Nat → Prop} {a b n : Nat} (h : zw_d E a n b) : ∀ {m c : Nat}, zw_d E b m c → zw_d E a (n + m) c := by
  intro m
  induction m with
  | zero =>
    intro c z
    have e : b = c := z
    subst e
    exact h
  | succ m ih =>
    intro c z
    rcases z with z | ⟨x, z, e⟩
    · exact Or.inl (ih z)
    · exact Or.inr ⟨x, ih z, e⟩
theorem zw_rt {E : Nat → Nat → Prop} {a b c : Nat} (h : zw_r E a b) (z : zw_r E b c) : zw_r E a c := by
  obtain ⟨n, h⟩ := h
  obtain ⟨m, z⟩ := z
  exact ⟨n + m, zw_tr h z⟩
theorem zw_r0 {E : Nat → Nat → Prop} (a : Nat) : zw_r E a a := ⟨0, rfl⟩
theorem zw_1 {E : Nat → Nat → Prop} {a b : Nat} (h : E a b) : zw_d E a 1 b := Or.inr ⟨a, rfl, h⟩
theorem zw_r1 {E : Nat → Nat → Prop} {a b : Nat} (h : E a b) : zw_r E a b := ⟨1, zw_1 h⟩
theorem zw_rin {E : Nat → Nat → Prop} {R r j : Nat} (hE : ∀ a b, E a b → b < R) (hr : r < R) (h : zw_r E r j) : j < R := by
  obtain ⟨n, h⟩ := h
  exact zw_in hE hr h
theorem zw_rc {E : Nat → Nat → Prop} {R r j n : Nat} (hE : ∀ a b, E a b → b < R) (hr : r < R) (hn : R ≤ n) (h : zw_r E r j) : zw_d E r n j := by
  obtain ⟨m, h⟩ := h
  exact zw_le hn (zw_cut hE hr h)
/-! plans -/
def zp_run (ap : Nat → Nat → Prop) (go : Nat → Nat → Nat) : List Nat → Nat → Nat → Prop
  | [], s, t => s = t
  | i :: p, s, t => ap s i ∧ zp_run ap go p (go s i) t
def zp_code : List Nat → Nat
  | [] => 0
  | i :: p => (i + 1) * 17 ^ p.length + zp_code p
theorem zp_sn {ap : Nat → Nat → Prop} {go : Nat → Nat → Nat} {m i : Nat} : ∀ {p : List Nat} {s : Nat}, zp_run ap go p s m → ap m i → zp_run ap go (p ++ [i]) s (go m i) := by
  intro p
  induction p with
  | nil =>
    intro s h a
    have e : s = m := h
    subst e
    exact ⟨a, rfl⟩
  | cons x p ih =>
    intro s h a
    exact ⟨h.1, ih h.2 a⟩
theorem zp_cs (p : List Nat) (i : Nat) : zp_code (p ++ [i]) = 17 * zp_code p + i + 1 := by
  induction p with
  | nil =>
    show (i + 1) * 17 ^ 0 + 0 = 17 * 0 + i + 1
    omega
  | cons x p ih =>
    show (x + 1) * 17 ^ (p ++ [i]).length + zp_code (p ++ [i]) = 17 * ((x + 1) * 17 ^ p.length + zp_code p) + i + 1
    rw [ih, List.length_append, List.length_singleton, Nat.pow_succ, ← Nat.mul_assoc]
    generalize (x + 1) * 17 ^ p.length = z
    omega
theorem zp_dg {ap : Nat → Nat → Prop} {go : Nat → Nat → Nat} (hA : ∀ s i, ap s i → i < 16) : ∀ {p : List Nat} {s t : Nat}, zp_run ap go p s t → ∀ i, i ∈ p → i < 16 := by
  intro p
  induction p with
  | nil =>
    intro s t _ i hi
    exact absurd hi (List.not_mem_nil)
  | cons x p ih =>
    intro s t h i hi
    rcases List.mem_cons.mp hi with e | hi
    · subst e
      exact hA _ _ h.1
    · exact ih h.2 i hi
theorem zp_lt {p : List Nat} (h : ∀ i, i ∈ p → i < 16) : zp_code p < 17 ^ p.length := by
  induction p with
  | nil => show 0 < 17 ^ 0; omega
  | cons x p ih =>
    have i := ih (fun i hi => h i (List.mem_cons_of_mem _ hi))
    have hx := h x (List.mem_cons_self)
    show (x + 1) * 17 ^ p.length + zp_code p < 17 ^ (p.length + 1)
    have hm : (x + 1) * 17 ^ p.length ≤ 16 * 17 ^ p.length := Nat.mul_le_mul_right _ (by omega)
    rw [Nat.pow_succ]
    omega
theorem zp_ge (i : Nat) (p : List Nat) : 17 ^ p.length ≤ zp_code (i :: p) := by
  show 17 ^ p.length ≤ (i + 1) * 17 ^ p.length + zp_code p
  have hm : 1 * 17 ^ p.length ≤ (i + 1) * 17 ^ p.length := Nat.mul_le_mul_right _ (by omega)
  omega
theorem zp_ln {p q : List Nat} (h : ∀ i, i ∈ p → i < 16) (hl : p.length < q.length) : zp_code p < zp_code q := by
  cases q with
  | nil => exact absurd hl (Nat.not_lt_zero _)
  | cons x q =>
    have a := zp_lt h
    have b := zp_ge x q
    have c : 17 ^ p.length ≤ 17 ^ q.length := Nat.pow_le_pow_right (by omega) (by simp only [List.length_cons] at hl; omega)
    omega
def zp_min (ap : Nat → Nat → Prop) (go : Nat → Nat → Nat) (T : Nat → Prop) (s : Nat) (p : List Nat) : Prop :=
  (∃ t, zp_run ap go p s t ∧ T t) ∧ ∀ q t, zp_run ap go q s t → T t → zp_code p ≤ zp_code q
theorem zp_mlen {ap : Nat → Nat → Prop} {go : Nat → Nat → Nat} {T : Nat → Prop} (hA : ∀ s i, ap s i → i < 16) {s : Nat} {p : List Nat} (h : zp_min ap go T s p) {q : List Nat} {t : Nat} (hq : zp_run ap go q s t) (ht : T t) : p.length ≤ q.length := by
  rcases Nat.lt_or_ge q.length p.length with hl | hl
  · have a := zp_ln (zp_dg hA hq) hl
    have b := h.2 q t hq ht
    omega
  · exact hl
theorem zp_mtl {ap : Nat → Nat → Prop} {go : Nat → Nat → Nat} {T : Nat → Prop} (hA : ∀ s i, ap s i → i < 16) {s i : Nat} {p : List Nat} (h : zp_min ap go T s (i :: p)) : ap s i ∧ zp_min ap go T (go s i) p := by
  obtain ⟨⟨t, hr, ht⟩, hm⟩ := h
  refine ⟨hr.1, ⟨t, hr.2, ht⟩, fun q t' hq ht' => ?_⟩
  have a : (i + 1) * 17 ^ p.length + zp_code p ≤ (i + 1) * 17 ^ q.length + zp_code q := hm (i :: q) t' ⟨hr.1, hq⟩ ht'
  rcases Nat.lt_or_ge p.length q.length with hl | hl
  · exact Nat.le_of_lt (zp_ln (zp_dg hA hr.2) hl)
  · have c : (i + 1) * 17 ^ q.length ≤ (i + 1) * 17 ^ p.length := Nat.mul_le_mul_left _ (Nat.pow_le_pow_right (by omega) hl)
    omega
theorem zp_mfst {ap : Nat → Nat → Prop} {go : Nat → Nat → Nat} {T : Nat → Prop} (hA : ∀ s i, ap s i → i < 16) {s i : Nat} {p : List Nat} (h : zp_min ap go T s (i :: p)) {j : Nat} (hj : j < i) (ha : ap s j) {q : List Nat} {t : Nat} (hq : zp_run ap go q (go s j) t) (ht : T t) : q.length ≠ p.length := by
  intro hl
  have a : (i + 1) * 17 ^ p.length + zp_code p ≤ (j + 1) * 17 ^ q.length + zp_code q := h.2 (j :: q) t ⟨ha, hq⟩ ht
  have b := zp_lt (zp_dg hA hq)
  rw [hl] at a b
  have c : (j + 2) * 17 ^ p.length ≤ (i + 1) * 17 ^ p.length := Nat.mul_le_mul_right _ (by omega)
  have d : (j + 2) * 17 ^ p.length = (j + 1) * 17 ^ p.length + 17 ^ p.length := by rw [Nat.add_mul (j + 1) 1, Nat.one_mul]
  omega
/-! the queue's end: n found sets, in the order of their codes -/
def zp_end (ap : Nat → Nat → Prop) (go : Nat → Nat → Nat) (st n : Nat) (Q : Nat → Nat) (P : Nat → List Nat) : Prop :=
  0 < n ∧ Q 0 = st ∧ P st = [] ∧
  (∀ j, j < n → zp_run ap go (P (Q j)) st (Q j)) ∧
  (∀ i j, i < j → j < n → zp_code (P (Q i)) < zp_code (P (Q j))) ∧
  (∀ j i, j < n → ap (Q j) i → ∃ k, k < n ∧ Q k = go (Q j) i ∧ zp_code (P (go (Q j) i)) ≤ 17 * zp_code (P (Q j)) + i + 1)
theorem zp_all {ap : Nat → Nat → Prop} {go : Nat → Nat → Nat} {st n : Nat} {Q : Nat → Nat} {P : Nat → List Nat} (h : zp_end ap go st n Q P) : ∀ (q : List Nat) (s t c j : Nat), j < n → Q j = s → zp_code (P s) ≤ c → zp_run ap go q s t → ∃ k, k < n ∧ Q k = t ∧ zp_code (P t) ≤ c * 17 ^ q.length + zp_code q := by
  obtain ⟨_, _, _, _, _, hc⟩ := h
  intro q
  induction q with
  | nil =>
    intro s t c j hj hQ hcd hr
    have e : s = t := hr
    subst e
    refine ⟨j, hj, hQ, ?_⟩
    show zp_code (P s) ≤ c * 17 ^ 0 + 0
    omega
  | cons i q ih =>
    intro s t c j hj hQ hcd hr
    subst hQ
    obtain ⟨k, hk, hQk, hle⟩ := hc j i hj hr.1
    obtain ⟨k2, h1, h2, h3⟩ := ih (go (Q j) i) t (17 * c + i + 1) k hk hQk (by omega) hr.2
    refine ⟨k2, h1, h2, ?_⟩
    show zp_code (P t) ≤ c * 17 ^ (q.length + 1) + ((i + 1) * 17 ^ q.length + zp_code q)
    have e : (17 * c + i + 1) * 17 ^ q.length = c * 17 ^ (q.length + 1) + (i + 1) * 17 ^ q.length := by
      rw [Nat.pow_succ, Nat.add_assoc, Nat.add_mul, Nat.mul_comm 17 c, Nat.mul_assoc, Nat.mul_comm 17 (17 ^ q.length)]
    omega
theorem zp_fnd {ap : Nat → Nat → Prop} {go : Nat → Nat → Nat} {st n : Nat} {Q : Nat → Nat} {P : Nat → List Nat} (h : zp_end ap go st n Q P) {q : List Nat} {t : Nat} (hr : zp_run ap go q st t) : ∃ k, k < n ∧ Q k = t ∧ zp_code (P t) ≤ zp_code q := by
  obtain ⟨k, h1, h2, h3⟩ := zp_all h q st t 0 0 h.1 h.2.1 (by rw [h.2.2.1]; exact Nat.le_refl _) hr
  exact ⟨k, h1, h2, by omega⟩
theorem zp_fst {ap : Nat → Nat → Prop} {go : Nat → Nat → Nat} {T : Nat → Prop} {st n : Nat} {Q : Nat → Nat} {P : Nat → List Nat} (h : zp_end ap go st n Q P) {j : Nat} (hj : j < n) (hT : T (Q j)) (hn : ∀ i, i < j → ¬ T (Q i)) : zp_min ap go T st (P (Q j)) := by
  refine ⟨⟨Q j, h.2.2.2.1 j hj, hT⟩, fun q t hr ht => ?_⟩
  obtain ⟨k, h1, h2, h3⟩ := zp_fnd h hr
  subst h2
  rcases Nat.lt_or_ge k j with hl | hl
  · exact absurd ht (hn k hl)
  · rcases Nat.lt_or_ge j k with hl2 | hl2
    · have := h.2.2.2.2.1 j k hl2 h1
      omega
    · have e : k = j := by omega
      subst e
      exact h3
theorem zp_non {ap : Nat → Nat → Prop} {go : Nat → Nat → Nat} {T : Nat → Prop} {st n : Nat} {Q : Nat → Nat} {P : Nat → List Nat} (h : zp_end ap go st n Q P) (hn : ∀ i, i < n → ¬ T (Q i)) {q : List Nat} {t : Nat} (hr : zp_run ap go q st t) : ¬ T t := by
  obtain ⟨k, h1, h2, _⟩ := zp_fnd h hr
  subst h2
  exact hn k h1
/-! the least j, j < d + b, with g j, or -1 -/
def zl_f (g : Nat → Bool) : Nat → Nat → Int32
  | 0, _ => -1
  | d + 1, j => if g j = true then nI j else zl_f g d (j + 1)
