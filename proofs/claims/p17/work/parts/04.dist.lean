/-! the reference's way: d s the length of some plan from s, or 100000 -/
def zy_snd (ap : Nat → Nat → Prop) (go : Nat → Nat → Nat) (T : Nat → Prop) (R : Nat) (d : Nat → Nat) : Prop :=
  ∀ s, s < 2 ^ R → d s ≤ 100000 ∧ (d s < 100000 → ∃ q t, zp_run ap go q s t ∧ T t ∧ q.length = d s)
def zy_cmp (ap : Nat → Nat → Prop) (go : Nat → Nat → Nat) (T : Nat → Prop) (R : Nat) (d : Nat → Nat) (m : Nat) : Prop :=
  ∀ q s t, s < 2 ^ R → zp_run ap go q s t → T t → q.length ≤ m → d s ≤ q.length
def zy_pas (ap : Nat → Nat → Prop) (go : Nat → Nat → Nat) (R : Nat) (d0 d : Nat → Nat) (x : Nat) : Prop :=
  (∀ s, s < 2 ^ R → d s ≤ d0 s) ∧ (∀ s i, s < 2 ^ R → i < 16 → 16 * s + i < x → ap s i → d s ≤ d0 (go s i) + 1)
theorem zy_p0 {ap : Nat → Nat → Prop} {go : Nat → Nat → Nat} {R : Nat} (d : Nat → Nat) : zy_pas ap go R d d 0 := ⟨fun _ _ => Nat.le_refl _, fun _ _ _ _ h => by omega⟩
theorem zy_pskip {ap : Nat → Nat → Prop} {go : Nat → Nat → Nat} {R : Nat} {d0 d : Nat → Nat} {s i : Nat} (hg : ∀ s i, s < 2 ^ R → ap s i → go s i < 2 ^ R) (h : zy_pas ap go R d0 d (16 * s + i)) (hi : i < 16) (hs : s < 2 ^ R) (ha : ap s i → ¬ d (go s i) + 1 < d s) : zy_pas ap go R d0 d (16 * s + i + 1) := by
  refine ⟨h.1, fun s' i' hs' hi' hl hap => ?_⟩
  by_cases hc : 16 * s' + i' < 16 * s + i
  · exact h.2 s' i' hs' hi' hc hap
  · have e1 : s' = s := by omega
    have e2 : i' = i := by omega
    subst e1 e2
    have a := ha hap
    have b := h.1 (go s' i') (hg _ _ hs' hap)
    omega
theorem zy_pset {ap : Nat → Nat → Prop} {go : Nat → Nat → Nat} {R : Nat} {d0 d : Nat → Nat} {s i : Nat} (hg : ∀ s i, s < 2 ^ R → ap s i → go s i < 2 ^ R) (h : zy_pas ap go R d0 d (16 * s + i)) (hi : i < 16) (hs : s < 2 ^ R) (ha : ap s i) (hl : d (go s i) + 1 < d s) : zy_pas ap go R d0 (fun x => if x = s then d (go s i) + 1 else d x) (16 * s + i + 1) := by
  have b := h.1 (go s i) (hg _ _ hs ha)
  have b0 := h.1 s hs
  refine ⟨fun s' hs' => ?_, fun s' i' hs' hi' hl' hap => ?_⟩
  · dsimp only
    by_cases e : s' = s
    · rw [if_pos e, e]; omega
    · rw [if_neg e]; exact h.1 s' hs'
  · dsimp only
    by_cases hc : 16 * s' + i' < 16 * s + i
    · have a := h.2 s' i' hs' hi' hc hap
      by_cases e : s' = s
      · rw [if_pos e]
        rw [e] at a ⊢
        omega
      · rw [if_neg e]; exact a
    · have e1 : s' = s := by omega
      have e2 : i' = i := by omega
      subst e1 e2
      rw [if_pos rfl]
      omega
theorem zy_sset {ap : Nat → Nat → Prop} {go : Nat → Nat → Nat} {T : Nat → Prop} {R : Nat} {d : Nat → Nat} {s i : Nat} (hg : ∀ s i, s < 2 ^ R → ap s i → go s i < 2 ^ R) (h : zy_snd ap go T R d) (hs : s < 2 ^ R) (ha : ap s i) (hl : d (go s i) + 1 < d s) : zy_snd ap go T R (fun x => if x = s then d (go s i) + 1 else d x) := by
  intro s' hs'
  dsimp only
  by_cases e : s' = s
  · rw [if_pos e]
    subst e
    have a := (h s' hs').1
    obtain ⟨q, t, h1, h2, h3⟩ := (h (go s' i) (hg _ _ hs' ha)).2 (by omega)
    exact ⟨by omega, fun _ => ⟨i :: q, t, ⟨ha, h1⟩, h2, by rw [List.length_cons, h3]⟩⟩
  · rw [if_neg e]
    exact h s' hs'
theorem zy_pend {ap : Nat → Nat → Prop} {go : Nat → Nat → Nat} {T : Nat → Prop} {R : Nat} {d0 d : Nat → Nat} {m : Nat} (hA : ∀ s i, ap s i → i < 16) (hg : ∀ s i, s < 2 ^ R → ap s i → go s i < 2 ^ R) (h : zy_pas ap go R d0 d (16 * 2 ^ R)) (hc : zy_cmp ap go T R d0 m) : zy_cmp ap go T R d (m + 1) := by
  intro q s t hs hr hT hl
  cases q with
  | nil =>
    have a := hc [] s t hs hr hT (Nat.zero_le _)
    have b := h.1 s hs
    exact Nat.le_trans b a
  | cons i q =>
    have hi := hA _ _ hr.1
    have hgo := hg _ _ hs hr.1
    have a := hc q (go s i) t hgo hr.2 hT (by simp only [List.length_cons] at hl; omega)
    have b := h.2 s i hs hi (by omega) hr.1
    simp only [List.length_cons]
    omega
theorem zy_pfix {ap : Nat → Nat → Prop} {go : Nat → Nat → Nat} {T : Nat → Prop} {R : Nat} {d0 d : Nat → Nat} (hA : ∀ s i, ap s i → i < 16) (hg : ∀ s i, s < 2 ^ R → ap s i → go s i < 2 ^ R) (h : zy_pas ap go R d0 d (16 * 2 ^ R)) (he : ∀ s, s < 2 ^ R → d s = d0 s) (hc : zy_cmp ap go T R d0 0) (m : Nat) : zy_cmp ap go T R d m := by
  intro q
  induction q with
  | nil =>
    intro s t hs hr hT hl
    rw [he s hs]
    exact hc [] s t hs hr hT (Nat.zero_le _)
  | cons i q ih =>
    intro s t hs hr hT hl
    have hi := hA _ _ hr.1
    have hgo := hg _ _ hs hr.1
    have a := ih (go s i) t hgo hr.2 hT (by simp only [List.length_cons] at hl; omega)
    have b := h.2 s i hs hi (by omega) hr.1
    rw [he _ hgo] at a
    simp only [List.length_cons]
    omega
theorem zy_c0 {ap : Nat → Nat → Prop} {go : Nat → Nat → Nat} {T : Nat → Prop} {R : Nat} {d : Nat → Nat} (h : ∀ s, s < 2 ^ R → T s → d s = 0) : zy_cmp ap go T R d 0 := by
  intro q s t hs hr hT hl
  cases q with
  | nil =>
    have e : s = t := hr
    rw [h s hs (by rw [e]; exact hT)]
    exact Nat.zero_le _
  | cons i q => simp only [List.length_cons] at hl; omega
theorem zy_cle {ap : Nat → Nat → Prop} {go : Nat → Nat → Nat} {T : Nat → Prop} {R : Nat} {d : Nat → Nat} {m k : Nat} (h : zy_cmp ap go T R d m) (hk : k ≤ m) : zy_cmp ap go T R d k := fun q s t a b c e => h q s t a b c (by omega)
theorem zy_at {ap : Nat → Nat → Prop} {go : Nat → Nat → Nat} {T : Nat → Prop} {R : Nat} {d : Nat → Nat} (hA : ∀ s i, ap s i → i < 16) (h : zy_snd ap go T R d) (hc : zy_cmp ap go T R d 257) {s : Nat} (hs : s < 2 ^ R) {p : List Nat} (hm : zp_min ap go T s p) (hl : p.length ≤ 256) : d s = p.length := by
  obtain ⟨t, hr, hT⟩ := hm.1
  have a := hc p s t hs hr hT (by omega)
  obtain ⟨q, t', h1, h2, h3⟩ := (h s hs).2 (by omega)
  have b := zp_mlen hA hm h1 h2
  omega
theorem zy_not {ap : Nat → Nat → Prop} {go : Nat → Nat → Nat} {T : Nat → Prop} {R : Nat} {d : Nat → Nat} (hA : ∀ s i, ap s i → i < 16) (h : zy_snd ap go T R d) (hg : ∀ s i, s < 2 ^ R → ap s i → go s i < 2 ^ R) {s i : Nat} (hs : s < 2 ^ R) {p : List Nat} (hm : zp_min ap go T s (i :: p)) (hl : p.length < 100000) {j : Nat} (hj : j < i) (ha : ap s j) : d (go s j) ≠ p.length := by
  intro e
  obtain ⟨q, t', h1, h2, h3⟩ := (h (go s j) (hg _ _ hs ha)).2 (by omega)
  exact zp_mfst hA hm hj ha h1 h2 (by omega)
theorem zy_inf {ap : Nat → Nat → Prop} {go : Nat → Nat → Nat} {T : Nat → Prop} {R : Nat} {d : Nat → Nat} (h : zy_snd ap go T R d) {s : Nat} (hs : s < 2 ^ R) (hn : ∀ q t, zp_run ap go q s t → ¬ T t) : d s = 100000 := by
  have a := h s hs
  rcases Nat.lt_or_ge (d s) 100000 with hl | hl
  · obtain ⟨q, t, h1, h2, _⟩ := a.2 hl
    exact absurd h2 (hn q t h1)
  · omega
/-! seen sets -/
theorem zp_sp {ap : Nat → Nat → Prop} {go : Nat → Nat → Nat} : ∀ {q : List Nat} {s t : Nat}, zp_run ap go q s t → (q = [] ∧ s = t) ∨ ∃ q' i m, q = q' ++ [i] ∧ zp_run ap go q' s m ∧ ap m i ∧ go m i = t := by
  intro q
  induction q with
  | nil => exact fun h => Or.inl ⟨rfl, h⟩
  | cons x q ih =>
    intro s t h
    rcases ih h.2 with ⟨e, e2⟩ | ⟨q', i, m, e, h1, h2, h3⟩
    · subst e
      exact Or.inr ⟨[], x, s, rfl, rfl, h.1, e2⟩
    · subst e
      exact Or.inr ⟨x :: q', i, m, rfl, ⟨h.1, h1⟩, h2, h3⟩
theorem zp_ri {ap : Nat → Nat → Prop} {go : Nat → Nat → Nat} {R : Nat} (hg : ∀ s i, s < 2 ^ R → ap s i → go s i < 2 ^ R) : ∀ {q : List Nat} {s t : Nat}, s < 2 ^ R → zp_run ap go q s t → t < 2 ^ R := by
  intro q
  induction q with
  | nil =>
    intro s t hs h
    have e : s = t := h
    omega
  | cons x q ih =>
    intro s t hs h
    exact ih (hg _ _ hs h.1) h.2
def zy_rs (ap : Nat → Nat → Prop) (go : Nat → Nat → Nat) (st : Nat) (se : Nat → Int32) : Prop := ∀ s, s < 256 → ¬ se s = 0 → ∃ q, zp_run ap go q st s
def zy_rc (ap : Nat → Nat → Prop) (go : Nat → Nat → Nat) (st : Nat) (se : Nat → Int32) (m : Nat) : Prop := ∀ q t, zp_run ap go q st t → q.length ≤ m → ¬ se t = 0
def zy_rp (ap : Nat → Nat → Prop) (go : Nat → Nat → Nat) (R : Nat) (s0 se : Nat → Int32) (x : Nat) : Prop :=
  (∀ s, ¬ s0 s = 0 → ¬ se s = 0) ∧ (∀ s i, s < 2 ^ R → i < 16 → 16 * s + i < x → ¬ s0 s = 0 → ap s i → ¬ se (go s i) = 0)
theorem zy_r0 {ap : Nat → Nat → Prop} {go : Nat → Nat → Nat} {R : Nat} (se : Nat → Int32) : zy_rp ap go R se se 0 := ⟨fun _ h => h, fun _ _ _ _ h => by omega⟩
theorem zy_rskip {ap : Nat → Nat → Prop} {go : Nat → Nat → Nat} {R : Nat} {s0 se : Nat → Int32} {s i : Nat} (h : zy_rp ap go R s0 se (16 * s + i)) (hi : i < 16) (ha : ¬ se s = 0 → ap s i → ¬ se (go s i) = 0) : zy_rp ap go R s0 se (16 * s + i + 1) := by
  refine ⟨h.1, fun s' i' hs' hi' hl hz hap => ?_⟩
  by_cases hc : 16 * s' + i' < 16 * s + i
  · exact h.2 s' i' hs' hi' hc hz hap
  · have e1 : s' = s := by omega
    have e2 : i' = i := by omega
    subst e1 e2
    exact ha (h.1 _ hz) hap
theorem zy_uk {se : Nat → Int32} {t : Nat} : ∀ s, ¬ se s = 0 → ¬ upd se t 1 s = 0 := by
  intro s h
  by_cases e : s = t
  · rw [e, pk_us]; decide
  · rw [pk_un e]; exact h
theorem zy_rset {ap : Nat → Nat → Prop} {go : Nat → Nat → Nat} {R : Nat} {s0 se : Nat → Int32} {s i : Nat} (h : zy_rp ap go R s0 se (16 * s + i)) (hi : i < 16) : zy_rp ap go R s0 (upd se (go s i) 1) (16 * s + i + 1) := by
  refine ⟨fun s hz => zy_uk _ (h.1 s hz), fun s' i' hs' hi' hl hz hap => ?_⟩
  by_cases hc : 16 * s' + i' < 16 * s + i
  · exact zy_uk _ (h.2 s' i' hs' hi' hc hz hap)
  · have e1 : s' = s := by omega
    have e2 : i' = i := by omega
    subst e1 e2
    rw [pk_us]; decide
theorem zy_rsS {ap : Nat → Nat → Prop} {go : Nat → Nat → Nat} {st : Nat} {se : Nat → Int32} {s i : Nat} (h : zy_rs ap go st se) (hs : s < 256) (hz : ¬ se s = 0) (ha : ap s i) : zy_rs ap go st (upd se (go s i) 1) := by
  intro s' hs' hz'
  by_cases e : s' = go s i
  · obtain ⟨q, hq⟩ := h s hs hz
    exact ⟨q ++ [i], by rw [e]; exact zp_sn hq ha⟩
  · rw [pk_un e] at hz'
    exact h s' hs' hz'
theorem zy_rend {ap : Nat → Nat → Prop} {go : Nat → Nat → Nat} {R st : Nat} {s0 se : Nat → Int32} {m : Nat} (hA : ∀ s i, ap s i → i < 16) (hg : ∀ s i, s < 2 ^ R → ap s i → go s i < 2 ^ R) (hst : st < 2 ^ R) (h : zy_rp ap go R s0 se (16 * 2 ^ R)) (hc : zy_rc ap go st s0 m) : zy_rc ap go st se (m + 1) := by
  intro q t hr hl
  rcases zp_sp hr with ⟨e, e2⟩ | ⟨q', i, a, e, h1, h2, h3⟩
  · exact h.1 _ (hc q t hr (by rw [e]; exact Nat.zero_le _))
  · have hz := hc q' a h1 (by rw [e, List.length_append, List.length_singleton] at hl; omega)
    have hi := hA _ _ h2
    have ha := zp_ri hg hst h1
    rw [← h3]
    exact h.2 a i ha hi (by omega) hz h2
theorem zy_rfix {ap : Nat → Nat → Prop} {go : Nat → Nat → Nat} {R st : Nat} {s0 se : Nat → Int32} {m : Nat} (hA : ∀ s i, ap s i → i < 16) (hg : ∀ s i, s < 2 ^ R → ap s i → go s i < 2 ^ R) (hst : st < 2 ^ R) (h : zy_rp ap go R s0 se (16 * 2 ^ R)) (he : se = s0) (hc : zy_rc ap go st s0 0) : zy_rc ap go st se m := by
  subst he
  have hf : ∀ q s t, s < 2 ^ R → ¬ se s = 0 → zp_run ap go q s t → ¬ se t = 0 := by
    intro q
    induction q with
    | nil =>
      intro s t _ hz hr
      have e : s = t := hr
      rw [← e]; exact hz
    | cons i q ih =>
      intro s t hs hz hr
      have hi := hA _ _ hr.1
      exact ih _ t (hg _ _ hs hr.1) (h.2 s i hs hi (by omega) hz hr.1) hr.2
  exact fun q t hr _ => hf q st t hst (hc [] st rfl (Nat.zero_le _)) hr
theorem zo_ext {x y : Int32} (h : ∀ b, bt x b = true ↔ bt y b = true) : x = y := by
  apply b_ext
  intro i _
  have a := h i
  cases hx : bt x i
  · cases hy : bt y i
    · rfl
    · rw [a.mpr hy] at hx
      exact absurd hx (by decide)
  · exact (a.mp hx).symm
