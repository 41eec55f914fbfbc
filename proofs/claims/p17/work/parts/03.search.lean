/-! rules over role sets: s a set as a number, i a rule -/
def zr_ef (cl : Nat → Int32) (R s : Nat) : Int32 := zx_ex cl (nI s) R
def zr_x (rk rt : Nat → Int32) (x : Int32) (i : Nat) : Int32 := if rk i = 1 then x ||| ((1 : Int32) <<< (rt i &&& 31)) else x &&& (((1 : Int32) <<< (rt i &&& 31)) ^^^ (-1))
def zr_go (rk rt : Nat → Int32) (s i : Nat) : Nat := (zr_x rk rt (nI s) i).toNatClampNeg
def zr_ap (cnt R : Nat) (cl la rk rt rp rn : Nat → Int32) (s i : Nat) : Prop :=
  i < cnt ∧ ¬ la i = -1 ∧ (zr_ef cl R s &&& rp i) = rp i ∧ (zr_ef cl R s &&& rn i) = 0 ∧ bt (nI s) (rt i).toNatClampNeg = decide (¬ rk i = 1)
theorem zr_xb {rk rt : Nat → Int32} {x : Int32} {i R t : Nat} (hR : R ≤ 8) (ht : t < R) (e : rt i = nI t) (hx : ∀ j, R ≤ j → bt x j = false) : ∀ j, R ≤ j → bt (zr_x rk rt x i) j = false := by
  intro j hj
  unfold zr_x
  rw [e]
  by_cases h : rk i = 1
  · rw [if_pos h, zb_set x (by omega), hx j hj, decide_eq_false (by omega), Bool.or_self]
  · rw [if_neg h, zb_clr x (by omega), hx j hj, Bool.false_and]
theorem zr_goE {rk rt : Nat → Int32} {s i R t : Nat} (hR : R ≤ 8) (ht : t < R) (e : rt i = nI t) (hs : s < 2 ^ R) : nI (zr_go rk rt s i) = zr_x rk rt (nI s) i ∧ zr_go rk rt s i < 2 ^ R := by
  obtain ⟨m, hm, he⟩ := zb_of (zr_xb (rk := rk) hR ht e (fun j hj => zb_hi hs hj))
  have h8 := zb_p8 hR
  have h2 : zr_go rk rt s i = m := by
    unfold zr_go
    rw [he, nI_clamp (by omega)]
  rw [h2, he]
  exact ⟨rfl, hm⟩
/-! the search's queue while set p is looked at and rule i is next -/
def zs_inv (ap : Nat → Nat → Prop) (go : Nat → Nat → Nat) (st R : Nat) (ds pv ar fs : Nat → Int32) (n p i : Nat) (Q : Nat → Nat) (P : Nat → List Nat) : Prop :=
  p < n ∧ n ≤ 256 ∧ n ≤ zc_n (fun s => ¬ ds s = -1) 256 ∧ Q 0 = st ∧ P st = [] ∧
  (∀ j, j < n → Q j < 2 ^ R ∧ fs j = nI (Q j) ∧ ds (Q j) = nI (P (Q j)).length ∧ (P (Q j)).length ≤ j ∧ zp_run ap go (P (Q j)) st (Q j) ∧ zp_code (P (Q j)) ≤ 17 * zp_code (P (Q p)) + i) ∧
  (∀ s, s < 256 → ds s = -1 ∨ ∃ j, j < n ∧ Q j = s) ∧
  (∀ a b, a < b → b < n → zp_code (P (Q a)) < zp_code (P (Q b))) ∧
  (∀ j, j < n → j = 0 ∨ ∃ k r, k < j ∧ pv (Q j) = nI (Q k) ∧ ar (Q j) = nI r ∧ P (Q j) = P (Q k) ++ [r] ∧ ap (Q k) r) ∧
  (∀ j r, j < p ∨ (j = p ∧ r < i) → ap (Q j) r → ∃ k, k < n ∧ Q k = go (Q j) r ∧ zp_code (P (go (Q j) r)) ≤ 17 * zp_code (P (Q j)) + r + 1)
def zs_fin (ap : Nat → Nat → Prop) (go : Nat → Nat → Nat) (st R : Nat) (ds pv ar fs : Nat → Int32) (n : Nat) (Q : Nat → Nat) (P : Nat → List Nat) : Prop :=
  zp_end ap go st n Q P ∧ n ≤ 256 ∧
  (∀ j, j < n → Q j < 2 ^ R ∧ fs j = nI (Q j) ∧ ds (Q j) = nI (P (Q j)).length ∧ (P (Q j)).length ≤ j) ∧
  (∀ j, j < n → j = 0 ∨ ∃ k r, k < j ∧ pv (Q j) = nI (Q k) ∧ ar (Q j) = nI r ∧ P (Q j) = P (Q k) ++ [r] ∧ ap (Q k) r)
theorem zs_m1 {n : Nat} (h : n < 2 ^ 31) : ¬ nI n = -1 := by
  intro e
  have a := congrArg Int32.toInt e
  rw [nI_toInt h, show (-1 : Int32).toInt = -1 from by decide] at a
  omega
theorem zs_0 {ap : Nat → Nat → Prop} {go : Nat → Nat → Nat} {st R : Nat} {ds pv ar fs : Nat → Int32} (hst : st < 2 ^ R) (h8 : 2 ^ R ≤ 256) (hd : ∀ s, s < 256 → ds s = -1) : zs_inv ap go st R (upd ds st 0) pv ar (upd fs 0 (nI st)) 1 0 0 (fun _ => st) (fun _ => []) := by
  have hz : ¬ (0 : Int32) = -1 := by decide
  refine ⟨by omega, by omega, ?_, rfl, rfl, ?_, ?_, ?_, ?_, ?_⟩
  · have h := zc_lt (p := fun _ => False) (q := fun s => ¬ upd ds st 0 s = -1) 256 (fun j _ z => z.elim) st (by omega) (by rw [pk_us]; exact hz) (fun z => z)
    omega
  · intro j hj
    have e : j = 0 := by omega
    subst e
    refine ⟨hst, pk_us, ?_, Nat.le_refl _, rfl, Nat.zero_le _⟩
    show upd ds st 0 st = nI 0
    rw [pk_us]
    rfl
  · intro s hs
    by_cases e : s = st
    · exact Or.inr ⟨0, by omega, e.symm⟩
    · exact Or.inl (by rw [pk_un e]; exact hd s hs)
  · intro a b _ _
    omega
  · intro j hj
    exact Or.inl (by omega)
  · intro j r h
    omega
theorem zs_skip {ap : Nat → Nat → Prop} {go : Nat → Nat → Nat} {st R : Nat} {ds pv ar fs : Nat → Int32} {n p i : Nat} {Q : Nat → Nat} {P : Nat → List Nat} (h : zs_inv ap go st R ds pv ar fs n p i Q P) (ha : ap (Q p) i → ∃ k, k < n ∧ Q k = go (Q p) i) : zs_inv ap go st R ds pv ar fs n p (i + 1) Q P := by
  obtain ⟨h1, h2, h3, h4, h5, h6, h7, h8, h9, h10⟩ := h
  refine ⟨h1, h2, h3, h4, h5, ?_, h7, h8, h9, ?_⟩
  · intro j hj
    obtain ⟨a, b, c, d, e, f⟩ := h6 j hj
    exact ⟨a, b, c, d, e, by omega⟩
  · intro j r hjr hap
    by_cases hc : j < p ∨ (j = p ∧ r < i)
    · exact h10 j r hc hap
    · have e1 : j = p := by omega
      have e2 : r = i := by omega
      subst e1 e2
      obtain ⟨k, hk, hQ⟩ := ha hap
      refine ⟨k, hk, hQ, ?_⟩
      rw [← hQ]
      have := (h6 k hk).2.2.2.2.2
      omega
theorem zs_room {ap : Nat → Nat → Prop} {go : Nat → Nat → Nat} {st R : Nat} {ds pv ar fs : Nat → Int32} {n p i : Nat} {Q : Nat → Nat} {P : Nat → List Nat} (h : zs_inv ap go st R ds pv ar fs n p i Q P) {t : Nat} (ht : t < 256) (hd : ds t = -1) : n < 256 := by
  have a := zc_lt (p := fun s => ¬ ds s = -1) (q := fun _ => True) 256 (fun _ _ _ => True.intro) t ht True.intro (fun z => z hd)
  have b := zc_le (fun _ => True) 256
  have c := h.2.2.1
  omega
theorem zs_new {ap : Nat → Nat → Prop} {go : Nat → Nat → Nat} {st R : Nat} {ds pv ar fs : Nat → Int32} {n p i : Nat} {Q : Nat → Nat} {P : Nat → List Nat} (h : zs_inv ap go st R ds pv ar fs n p i Q P) (h256 : 2 ^ R ≤ 256) (ha : ap (Q p) i) (hg : go (Q p) i < 2 ^ R) (hd : ds (go (Q p) i) = -1) :
    ∃ (Q' : Nat → Nat) (P' : Nat → List Nat), Q' p = Q p ∧ zs_inv ap go st R (upd ds (go (Q p) i) (ds (Q p) + 1)) (upd pv (go (Q p) i) (nI (Q p))) (upd ar (go (Q p) i) (nI i)) (upd fs n (nI (go (Q p) i))) (n + 1) p (i + 1) Q' P' := by
  have hn := zs_room h (by omega) hd
  obtain ⟨h1, h2, h3, h4, h5, h6, h7, h8, h9, h10⟩ := h
  generalize hgt : go (Q p) i = t at hg hd
  have hne : ∀ j, j < n → Q j ≠ t := by
    intro j hj e
    obtain ⟨_, _, c, d, _⟩ := h6 j hj
    have c2 : ds t = nI (P (Q j)).length := by rw [← e]; exact c
    exact zs_m1 (by omega) (c2.symm.trans hd)
  have hQ : ∀ j, j < n → (fun j => if j = n then t else Q j) j = Q j := fun j hj => if_neg (by omega)
  have hQn : (fun j => if j = n then t else Q j) n = t := if_pos rfl
  have hP : ∀ j, j < n → (fun s => if s = t then P (Q p) ++ [i] else P s) (Q j) = P (Q j) := fun j hj => if_neg (hne j hj)
  have hPt : (fun s => if s = t then P (Q p) ++ [i] else P s) t = P (Q p) ++ [i] := if_pos rfl
  generalize hq : (fun j => if j = n then t else Q j) = Q' at hQ hQn
  generalize hp : (fun s => if s = t then P (Q p) ++ [i] else P s) = P' at hP hPt
  obtain ⟨p1, p2, p3, p4, p5, p6⟩ := h6 p h1
  have hlast : ∀ j, j < n + 1 → ¬ j < n → j = n := by intro j a b; omega
  refine ⟨Q', P', hQ p h1, by omega, by omega, ?_, ?_, ?_, ?_, ?_, ?_, ?_, ?_⟩
  · have a := zc_lt (p := fun s => ¬ ds s = -1) (q := fun s => ¬ upd ds t (ds (Q p) + 1) s = -1) 256 (by
      intro j _ z
      by_cases e : j = t
      · subst e
        exact absurd hd z
      · rw [pk_un e]
        exact z) t (by omega) (by
      rw [pk_us, p3, nI_1]
      exact zs_m1 (by omega)) (fun z => z hd)
    omega
  · rw [hQ 0 (by omega)]
    exact h4
  · have e := hP 0 (by omega)
    rw [h4] at e
    rw [e]
    exact h5
  · intro j hj
    rw [hQ p h1, hP p h1]
    by_cases hjn : j < n
    · obtain ⟨a, b, c, d, e, f⟩ := h6 j hjn
      rw [hQ j hjn, hP j hjn, pk_un (by omega), pk_un (hne j hjn)]
      exact ⟨a, b, c, d, e, by omega⟩
    · have e := hlast j hj hjn
      subst e
      rw [hQn, hPt, pk_us, pk_us, List.length_append, List.length_singleton, zp_cs]
      refine ⟨hg, rfl, by rw [p3, nI_1], by omega, ?_, by omega⟩
      rw [← hgt]
      exact zp_sn p5 ha
  · intro s hs
    by_cases e : s = t
    · exact Or.inr ⟨n, by omega, by rw [hQn]; exact e.symm⟩
    · rw [pk_un e]
      rcases h7 s hs with z | ⟨j, hj, z⟩
      · exact Or.inl z
      · exact Or.inr ⟨j, by omega, by rw [hQ j hj]; exact z⟩
  · intro a b hab hb
    rw [hQ a (by omega), hP a (by omega)]
    by_cases hbn : b < n
    · rw [hQ b hbn, hP b hbn]
      exact h8 a b hab hbn
    · have e := hlast b hb hbn
      subst e
      rw [hQn, hPt, zp_cs]
      have := (h6 a hab).2.2.2.2.2
      omega
  · intro j hj
    by_cases hjn : j < n
    · rcases h9 j hjn with z | ⟨k, r, hk, z1, z2, z3, z4⟩
      · exact Or.inl z
      · refine Or.inr ⟨k, r, hk, ?_, ?_, ?_, ?_⟩
        · rw [hQ j hjn, hQ k (by omega), pk_un (hne j hjn)]
          exact z1
        · rw [hQ j hjn, pk_un (hne j hjn)]
          exact z2
        · rw [hQ j hjn, hQ k (by omega), hP j hjn, hP k (by omega)]
          exact z3
        · rw [hQ k (by omega)]
          exact z4
    · have e := hlast j hj hjn
      subst e
      refine Or.inr ⟨p, i, h1, ?_, ?_, ?_, ?_⟩
      · rw [hQn, pk_us, hQ p h1]
      · rw [hQn, pk_us]
      · rw [hQn, hPt, hQ p h1, hP p h1]
      · rw [hQ p h1]
        exact ha
  · intro j r hjr hap
    have hj : j < n := by omega
    rw [hQ j hj] at hap
    rw [hQ j hj, hP j hj]
    by_cases hc : j < p ∨ (j = p ∧ r < i)
    · obtain ⟨k, hk, z1, z2⟩ := h10 j r hc hap
      refine ⟨k, by omega, by rw [hQ k hk]; exact z1, ?_⟩
      rw [← z1, hP k hk, z1]
      exact z2
    · have e1 : j = p := by omega
      have e2 : r = i := by omega
      subst e1 e2
      refine ⟨n, by omega, by rw [hQn, hgt], ?_⟩
      rw [hgt, hPt, zp_cs]
      exact Nat.le_refl _
theorem zs_next {ap : Nat → Nat → Prop} {go : Nat → Nat → Nat} {st R : Nat} {ds pv ar fs : Nat → Int32} {n p c : Nat} {Q : Nat → Nat} {P : Nat → List Nat} (h : zs_inv ap go st R ds pv ar fs n p c Q P) (hc : c ≤ 16) (hA : ∀ s i, ap s i → i < c) (hp : p + 1 < n) : zs_inv ap go st R ds pv ar fs n (p + 1) 0 Q P := by
  obtain ⟨h1, h2, h3, h4, h5, h6, h7, h8, h9, h10⟩ := h
  refine ⟨hp, h2, h3, h4, h5, ?_, h7, h8, h9, ?_⟩
  · intro j hj
    obtain ⟨a, b, c1, d, e, f⟩ := h6 j hj
    have := h8 p (p + 1) (by omega) hp
    exact ⟨a, b, c1, d, e, by omega⟩
  · intro j r hjr hap
    have hr := hA _ _ hap
    exact h10 j r (by omega) hap
theorem zs_end {ap : Nat → Nat → Prop} {go : Nat → Nat → Nat} {st R : Nat} {ds pv ar fs : Nat → Int32} {n p c : Nat} {Q : Nat → Nat} {P : Nat → List Nat} (h : zs_inv ap go st R ds pv ar fs n p c Q P) (hA : ∀ s i, ap s i → i < c) (hp : ¬ p + 1 < n) : zs_fin ap go st R ds pv ar fs n Q P := by
  obtain ⟨h1, h2, h3, h4, h5, h6, h7, h8, h9, h10⟩ := h
  refine ⟨⟨by omega, h4, h5, fun j hj => (h6 j hj).2.2.2.2.1, h8, ?_⟩, h2, ?_, h9⟩
  · intro j r hj hap
    have hr := hA _ _ hap
    exact h10 j r (by omega) hap
  · intro j hj
    obtain ⟨a, b, c1, d, e, f⟩ := h6 j hj
    exact ⟨a, b, c1, d⟩
/-! what a plan writes -/
def zs_put (f : Nat → Int32) (w : Nat → Int32) (p : List Nat) : Nat → Int32 := fun x => if x < p.length then f (p.getD x 0) else w x
theorem zs_put0 (f w : Nat → Int32) : zs_put f w [] = w := by
  funext x
  exact if_neg (Nat.not_lt_zero x)
theorem zs_putV (f w : Nat → Int32) (p : List Nat) (r x : Nat) : zs_put f w (p ++ [r]) x = if x < p.length then f (p.getD x 0) else if x = p.length then f r else w x := by
  unfold zs_put
  rw [List.length_append, List.length_singleton]
  rcases Nat.lt_or_ge x p.length with h | h
  · rw [if_pos (by omega), if_pos h, List.getD_eq_getElem?_getD, List.getElem?_append_left h, List.getD_eq_getElem?_getD]
  · rw [if_neg (by omega : ¬ x < p.length)]
    by_cases e : x = p.length
    · rw [if_pos (by omega), if_pos e, List.getD_eq_getElem?_getD, List.getElem?_append_right h, e, Nat.sub_self]
      rfl
    · rw [if_neg (by omega), if_neg e]
theorem zs_putS (f w : Nat → Int32) (p : List Nat) (r : Nat) : zs_put f (upd w p.length (f r)) p = zs_put f w (p ++ [r]) := by
  funext x
  rw [zs_putV]
  show (if x < p.length then f (p.getD x 0) else upd w p.length (f r) x) = _
  by_cases h : x < p.length
  · rw [if_pos h, if_pos h]
  · rw [if_neg h, if_neg h]
    rfl
theorem zs_putF (f w : Nat → Int32) (p : List Nat) (r : Nat) : upd (zs_put f w p) p.length (f r) = zs_put f w (p ++ [r]) := by
  funext x
  rw [zs_putV]
  by_cases e : x = p.length
  · rw [e, pk_us, if_neg (by omega), if_pos rfl]
  · rw [pk_un e]
    show (if x < p.length then f (p.getD x 0) else w x) = _
    rw [if_neg e]
