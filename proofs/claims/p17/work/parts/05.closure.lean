/-! the hierarchy -/
def zi_E (R : Nat) (dj : Nat → Int32) (a b : Nat) : Prop := a < R ∧ bt (dj a) b = true
def zi_dj (R : Nat) (dj : Nat → Int32) : Prop := ∀ a, a < 8 → ∀ b, bt (dj a) b = true → a < R ∧ b < R
def zi_ed (dj ed : Nat → Int32) : Prop := ∀ k, k < 64 → (¬ ed k = 0 ↔ bt (dj (k / 8)) (k % 8) = true)
def zi_cl (R : Nat) (dj cl : Nat → Int32) : Prop := ∀ r, r < R → ∀ j, bt (cl r) j = true ↔ zw_r (zi_E R dj) r j
theorem zi_hE {R : Nat} {dj : Nat → Int32} (hR : R ≤ 8) (h : zi_dj R dj) : ∀ a b, zi_E R dj a b → b < R := fun a b z => (h a (by have := z.1; omega) b z.2).2
def zk_c (R n : Nat) (dj cl : Nat → Int32) (role : Nat) : Prop :=
  (∀ r, r < R → ∀ j, bt (cl r) j = true → zw_r (zi_E R dj) r j) ∧
  (∀ r, r < R → ∀ j, zw_d (zi_E R dj) r (if r < role then n + 1 else n) j → bt (cl r) j = true)
theorem zk_in {R n role : Nat} {dj cl : Nat → Int32} (hR : R ≤ 8) (hd : zi_dj R dj) (hn : 1 ≤ n) (hr : role < R) (h : zk_c R n dj cl role) : zk_c R n dj (upd cl role (zx_ex cl (cl role) R)) (role + 1) := by
  have hE := zi_hE hR hd
  have hw : ∀ r, r < R → ∀ j, zw_d (zi_E R dj) r n j → bt (cl r) j = true := by
    intro r h1 j z
    apply h.2 r h1 j
    by_cases hc : r < role
    · rw [if_pos hc]; exact zw_le (by omega) z
    · rw [if_neg hc]; exact z
  refine ⟨fun r h1 j z => ?_, fun r h1 j z => ?_⟩
  · by_cases e : r = role
    · subst e
      rw [pk_us] at z
      obtain ⟨a, h2, h3, h4⟩ := (zx_exb cl (cl r) j R).mp z
      exact zw_rt (h.1 r h1 a h3) (h.1 a h2 j h4)
    · rw [pk_un e] at z
      exact h.1 r h1 j z
  · by_cases e : r = role
    · subst e
      rw [pk_us]
      rw [if_pos (by omega)] at z
      apply (zx_exb cl (cl r) j R).mpr
      rcases z with z | ⟨a, z, ea⟩
      · exact ⟨r, h1, hw r h1 r (zw_le (Nat.zero_le _) rfl), hw r h1 j z⟩
      · exact ⟨a, ea.1, hw r h1 a z, hw a ea.1 j (zw_le hn (zw_1 ea))⟩
    · rw [pk_un e]
      apply h.2 r h1 j
      by_cases hc : r < role
      · rw [if_pos hc]
        rw [if_pos (by omega)] at z
        exact z
      · rw [if_neg hc]
        rw [if_neg (by omega)] at z
        exact z
theorem zk_rd {R n : Nat} {dj cl : Nat → Int32} (h : zk_c R n dj cl R) : zk_c R (n + 1) dj cl 0 := by
  refine ⟨h.1, fun r h1 j z => h.2 r h1 j ?_⟩
  rw [if_neg (Nat.not_lt_zero r)] at z
  rw [if_pos h1]
  exact z
theorem zk_ok {R n : Nat} {dj cl : Nat → Int32} (hR : R ≤ 8) (hd : zi_dj R dj) (hn : R ≤ n) (h : zk_c R n dj cl 0) : zi_cl R dj cl := by
  intro r h1 j
  refine ⟨h.1 r h1 j, fun z => h.2 r h1 j ?_⟩
  rw [if_neg (Nat.not_lt_zero r)]
  exact zw_rc (zi_hE hR hd) h1 hn z
theorem zk_st {R : Nat} {dj cl : Nat → Int32} (hR : R ≤ 8) (h : ∀ r, r < R → cl r = dj r ||| ((1 : Int32) <<< (nI r &&& 31))) : zk_c R 1 dj cl 0 := by
  refine ⟨fun r h1 j z => ?_, fun r h1 j z => ?_⟩
  · rw [h r h1, zb_set _ (by omega), Bool.or_eq_true] at z
    rcases z with z | z
    · exact zw_r1 ⟨h1, z⟩
    · have e := of_decide_eq_true z
      subst e
      exact zw_r0 _
  · rw [if_neg (Nat.not_lt_zero r)] at z
    rw [h r h1, zb_set _ (by omega), Bool.or_eq_true]
    rcases z with z | ⟨a, z, e⟩
    · have e : r = j := z
      exact Or.inr (decide_eq_true e.symm)
    · have e2 : r = a := z
      subst e2
      exact Or.inl e.2
/-! the reference's closure of r: the set so far -/
def zk_ys (R : Nat) (dj : Nat → Int32) (r : Nat) (s : Int32) (n : Nat) : Prop :=
  (∀ j, bt s j = true → zw_r (zi_E R dj) r j) ∧ (∀ j, zw_d (zi_E R dj) r n j → bt s j = true)
def zk_yk (R : Nat) (dj ed : Nat → Int32) (r : Nat) (s0 s : Int32) (k : Nat) : Prop :=
  (∀ j, bt s j = true → zw_r (zi_E R dj) r j) ∧ (∀ j, bt s0 j = true → bt s j = true) ∧ (∀ k', k' < k → ¬ ed k' = 0 → bt s0 (k' / 8) = true → bt s (k' % 8) = true)
theorem zk_y0 {R r : Nat} {dj : Nat → Int32} (hr : r < 8) : zk_ys R dj r ((1 : Int32) <<< (nI r &&& 31)) 0 := by
  refine ⟨fun j z => ?_, fun j z => ?_⟩
  · rw [zb_sh (by omega)] at z
    have e := of_decide_eq_true z
    subst e
    exact zw_r0 _
  · have e : r = j := z
    rw [zb_sh (by omega)]
    exact decide_eq_true e.symm
theorem zk_yb {R r n : Nat} {dj ed : Nat → Int32} {s : Int32} (h : zk_ys R dj r s n) : zk_yk R dj ed r s s 0 := ⟨h.1, fun _ z => z, fun _ z => by omega⟩
theorem zk_yskip {R r k : Nat} {dj ed : Nat → Int32} {s0 s : Int32} (h : zk_yk R dj ed r s0 s k) (hc : ¬ ed k = 0 → bt s (k / 8) = false) : zk_yk R dj ed r s0 s (k + 1) := by
  refine ⟨h.1, h.2.1, fun k' h1 h2 h3 => ?_⟩
  by_cases e : k' = k
  · subst e
    have := h.2.1 _ h3
    rw [hc h2] at this
    exact absurd this (by decide)
  · exact h.2.2 k' (by omega) h2 h3
theorem zk_yset {R r k : Nat} {dj ed : Nat → Int32} {s0 s : Int32} (hd : zi_dj R dj) (he : zi_ed dj ed) (hk : k < 64) (h : zk_yk R dj ed r s0 s k) (hc : ¬ ed k = 0) (hb : bt s (k / 8) = true) : zk_yk R dj ed r s0 (s ||| ((1 : Int32) <<< (nI (k % 8) &&& 31))) (k + 1) := by
  have hx : ∀ j, bt s j = true → bt (s ||| ((1 : Int32) <<< (nI (k % 8) &&& 31))) j = true := by
    intro j z
    rw [zb_set _ (by omega), z, Bool.true_or]
  refine ⟨fun j z => ?_, fun j z => hx j (h.2.1 j z), fun k' h1 h2 h3 => ?_⟩
  · rw [zb_set _ (by omega), Bool.or_eq_true] at z
    rcases z with z | z
    · exact h.1 j z
    · have e := of_decide_eq_true z
      subst e
      have hb2 := (he k hk).mp hc
      exact zw_rt (h.1 _ hb) (zw_r1 ⟨(hd (k / 8) (by omega) _ hb2).1, hb2⟩)
  · by_cases e : k' = k
    · subst e
      rw [zb_set _ (by omega), decide_eq_true rfl, Bool.or_true]
    · exact hx _ (h.2.2 k' (by omega) h2 h3)
theorem zk_yend {R r n : Nat} {dj ed : Nat → Int32} {s0 s : Int32} (hR : R ≤ 8) (hd : zi_dj R dj) (he : zi_ed dj ed) (h0 : zk_ys R dj r s0 n) (h : zk_yk R dj ed r s0 s 64) : zk_ys R dj r s (n + 1) := by
  refine ⟨h.1, fun j z => ?_⟩
  rcases z with z | ⟨a, z, e⟩
  · exact h.2.1 j (h0.2 j z)
  · have ha := e.1
    have hj := (hd a (by omega) j e.2).2
    have e1 : (8 * a + j) / 8 = a := by omega
    have e2 : (8 * a + j) % 8 = j := by omega
    have q := h.2.2 (8 * a + j) (by omega) ((he _ (by omega)).mpr (by rw [e1, e2]; exact e.2)) (by rw [e1]; exact h0.2 a z)
    rw [e2] at q
    exact q
theorem zk_yv {R r n : Nat} {dj cl : Nat → Int32} {s : Int32} (hR : R ≤ 8) (hd : zi_dj R dj) (hn : R ≤ n) (hr : r < R) (hc : zi_cl R dj cl) (h : zk_ys R dj r s n) : s = cl r := by
  apply zo_ext
  intro b
  rw [hc r hr b]
  exact ⟨h.1 b, fun z => h.2 b (zw_rc (zi_hE hR hd) hr hn z)⟩
theorem zi_exb {R : Nat} {dj cl : Nat → Int32} (hR : R ≤ 8) (hd : zi_dj R dj) (hc : zi_cl R dj cl) (s : Int32) : ∀ j, R ≤ j → bt (zx_ex cl s R) j = false := by
  intro j hj
  apply zb_nt
  intro z
  obtain ⟨r, h1, _, h3⟩ := (zx_exb cl s j R).mp z
  have := zw_rin (zi_hE hR hd) h1 ((hc r h1 j).mp h3)
  omega
theorem zi_djA {R s j : Nat} {dj : Nat → Int32} (h : zi_dj R dj) (hR : R ≤ 8) (hs : s < R) (hj : j < R) : zi_dj R (upd dj s (dj s ||| ((1 : Int32) <<< (nI j &&& 31)))) := by
  intro a ha b z
  by_cases e : a = s
  · subst e
    rw [pk_us, zb_set _ (by omega), Bool.or_eq_true] at z
    rcases z with z | z
    · exact h a ha b z
    · have e := of_decide_eq_true z
      omega
  · rw [pk_un e] at z
    exact h a ha b z
theorem zi_djR {R s j : Nat} {dj : Nat → Int32} (h : zi_dj R dj) (hR : R ≤ 8) (hj : j < R) : zi_dj R (upd dj s (dj s &&& (((1 : Int32) <<< (nI j &&& 31)) ^^^ (-1)))) := by
  intro a ha b z
  by_cases e : a = s
  · subst e
    rw [pk_us, zb_clr _ (by omega), Bool.and_eq_true] at z
    exact h a ha b z.1
  · rw [pk_un e] at z
    exact h a ha b z
theorem zi_edA {s j : Nat} {dj ed : Nat → Int32} (h : zi_ed dj ed) (hs : s < 8) (hj : j < 8) : zi_ed (upd dj s (dj s ||| ((1 : Int32) <<< (nI j &&& 31)))) (upd ed (8 * s + j) 1) := by
  intro k hk
  by_cases e : k / 8 = s
  · rw [e, pk_us, zb_set _ (by omega), Bool.or_eq_true]
    by_cases e2 : k % 8 = j
    · have e3 : k = 8 * s + j := by omega
      rw [e3, pk_us]
      exact ⟨fun _ => Or.inr (decide_eq_true (by omega)), fun _ => by decide⟩
    · rw [pk_un (by omega), h k hk, e]
      exact ⟨Or.inl, fun z => z.elim (fun z => z) (fun z => absurd (of_decide_eq_true z) e2)⟩
  · rw [pk_un e, pk_un (by omega)]
    exact h k hk
theorem zi_edR {s j : Nat} {dj ed : Nat → Int32} (h : zi_ed dj ed) (hs : s < 8) (hj : j < 8) : zi_ed (upd dj s (dj s &&& (((1 : Int32) <<< (nI j &&& 31)) ^^^ (-1)))) (upd ed (8 * s + j) 0) := by
  intro k hk
  by_cases e : k / 8 = s
  · rw [e, pk_us, zb_clr _ (by omega), Bool.and_eq_true]
    by_cases e2 : k % 8 = j
    · have e3 : k = 8 * s + j := by omega
      rw [e3, pk_us]
      refine ⟨fun z => absurd rfl z, fun z => ?_⟩
      have e4 : (8 * s + j) % 8 = j := by omega
      rw [e4, decide_eq_true rfl] at z
      exact absurd z.2 (by decide)
    · rw [pk_un (by omega), h k hk, e]
      exact ⟨fun z => ⟨z, by rw [decide_eq_false e2]; rfl⟩, fun z => z.1⟩
  · rw [pk_un e, pk_un (by omega)]
    exact h k hk
