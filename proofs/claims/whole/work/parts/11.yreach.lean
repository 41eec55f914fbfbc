section
variable {U R C cn : Nat} {wl : Int32} {ed asg pm rk ra rt rp rn wr wa ef dg se ok : Nat → Int32} {dj cl : Nat → Int32}
theorem zy_176 {post : Int32 → SY → Prop} (hef : ∀ s, s < 256 → ef s = zr_ef cl R s) (h : ∀ x, (∀ b, bt x b = true ↔ ∃ s, s < 256 ∧ ¬ se s = 0 ∧ bt (zr_ef cl R s) b = true) → post x (nI U, nI R, nI C, nI cn, wl, ed, asg, pm, rk, ra, rt, rp, rn, wr, wa, ef, dg, se, ok)) :
    ∀ (f s m : Nat) (x : Int32), s + f = 256 → f < m → (∀ b, bt x b = true ↔ ∃ y, y < s ∧ ¬ se y = 0 ∧ bt (zr_ef cl R y) b = true) → wY_reachableRoles_176 post (nI U) (nI R) (nI C) (nI cn) wl ed asg pm rk ra rt rp rn wr wa ef dg se ok m x (nI s) := by
  intro f
  induction f with
  | zero =>
    intro s m x hs hm hx
    obtain ⟨m, rfl⟩ : ∃ y, m = y + 1 := ⟨m - 1, by omega⟩
    have e : s = 256 := by omega
    subst e
    exact pk_le 256 256 (fun _ => h x hx) (fun z => absurd z (by omega))
  | succ f ih =>
    intro s m x hs hm hx
    obtain ⟨m, rfl⟩ : ∃ y, m = y + 1 := ⟨m - 1, by omega⟩
    refine pk_le 256 s (fun z => absurd z (by omega)) (fun _ => ⟨pk_in s 256 (by omega), ?_⟩)
    rw [nI_clamp (show s < 2 ^ 31 by omega), hef s (by omega)]
    refine br_c (fun z => nm_r (nI_1 s) (ih (s + 1) m x (by omega) (by omega) (fun b => ?_))) (fun z => ⟨pk_in s 256 (by omega), nm_e (nm_r (nI_1 s) (ih (s + 1) m _ (by omega) (by omega) (fun b => ?_)))⟩)
    · rw [hx b]
      constructor
      · intro ⟨y, h1, h2⟩
        exact ⟨y, by omega, h2⟩
      · intro ⟨y, h1, h2, h3⟩
        by_cases e : y = s
        · rw [e] at h2
          exact absurd z h2
        · exact ⟨y, by omega, h2, h3⟩
    · rw [b_or, Bool.or_eq_true, hx b]
      constructor
      · rintro (⟨y, h1, h2⟩ | h2)
        · exact ⟨y, by omega, h2⟩
        · exact ⟨s, by omega, z, h2⟩
      · intro ⟨y, h1, h2, h3⟩
        by_cases e : y = s
        · rw [e] at h3
          exact Or.inr h3
        · exact Or.inl ⟨y, by omega, h2, h3⟩
theorem zy_75 {post : Int32 → SY → Prop} {J : Int32 → (Nat → Int32) → (Nat → Int32) → (Nat → Int32) → (Nat → Int32) → (Nat → Int32) → (Nat → Int32) → (Nat → Int32) → (Nat → Int32) → (Nat → Int32) → (Nat → Int32) → (Nat → Int32) → (Nat → Int32) → (Nat → Int32) → (Nat → Int32) → Prop} {u st pass : Nat} {s0 : Nat → Int32} (H : zi_h R dj cl ed) (hc : cn ≤ 16) (hr : zi_ru cn R ra rt) (hef : ∀ s, s < 256 → ef s = zr_ef cl R s) (hok : ∀ i, i < 16 → (¬ ok i = 0 ↔ (i < cn ∧ ¬ zl_a U R u cl asg ra i = -1)))
    (hend : ∀ (ch : Int32) (se : Nat → Int32), zy_rs (zr_ap cn R cl (zl_a U R u cl asg ra) rk rt rp rn) (zr_go rk rt) st se → zy_rp (zr_ap cn R cl (zl_a U R u cl asg ra) rk rt rp rn) (zr_go rk rt) R s0 se (16 * 2 ^ R) → (ch = 0 → se = s0) → (ch = 0 → ∃ n, wY_reachableRoles_176 post (nI U) (nI R) (nI C) (nI cn) wl ed asg pm rk ra rt rp rn wr wa ef dg se ok n 0 0) ∧ (¬ ch = 0 → J (nI (pass + 1)) ed asg pm rk ra rt rp rn wr wa ef dg se ok)) :
    ∀ (f x m : Nat) (ch : Int32) (se : Nat → Int32), x + f = 16 * 2 ^ R → f < m → zy_rs (zr_ap cn R cl (zl_a U R u cl asg ra) rk rt rp rn) (zr_go rk rt) st se → zy_rp (zr_ap cn R cl (zl_a U R u cl asg ra) rk rt rp rn) (zr_go rk rt) R s0 se x → (ch = 0 → se = s0) → wY_reachableRoles_75 post J (nI (2 ^ R)) (nI pass) (nI U) (nI R) (nI C) (nI cn) wl m ch (nI x) ed asg pm rk ra rt rp rn wr wa ef dg se ok := by
  intro f
  have hR := H.1
  have h8 := zb_p8 hR
  have hg : ∀ s i, s < 2 ^ R → zr_ap cn R cl (zl_a U R u cl asg ra) rk rt rp rn s i → zr_go rk rt s i < 2 ^ R := zr_hg hR hr
  induction f with
  | zero =>
    intro x m ch se hx hm hrs hrp hch
    obtain ⟨m, rfl⟩ : ∃ y, m = y + 1 := ⟨m - 1, by omega⟩
    have e : x = 16 * 2 ^ R := by omega
    rw [e] at hrp
    obtain ⟨e0, e1⟩ := hend ch se hrs hrp hch
    exact pk_le (2 ^ R * 16) x (fun _ => br_c e0 (fun z => nm_r (nI_1 pass) (e1 z))) (fun z => absurd z (by omega)) (hx := zy_m16 _)
  | succ f ih =>
    intro x m ch se hx hm hrs hrp hch
    obtain ⟨m, rfl⟩ : ∃ y, m = y + 1 := ⟨m - 1, by omega⟩
    have ex : 16 * (x / 16) + x % 16 = x := Nat.div_add_mod x 16
    have hs : x / 16 < 2 ^ R := by omega
    have hi : x % 16 < 16 := Nat.mod_lt _ (by omega)
    refine pk_le (2 ^ R * 16) x (fun z => absurd z (by omega)) (fun _ => ?_) (hx := zy_m16 _)
    rw [zy_sh16 (by omega), zy_an16 (by omega)]
    refine nm_e (nm_e ?_)
    rw [← ex] at hrp
    generalize x / 16 = s at hs hrp ex
    generalize x % 16 = i at hi hrp ex
    have skip : (¬ se s = 0 → zr_ap cn R cl (zl_a U R u cl asg ra) rk rt rp rn s i → ¬ se (zr_go rk rt s i) = 0) → wY_reachableRoles_75 post J (nI (2 ^ R)) (nI pass) (nI U) (nI R) (nI C) (nI cn) wl m ch (nI (x + 1)) ed asg pm rk ra rt rp rn wr wa ef dg se ok := by
      intro hn
      have q := zy_rskip hrp hi hn
      rw [ex] at q
      exact ih (x + 1) m ch se (by omega) (by omega) hrs q hch
    refine ⟨pk_in s 256 (by omega), ?_⟩
    rw [nI_clamp (show s < 2 ^ 31 by omega)]
    refine br_c (fun z => nm_r (nI_1 x) (skip (fun y => absurd z y))) (fun z => ?_)
    refine zy_apl hR hc hr hef hok hs hi (fun hap => br_f (by decide) ?_) (fun hn => br_t rfl (nm_r (nI_1 x) (skip (fun _ y => absurd y hn))))
    obtain ⟨_, t, ht, et⟩ := hr i hap.1
    have hgo := hg _ _ hs hap
    refine zy_app hR hs hi ht et ⟨pk_in (zr_go rk rt s i) 256 (by omega), ?_⟩
    rw [nI_clamp (show zr_go rk rt s i < 2 ^ 31 by omega)]
    refine br_c (fun w => ?_) (fun w => nm_r (nI_1 x) (skip (fun _ _ => w)))
    refine zy_app hR hs hi ht et ⟨pk_in (zr_go rk rt s i) 256 (by omega), ?_⟩
    rw [nI_clamp (show zr_go rk rt s i < 2 ^ 31 by omega), zy_b1]
    refine nm_e (nm_r (nI_1 x) ?_)
    have q := zy_rset hrp hi
    rw [ex] at q
    exact ih (x + 1) m 1 _ (by omega) (by omega) (zy_rsS hrs (by omega) z hap) q (fun w => absurd w (by decide))
theorem zy_62 {post : Int32 → SY → Prop} {u st : Nat} (H : zi_h R dj cl ed) (hc : cn ≤ 16) (hr : zi_ru cn R ra rt) (hef : ∀ s, s < 256 → ef s = zr_ef cl R s) (hok : ∀ i, i < 16 → (¬ ok i = 0 ↔ (i < cn ∧ ¬ zl_a U R u cl asg ra i = -1))) (hst : st < 2 ^ R)
    (h : ∀ (se : Nat → Int32) (x : Int32), zy_rs (zr_ap cn R cl (zl_a U R u cl asg ra) rk rt rp rn) (zr_go rk rt) st se → zy_rc (zr_ap cn R cl (zl_a U R u cl asg ra) rk rt rp rn) (zr_go rk rt) st se 257 → (∀ b, bt x b = true ↔ ∃ s, s < 256 ∧ ¬ se s = 0 ∧ bt (zr_ef cl R s) b = true) → post x (nI U, nI R, nI C, nI cn, wl, ed, asg, pm, rk, ra, rt, rp, rn, wr, wa, ef, dg, se, ok)) :
    ∀ (f pass m : Nat) (se : Nat → Int32), pass + f = 257 → f < m → zy_rs (zr_ap cn R cl (zl_a U R u cl asg ra) rk rt rp rn) (zr_go rk rt) st se → zy_rc (zr_ap cn R cl (zl_a U R u cl asg ra) rk rt rp rn) (zr_go rk rt) st se pass → wY_reachableRoles_62 post (nI (2 ^ R)) (nI U) (nI R) (nI C) (nI cn) wl m (nI pass) ed asg pm rk ra rt rp rn wr wa ef dg se ok := by
  intro f
  have hR := H.1
  have h8 := zb_p8 hR
  have hA : ∀ s i, zr_ap cn R cl (zl_a U R u cl asg ra) rk rt rp rn s i → i < 16 := zr_hA hc
  have hg : ∀ s i, s < 2 ^ R → zr_ap cn R cl (zl_a U R u cl asg ra) rk rt rp rn s i → zr_go rk rt s i < 2 ^ R := zr_hg hR hr
  have F : ∀ se : Nat → Int32, zy_rs (zr_ap cn R cl (zl_a U R u cl asg ra) rk rt rp rn) (zr_go rk rt) st se → zy_rc (zr_ap cn R cl (zl_a U R u cl asg ra) rk rt rp rn) (zr_go rk rt) st se 257 → ∃ n, wY_reachableRoles_176 post (nI U) (nI R) (nI C) (nI cn) wl ed asg pm rk ra rt rp rn wr wa ef dg se ok n 0 0 := by
    intro se a b
    exact ⟨257, zy_176 hef (fun x hx => h se x a b hx) 256 0 257 0 (by omega) (by omega) (fun b => by rw [b_0]; exact ⟨fun z => absurd z (by decide), fun ⟨y, hy, _⟩ => absurd hy (Nat.not_lt_zero y)⟩)⟩
  induction f with
  | zero =>
    intro pass m se hp hm hrs hrc
    obtain ⟨m, rfl⟩ : ∃ y, m = y + 1 := ⟨m - 1, by omega⟩
    have e : pass = 257 := by omega
    subst e
    exact pk_le 257 257 (fun _ => F se hrs hrc) (fun z => absurd z (by omega))
  | succ f ih =>
    intro pass m se hp hm hrs hrc
    obtain ⟨m, rfl⟩ : ∃ y, m = y + 1 := ⟨m - 1, by omega⟩
    refine pk_le 257 pass (fun z => absurd z (by omega)) (fun _ => ⟨16 * 2 ^ R + 1, ?_⟩)
    refine zy_75 (s0 := se) (st := st) (u := u) H hc hr hef hok (fun ch se' a1 a2 a3 => ⟨fun z => ?_, fun z => ?_⟩) (16 * 2 ^ R) 0 _ 0 se (by omega) (by omega) hrs (zy_r0 se) (fun _ => rfl)
    · exact F se' a1 (zy_rfix hA hg hst a2 (a3 z) (fun q t hq hl => hrc q t hq (by omega)))
    · exact ih (pass + 1) m se' (by omega) (by omega) a1 (zy_rend hA hg hst a2 hrc)
theorem zy_rch {post : Int32 → SY → Prop} {u st : Nat} (H : zi_h R dj cl ed) (hU : U ≤ 8) (hc : cn ≤ 16) (hr : zi_ru cn R ra rt) (hu : u < U) (hst : st < 2 ^ R) (eu : asg u = nI st)
    (h : ∀ (ef se ok : Nat → Int32) (x : Int32), zy_rs (zr_ap cn R cl (zl_a U R u cl asg ra) rk rt rp rn) (zr_go rk rt) st se → zy_rc (zr_ap cn R cl (zl_a U R u cl asg ra) rk rt rp rn) (zr_go rk rt) st se 257 → (∀ b, bt x b = true ↔ ∃ s, s < 256 ∧ ¬ se s = 0 ∧ bt (zr_ef cl R s) b = true) → post x (nI U, nI R, nI C, nI cn, wl, ed, asg, pm, rk, ra, rt, rp, rn, wr, wa, ef, dg, se, ok)) : wpY_reachableRoles post (nI U, nI R, nI C, nI cn, wl, ed, asg, pm, rk, ra, rt, rp, rn, wr, wa, ef, dg, se, ok) (nI u) := by
  have hR := H.1
  have h8 := zb_p8 hR
  unfold wpY_reachableRoles
  refine zy_userY hU hu (br_t rfl (zy_prep H hU hc hr hu (fun ef ok hef hok => ?_)))
  refine nm_r (zy_full R (by omega)) ⟨257, ?_⟩
  have L : ∀ (f s m : Nat) (se : Nat → Int32), s + f = 256 → f < m → (∀ x, x < s → se x = 0) → wY_reachableRoles_24 post (nI u) (nI (2 ^ R)) (nI U) (nI R) (nI C) (nI cn) wl m (nI s) ed asg pm rk ra rt rp rn wr wa ef dg se ok := by
    intro f
    induction f with
    | zero =>
      intro s m se hs hm hse
      obtain ⟨m, rfl⟩ : ∃ y, m = y + 1 := ⟨m - 1, by omega⟩
      have e : s = 256 := by omega
      subst e
      refine pk_le 256 256 (fun _ => ⟨pk_in u 8 (by omega), ?_⟩) (fun z => absurd z (by omega))
      rw [nI_clamp (show u < 2 ^ 31 by omega), eu, zb_255 (show st < 256 by omega), nI_clamp (show st < 2 ^ 31 by omega), zy_b1]
      refine ⟨pk_in st 256 (by omega), nm_e ⟨258, ?_⟩⟩
      refine zy_62 (u := u) (st := st) H hc hr hef hok hst (fun se x a b c => h ef se ok x a b c) 257 0 258 _ (by omega) (by omega) ?_ ?_
      · intro x hx hz
        by_cases e : x = st
        · exact ⟨[], e.symm⟩
        · rw [pk_un e] at hz
          exact absurd (hse x hx) hz
      · intro q t hq hl
        have e : q = [] := List.eq_nil_of_length_eq_zero (by omega)
        rw [e] at hq
        have e2 : st = t := hq
        rw [← e2, pk_us]
        decide
    | succ f ih =>
      intro s m se hs hm hse
      obtain ⟨m, rfl⟩ : ∃ y, m = y + 1 := ⟨m - 1, by omega⟩
      refine pk_le 256 s (fun z => absurd z (by omega)) (fun _ => ⟨pk_in s 256 (by omega), ?_⟩)
      rw [nI_clamp (show s < 2 ^ 31 by omega), zy_b0]
      refine nm_e (nm_r (nI_1 s) (ih (s + 1) m _ (by omega) (by omega) (fun x hx => ?_)))
      by_cases e : x = s
      · rw [e, pk_us]
      · rw [pk_un e]
        exact hse x (by omega)
  exact L 256 0 257 se (by omega) (by omega) (fun x hx => absurd hx (Nat.not_lt_zero x))
end
