def zl_a (U R u : Nat) (cl asg ra : Nat → Int32) (i : Nat) : Int32 := zl_f (fun v => !decide (v = u) && bt (zx_ex cl (asg v) R) (ra i).toNatClampNeg) U 0
def zi_ru (cn R : Nat) (ra rt : Nat → Int32) : Prop := ∀ i, i < cn → (∃ a, a < R ∧ ra i = nI a) ∧ ∃ t, t < R ∧ rt i = nI t
theorem zl_in (g : Nat → Bool) : ∀ d j : Nat, zl_f g d j = -1 ∨ ∃ v, v < j + d ∧ g v = true ∧ zl_f g d j = nI v := by
  intro d
  induction d with
  | zero => intro j; exact Or.inl rfl
  | succ d ih =>
    intro j
    by_cases h : g j = true
    · exact Or.inr ⟨j, by omega, h, if_pos h⟩
    · have e : zl_f g (d + 1) j = zl_f g d (j + 1) := if_neg h
      rw [e]
      rcases ih (j + 1) with z | ⟨v, h1, h2, h3⟩
      · exact Or.inl z
      · exact Or.inr ⟨v, by omega, h2, h3⟩
section
variable {U R C cn : Nat} {wl fc : Int32} {dj cl pm asg rk ra rt rp rn wr wa la ds pv ar fs : Nat → Int32}
theorem zx_least {post : Int32 → Prop} {u i a : Nat} (hR : R ≤ 8) (hU : U ≤ 8) (hu : u < U) (hi : i < 16) (ha : a < 32) (e : ra i = nI a) (h : post (zl_a U R u cl asg ra i)) : wpX_leastAdminFor post (nI U, nI R, nI C, nI cn, wl, fc, dj, cl, pm, asg, rk, ra, rt, rp, rn, wr, wa, la, ds, pv, ar, fs) (nI i) (nI u) := by
  have ea : (ra i).toNatClampNeg = a := by rw [e, nI_clamp (by omega)]
  unfold zl_a at h
  rw [ea] at h
  have H : ∀ d v n : Nat, v + d = U → d < n → post (zl_f (fun v => !decide (v = u) && bt (zx_ex cl (asg v) R) a) d v) → wX_leastAdminFor_2 post (nI i) (nI u) (nI U) (nI R) (nI C) (nI cn) wl fc dj cl pm asg rk ra rt rp rn wr wa la ds pv ar fs n (nI v) := by
    intro d
    induction d with
    | zero =>
      intro v n hv hn hp
      obtain ⟨n, rfl⟩ : ∃ m, n = m + 1 := ⟨n - 1, by omega⟩
      have e : v = U := by omega
      subst e
      exact pk_le v v (fun _ => hp) (fun z => absurd z (by omega))
    | succ d ih =>
      intro v n hv hn hp
      obtain ⟨n, rfl⟩ : ∃ m, n = m + 1 := ⟨n - 1, by omega⟩
      have ih2 : ((fun v => !decide (v = u) && bt (zx_ex cl (asg v) R) a) v = false) → wX_leastAdminFor_2 post (nI i) (nI u) (nI U) (nI R) (nI C) (nI cn) wl fc dj cl pm asg rk ra rt rp rn wr wa la ds pv ar fs n (nI (v + 1)) := by
        intro hg
        refine ih (v + 1) n (by omega) (by omega) ?_
        have e2 : zl_f (fun v => !decide (v = u) && bt (zx_ex cl (asg v) R) a) (d + 1) v = zl_f (fun v => !decide (v = u) && bt (zx_ex cl (asg v) R) a) d (v + 1) := if_neg (by rw [hg]; decide)
        rw [e2] at hp
        exact hp
      refine pk_le U v (fun z => absurd z (by omega)) (fun _ => pk_eq v u (fun z => ?_) (fun z => ?_))
      · refine nm_r (nI_1 v) (ih2 ?_)
        dsimp only
        rw [decide_eq_true z]
        rfl
      · refine zx_may hR (by omega) hi ha e (zb_br _ (fun hb => nm_r (nI_1 v) (ih2 ?_)) (fun hb => ?_))
        · dsimp only
          rw [hb, Bool.and_false]
        · have e2 : zl_f (fun v => !decide (v = u) && bt (zx_ex cl (asg v) R) a) (d + 1) v = nI v := if_pos (by dsimp only; rw [hb, decide_eq_false z]; rfl)
          rw [e2] at hp
          exact hp
  exact ⟨U + 1, H U 0 (U + 1) (by omega) (by omega) h⟩
theorem zx_note {post : St2 → Prop} {s i t n : Nat} (hs : s < 256) (ht : t < 256) (h1 : ¬ ds t = -1 → post (nI U, nI R, nI C, nI cn, wl, nI n, dj, cl, pm, asg, rk, ra, rt, rp, rn, wr, wa, la, ds, pv, ar, fs)) (h2 : ds t = -1 → n < 256 ∧ post (nI U, nI R, nI C, nI cn, wl, nI (n + 1), dj, cl, pm, asg, rk, ra, rt, rp, rn, wr, wa, la, upd ds t (ds s + 1), upd pv t (nI s), upd ar t (nI i), upd fs n (nI t))) : wpX_noteArrival post (nI U, nI R, nI C, nI cn, wl, nI n, dj, cl, pm, asg, rk, ra, rt, rp, rn, wr, wa, la, ds, pv, ar, fs) (nI s) (nI i) (nI t) := by
  refine ⟨pk_in t 256 ht, ?_⟩
  rw [nI_clamp (show t < 2 ^ 31 by omega), nI_clamp (show s < 2 ^ 31 by omega)]
  refine br_c (fun z => ?_) (fun z => h1 z)
  obtain ⟨hn, h2⟩ := h2 z
  rw [nI_clamp (show n < 2 ^ 31 by omega)]
  exact ⟨pk_in s 256 hs, pk_in t 256 ht, nm_e ⟨pk_in t 256 ht, nm_e ⟨pk_in t 256 ht, nm_e ⟨pk_in n 256 hn, nm_e (nm_r (nI_1 n) h2)⟩⟩⟩⟩
theorem zx_sf {post : St2 → Prop} {l : Nat → Int32} {st p s : Nat} (hR : R ≤ 8) (hc : cn ≤ 16) (hr : zi_ru cn R ra rt) (hl : ∀ i, i < cn → la i = l i)
    (hp : ∀ (ds pv ar fs : Nat → Int32) (n : Nat) (Q : Nat → Nat) (P : Nat → List Nat), Q p = s → zs_inv (zr_ap cn R cl l rk rt rp rn) (zr_go rk rt) st R ds pv ar fs n p cn Q P → post (nI U, nI R, nI C, nI cn, wl, nI n, dj, cl, pm, asg, rk, ra, rt, rp, rn, wr, wa, la, ds, pv, ar, fs)) :
    ∀ (d i m : Nat) (ds pv ar fs : Nat → Int32) (n : Nat) (Q : Nat → Nat) (P : Nat → List Nat), i + d = cn → d < m → Q p = s → zs_inv (zr_ap cn R cl l rk rt rp rn) (zr_go rk rt) st R ds pv ar fs n p i Q P → wX_searchFrom_8 post (nI s) (zr_ef cl R s) m (nI i) (nI U) (nI R) (nI C) (nI cn) wl (nI n) dj cl pm asg rk ra rt rp rn wr wa la ds pv ar fs := by
  intro d
  have h8 := zb_p8 hR
  induction d with
  | zero =>
    intro i m ds pv ar fs n Q P hi hm hs hv
    obtain ⟨m, rfl⟩ : ∃ k, m = k + 1 := ⟨m - 1, by omega⟩
    have e : i = cn := by omega
    subst e
    exact pk_le i i (fun _ => hp ds pv ar fs n Q P hs hv) (fun z => absurd z (by omega))
  | succ d ih =>
    intro i m ds pv ar fs n Q P hi hm hs hv
    obtain ⟨m, rfl⟩ : ∃ k, m = k + 1 := ⟨m - 1, by omega⟩
    have hs2 : s < 2 ^ R := by
      have := (hv.2.2.2.2.2.1 p hv.1).1
      rw [hs] at this
      exact this
    obtain ⟨_, t, ht, et⟩ := hr i (by omega)
    have ett : (rt i).toNatClampNeg = t := by rw [et, nI_clamp (by omega)]
    have hgo := zr_goE (rk := rk) hR ht et hs2
    have skip : (zr_ap cn R cl l rk rt rp rn s i → ∃ k, k < n ∧ Q k = zr_go rk rt s i) → wX_searchFrom_8 post (nI s) (zr_ef cl R s) m (nI (i + 1)) (nI U) (nI R) (nI C) (nI cn) wl (nI n) dj cl pm asg rk ra rt rp rn wr wa la ds pv ar fs := by
      intro hx
      exact ih (i + 1) m ds pv ar fs n Q P (by omega) (by omega) hs (zs_skip hv (by rw [hs]; exact hx))
    refine pk_le cn i (fun z => absurd z (by omega)) (fun _ => ⟨pk_in i 16 (by omega), ?_⟩)
    rw [nI_clamp (show i < 2 ^ 31 by omega), hl i (by omega)]
    refine br_c (fun z => ?_) (fun z => ?_)
    · unfold wX_searchFrom_39 wX_searchFrom_40
      exact br_t rfl (nm_r (nI_1 i) (skip (fun ha => absurd z ha.2.1)))
    · refine zx_meets (by omega) (zb_br _ (fun hb => ?_) (fun hb => ?_))
      · unfold wX_searchFrom_39 wX_searchFrom_40
        exact br_t rfl (nm_r (nI_1 i) (skip (fun ha => absurd (And.intro ha.2.2.1 ha.2.2.2.1) (of_decide_eq_false hb))))
      · unfold wX_searchFrom_40
        refine br_f (by decide) (zx_makes (by omega) (by omega) et (zb_br _ (fun hb2 => ?_) (fun hb2 => ?_)))
        · refine nm_r (nI_1 i) (skip (fun ha => absurd ?_ (of_decide_eq_false hb2)))
          have := ha.2.2.2.2
          rw [ett] at this
          exact this
        · have hap : zr_ap cn R cl l rk rt rp rn s i := ⟨by omega, z, (of_decide_eq_true hb).1, (of_decide_eq_true hb).2, by rw [ett]; exact of_decide_eq_true hb2⟩
          refine zx_res (by omega) ?_
          rw [← hgo.1]
          have hg := hgo.2
          refine zx_note (by omega) (by omega) (fun hd => ?_) (fun hd => ⟨zs_room hv (by omega) hd, ?_⟩)
          · refine nm_r (nI_1 i) (skip (fun _ => ?_))
            rcases hv.2.2.2.2.2.2.1 (zr_go rk rt s i) (by omega) with y | y
            · exact absurd y hd
            · exact y
          · refine nm_r (nI_1 i) ?_
            have hn := zs_new hv h8 (by rw [hs]; exact hap) (by rw [hs]; exact hg) (by rw [hs]; exact hd)
            rw [hs] at hn
            obtain ⟨Q', P', hq, hv'⟩ := hn
            exact ih (i + 1) m _ _ _ _ (n + 1) Q' P' (by omega) (by omega) hq hv'
theorem zx_s78 {post : St2 → Prop} {l : Nat → Int32} {st : Nat} (hR : R ≤ 8) (hc : cn ≤ 16) (hr : zi_ru cn R ra rt) (hl : ∀ i, i < cn → la i = l i)
    (hp : ∀ (ds pv ar fs : Nat → Int32) (n : Nat) (Q : Nat → Nat) (P : Nat → List Nat), zs_fin (zr_ap cn R cl l rk rt rp rn) (zr_go rk rt) st R ds pv ar fs n Q P → post (nI U, nI R, nI C, nI cn, wl, nI n, dj, cl, pm, asg, rk, ra, rt, rp, rn, wr, wa, la, ds, pv, ar, fs)) :
    ∀ (d p m : Nat) (ds pv ar fs : Nat → Int32) (n : Nat) (Q : Nat → Nat) (P : Nat → List Nat), p + d = 256 → d < m → (zs_inv (zr_ap cn R cl l rk rt rp rn) (zr_go rk rt) st R ds pv ar fs n p 0 Q P ∨ (n ≤ p ∧ zs_fin (zr_ap cn R cl l rk rt rp rn) (zr_go rk rt) st R ds pv ar fs n Q P)) → wX_search_78 post m (nI p) (nI U) (nI R) (nI C) (nI cn) wl (nI n) dj cl pm asg rk ra rt rp rn wr wa la ds pv ar fs := by
  intro d
  have hA : ∀ s i, zr_ap cn R cl l rk rt rp rn s i → i < cn := fun s i h => h.1
  induction d with
  | zero =>
    intro p m ds pv ar fs n Q P hd hm hv
    obtain ⟨m, rfl⟩ : ∃ k, m = k + 1 := ⟨m - 1, by omega⟩
    have e : p = 256 := by omega
    subst e
    refine pk_le 256 256 (fun _ => ?_) (fun z => absurd z (by omega))
    rcases hv with hv | ⟨_, hv⟩
    · have h1 := hv.1
      have h2 := hv.2.1
      omega
    · exact hp ds pv ar fs n Q P hv
  | succ d ih =>
    intro p m ds pv ar fs n Q P hd hm hv
    obtain ⟨m, rfl⟩ : ∃ k, m = k + 1 := ⟨m - 1, by omega⟩
    have hn : n ≤ 256 := by
      rcases hv with hv | ⟨_, hv⟩
      · exact hv.2.1
      · exact hv.2.1
    refine pk_le 256 p (fun z => absurd z (by omega)) (fun _ => pk_le n p (fun z => ?_) (fun z => ⟨pk_in p 256 (by omega), ?_⟩))
    · rcases hv with hv | ⟨_, hv⟩
      · have h1 := hv.1
        omega
      · exact hp ds pv ar fs n Q P hv
    · rcases hv with hv | ⟨h1, _⟩
      · rw [nI_clamp (show p < 2 ^ 31 by omega), (hv.2.2.2.2.2.1 p hv.1).2.1]
        unfold wpX_searchFrom
        refine zx_expand hR ⟨cn + 1, ?_⟩
        refine zx_sf (l := l) (st := st) (p := p) (s := Q p) hR hc hr hl (fun ds pv ar fs n Q' P' hq hv' => ?_) cn 0 (cn + 1) ds pv ar fs n Q P (by omega) (by omega) rfl hv
        refine nm_r (nI_1 p) (ih (p + 1) m ds pv ar fs n Q' P' (by omega) (by omega) ?_)
        by_cases hx : p + 1 < n
        · exact Or.inl (zs_next hv' hc hA hx)
        · exact Or.inr ⟨by omega, zs_end hv' hA hx⟩
      · omega
theorem zx_s30 {post : St2 → Prop} {l : Nat → Int32} {st u : Nat} (hR : R ≤ 8) (hc : cn ≤ 16) (hr : zi_ru cn R ra rt) (hl : ∀ i, i < cn → la i = l i) (hu : u < 8) (hst : st < 2 ^ R) (eu : asg u = nI st)
    (hp : ∀ (ds pv ar fs : Nat → Int32) (n : Nat) (Q : Nat → Nat) (P : Nat → List Nat), zs_fin (zr_ap cn R cl l rk rt rp rn) (zr_go rk rt) st R ds pv ar fs n Q P → post (nI U, nI R, nI C, nI cn, wl, nI n, dj, cl, pm, asg, rk, ra, rt, rp, rn, wr, wa, la, ds, pv, ar, fs)) :
    ∀ (d s m : Nat) (ds : Nat → Int32), s + d = 256 → d < m → (∀ x, x < s → ds x = -1) → wX_search_30 post (nI u) (nI U) (nI R) (nI C) (nI cn) wl fc m (nI s) dj cl pm asg rk ra rt rp rn wr wa la ds pv ar fs := by
  intro d
  have h8 := zb_p8 hR
  induction d with
  | zero =>
    intro s m ds hd hm hv
    obtain ⟨m, rfl⟩ : ∃ k, m = k + 1 := ⟨m - 1, by omega⟩
    have e : s = 256 := by omega
    subst e
    refine pk_le 256 256 (fun _ => ⟨pk_in u 8 hu, ?_⟩) (fun z => absurd z (by omega))
    rw [nI_clamp (show u < 2 ^ 31 by omega), eu]
    refine nm_e ⟨pk_in st 256 (by omega), ?_⟩
    rw [nI_clamp (show st < 2 ^ 31 by omega)]
    refine nm_e (nm_e ⟨257, ?_⟩)
    exact zx_s78 (l := l) (st := st) hR hc hr hl hp 256 0 257 _ pv ar _ 1 _ _ (by omega) (by omega) (Or.inl (zs_0 hst h8 (fun x hx => hv x hx)))
  | succ d ih =>
    intro s m ds hd hm hv
    obtain ⟨m, rfl⟩ : ∃ k, m = k + 1 := ⟨m - 1, by omega⟩
    refine pk_le 256 s (fun z => absurd z (by omega)) (fun _ => ⟨pk_in s 256 (by omega), ?_⟩)
    rw [nI_clamp (show s < 2 ^ 31 by omega)]
    refine nm_e (nm_r (nI_1 s) (ih (s + 1) m _ (by omega) (by omega) (fun x hx => ?_)))
    by_cases e : x = s
    · rw [e, pk_us]
    · rw [pk_un e]
      exact hv x (by omega)
theorem zx_search {post : St2 → Prop} {st u : Nat} (hR : R ≤ 8) (hU : U ≤ 8) (hc : cn ≤ 16) (hr : zi_ru cn R ra rt) (hu : u < U) (hst : st < 2 ^ R) (eu : asg u = nI st)
    (hp : ∀ (la ds pv ar fs : Nat → Int32) (n : Nat) (Q : Nat → Nat) (P : Nat → List Nat), (∀ i, i < cn → la i = zl_a U R u cl asg ra i) → zs_fin (zr_ap cn R cl (zl_a U R u cl asg ra) rk rt rp rn) (zr_go rk rt) st R ds pv ar fs n Q P → post (nI U, nI R, nI C, nI cn, wl, nI n, dj, cl, pm, asg, rk, ra, rt, rp, rn, wr, wa, la, ds, pv, ar, fs)) : wpX_search post (nI U, nI R, nI C, nI cn, wl, fc, dj, cl, pm, asg, rk, ra, rt, rp, rn, wr, wa, la, ds, pv, ar, fs) (nI u) := by
  have H : ∀ (d i m : Nat) (la : Nat → Int32), i + d = cn → d < m → (∀ x, x < i → la x = zl_a U R u cl asg ra x) → wX_search_2 post (nI u) (nI U) (nI R) (nI C) (nI cn) wl fc m (nI i) dj cl pm asg rk ra rt rp rn wr wa la ds pv ar fs := by
    intro d
    induction d with
    | zero =>
      intro i m la hd hm hv
      obtain ⟨m, rfl⟩ : ∃ k, m = k + 1 := ⟨m - 1, by omega⟩
      have e : i = cn := by omega
      subst e
      refine pk_le i i (fun _ => ⟨257, ?_⟩) (fun z => absurd z (by omega))
      exact zx_s30 (l := zl_a U R u cl asg ra) hR hc hr hv (by omega) hst eu (fun ds pv ar fs n Q P h => hp la ds pv ar fs n Q P hv h) 256 0 257 ds (by omega) (by omega) (fun x hx => absurd hx (Nat.not_lt_zero x))
    | succ d ih =>
      intro i m la hd hm hv
      obtain ⟨m, rfl⟩ : ∃ k, m = k + 1 := ⟨m - 1, by omega⟩
      obtain ⟨⟨a, ha, ea⟩, _⟩ := hr i (by omega)
      refine pk_le cn i (fun z => absurd z (by omega)) (fun _ => zx_least hR hU hu (by omega) (by omega) ea ⟨pk_in i 16 (by omega), ?_⟩)
      rw [nI_clamp (show i < 2 ^ 31 by omega)]
      refine nm_e (nm_r (nI_1 i) (ih (i + 1) m _ (by omega) (by omega) (fun x hx => ?_)))
      by_cases e : x = i
      · rw [e, pk_us]
      · rw [pk_un e]
        exact hv x (by omega)
  exact ⟨cn + 1, H cn 0 (cn + 1) la (by omega) (by omega) (fun x hx => absurd hx (Nat.not_lt_zero x))⟩
theorem zx_first {post : Int32 → Prop} {g n : Nat} {Q : Nat → Nat} (hR : R ≤ 8) (hg : g < 32) (hn : n ≤ 256) (hf : ∀ j, j < n → fs j = nI (Q j))
    (h1 : ∀ j, j < n → bt (zr_ef cl R (Q j)) g = true → (∀ i, i < j → ¬ bt (zr_ef cl R (Q i)) g = true) → post (nI (Q j))) (h2 : (∀ i, i < n → ¬ bt (zr_ef cl R (Q i)) g = true) → post (-1)) : wpX_firstFoundWith post (nI U, nI R, nI C, nI cn, wl, nI n, dj, cl, pm, asg, rk, ra, rt, rp, rn, wr, wa, la, ds, pv, ar, fs) (nI g) := by
  have H : ∀ d j m : Nat, j + d = n → d < m → (∀ i, i < j → ¬ bt (zr_ef cl R (Q i)) g = true) → wX_firstFoundWith_2 post (nI g) (nI U) (nI R) (nI C) (nI cn) wl (nI n) dj cl pm asg rk ra rt rp rn wr wa la ds pv ar fs m (nI j) := by
    intro d
    induction d with
    | zero =>
      intro j m hj hm hv
      obtain ⟨m, rfl⟩ : ∃ k, m = k + 1 := ⟨m - 1, by omega⟩
      have e : j = n := by omega
      subst e
      exact pk_le j j (fun _ => h2 hv) (fun z => absurd z (by omega))
    | succ d ih =>
      intro j m hj hm hv
      obtain ⟨m, rfl⟩ : ∃ k, m = k + 1 := ⟨m - 1, by omega⟩
      refine pk_le n j (fun z => absurd z (by omega)) (fun _ => ⟨pk_in j 256 (by omega), ?_⟩)
      rw [nI_clamp (show j < 2 ^ 31 by omega), hf j (by omega)]
      refine zx_expand hR (zx_con hg (zb_br _ (fun hb => nm_r (nI_1 j) (ih (j + 1) m (by omega) (by omega) (fun i hi => ?_))) (fun hb => ⟨pk_in j 256 (by omega), h1 j (by omega) hb hv⟩)))
      by_cases e : i = j
      · rw [e]
        intro y
        have hb' : bt (zr_ef cl R (Q j)) g = false := hb
        rw [hb'] at y
        exact absurd y (by decide)
      · exact hv i (by omega)
  exact ⟨n + 1, H n 0 (n + 1) (by omega) (by omega) (fun x hx => absurd hx (Nat.not_lt_zero x))⟩
theorem zx_store {post : St2 → Prop} {ap : Nat → Nat → Prop} {go : Nat → Nat → Nat} {l : Nat → Int32} {st n : Nat} {Q : Nat → Nat} {P : Nat → List Nat} (hR : R ≤ 8) (hc : cn ≤ 16) (hA : ∀ s i, ap s i → i < cn) (hl : ∀ i, i < cn → la i = l i) (hv : zs_fin ap go st R ds pv ar fs n Q P) :
    ∀ (len j m : Nat) (x : Int32) (wr wa : Nat → Int32), j < n → (P (Q j)).length = len → len < m → x = nI len - 1 → post (nI U, nI R, nI C, nI cn, wl, fc, dj, cl, pm, asg, rk, ra, rt, rp, rn, zs_put nI wr (P (Q j)), zs_put l wa (P (Q j)), la, ds, pv, ar, fs) → wX_storeWitness_19 post (nI U) (nI R) (nI C) (nI cn) wl fc m (nI (Q j)) x dj cl pm asg rk ra rt rp rn wr wa la ds pv ar fs := by
  intro len
  have h8 := zb_p8 hR
  obtain ⟨he, hn, hq, hs⟩ := hv
  induction len with
  | zero =>
    intro j m x wr wa hj hlen hm hx hp
    obtain ⟨m, rfl⟩ : ∃ k, m = k + 1 := ⟨m - 1, by omega⟩
    have e : P (Q j) = [] := List.eq_nil_of_length_eq_zero hlen
    rw [e, zs_put0, zs_put0] at hp
    subst hx
    exact br_t (by decide) hp
  | succ len ih =>
    intro j m x wr wa hj hlen hm hx hp
    obtain ⟨m, rfl⟩ : ∃ k, m = k + 1 := ⟨m - 1, by omega⟩
    rw [nI_pred] at hx
    subst hx
    have hjq := hq j hj
    rcases hs j hj with e | ⟨k, r, hk, e1, e2, e3, e4⟩
    · subst e
      have e5 : P (Q 0) = [] := by rw [he.2.1]; exact he.2.2.1
      rw [e5] at hlen
      exact absurd hlen (by simp)
    · have hr := hA _ _ e4
      have hlk : (P (Q k)).length = len := by
        rw [e3, List.length_append, List.length_singleton] at hlen
        omega
      refine br_f (nI_pos (by omega)) ⟨pk_in (Q j) 256 (by omega), ?_⟩
      rw [nI_clamp (show Q j < 2 ^ 31 by omega), nI_clamp (show len < 2 ^ 31 by omega), e1, e2]
      refine nm_e ⟨pk_in len 256 (by omega), nm_e ⟨pk_in r 16 (by omega), pk_in len 256 (by omega), ?_⟩⟩
      rw [nI_clamp (show r < 2 ^ 31 by omega), hl r hr]
      refine nm_e ⟨pk_in (Q j) 256 (by omega), nm_e (nm_e ?_)⟩
      refine ih k m _ _ _ (by omega) hlk (by omega) (by rw [Int32.sub_eq_add_neg]) ?_
      rw [e3, ← zs_putS nI wr, ← zs_putS l wa, hlk] at hp
      exact hp
end
