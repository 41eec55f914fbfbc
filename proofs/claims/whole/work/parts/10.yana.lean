theorem zr_hg {cn R : Nat} {cl l rk ra rt rp rn : Nat → Int32} (hR : R ≤ 8) (hr : zi_ru cn R ra rt) : ∀ s i, s < 2 ^ R → zr_ap cn R cl l rk rt rp rn s i → zr_go rk rt s i < 2 ^ R := by
  intro s i hs ha
  obtain ⟨_, t, ht, et⟩ := hr i ha.1
  exact (zr_goE hR ht et hs).2
theorem zr_hA {cn R : Nat} {cl l rk rt rp rn : Nat → Int32} (hc : cn ≤ 16) : ∀ s i, zr_ap cn R cl l rk rt rp rn s i → i < 16 := fun s i h => Nat.lt_of_lt_of_le h.1 hc
section
variable {U R C cn : Nat} {wl : Int32} {ed asg pm rk ra rt rp rn wr wa ef dg se ok : Nat → Int32} {dj cl : Nat → Int32}
theorem zy_260 {post : Int32 → SY → Prop} {J : Int32 → Int32 → (Nat → Int32) → (Nat → Int32) → (Nat → Int32) → (Nat → Int32) → (Nat → Int32) → (Nat → Int32) → (Nat → Int32) → (Nat → Int32) → (Nat → Int32) → (Nat → Int32) → (Nat → Int32) → (Nat → Int32) → (Nat → Int32) → (Nat → Int32) → Prop} {T : Nat → Prop} {u s len k i0 : Nat} {d : Nat → Nat} {p : List Nat} (H : zi_h R dj cl ed) (hU : U ≤ 8) (hc : cn ≤ 16) (hr : zi_ru cn R ra rt) (hu : u < U) (hef : ∀ s, s < 256 → ef s = zr_ef cl R s) (hok : ∀ i, i < 16 → (¬ ok i = 0 ↔ (i < cn ∧ ¬ zl_a U R u cl asg ra i = -1)))
    (hdg : ∀ x, x < 2 ^ R → dg x = nI (d x)) (hsn : zy_snd (zr_ap cn R cl (zl_a U R u cl asg ra) rk rt rp rn) (zr_go rk rt) T R d) (hcm : zy_cmp (zr_ap cn R cl (zl_a U R u cl asg ra) rk rt rp rn) (zr_go rk rt) T R d 257)
    (hv : zp_min (zr_ap cn R cl (zl_a U R u cl asg ra) rk rt rp rn) (zr_go rk rt) T s (i0 :: p)) (hs : s < 2 ^ R) (hk : k + (p.length + 1) = len) (hlen : len ≤ 255)
    (hJ : J (nI (zr_go rk rt s i0)) (nI (k + 1)) ed asg pm rk ra rt rp rn (upd wr k (nI i0)) (upd wa k (zl_a U R u cl asg ra i0)) ef dg se ok) : ∃ n, wY_analyse_260 post J (nI u) (nI s) (nI len) (nI k) (nI U) (nI R) (nI C) (nI cn) wl ed asg pm rk ra rt rp rn wr wa ef dg se ok n (-1) 0 := by
  have hR := H.1
  have h8 := zb_p8 hR
  have hA : ∀ s i, zr_ap cn R cl (zl_a U R u cl asg ra) rk rt rp rn s i → i < 16 := zr_hA hc
  have hg : ∀ s i, s < 2 ^ R → zr_ap cn R cl (zl_a U R u cl asg ra) rk rt rp rn s i → zr_go rk rt s i < 2 ^ R := zr_hg hR hr
  obtain ⟨hap, hmn⟩ := zp_mtl hA hv
  have hi0 : i0 < cn := hap.1
  have hge := hg _ _ hs hap
  have hde : d (zr_go rk rt s i0) = p.length := zy_at hA hsn hcm hge hmn (by omega)
  obtain ⟨⟨a, ha, ea⟩, t, ht, et⟩ := hr i0 hi0
  have ez : zl_a U R u cl asg ra i0 = zl_f (fun v => !decide (v = u) && bt (zx_ex cl (asg v) R) a) U 0 := by
    unfold zl_a
    rw [ea, nI_clamp (show a < 2 ^ 31 by omega)]
  have esub : nI len - nI k - 1 = nI p.length := by
    rw [pk_sub (by omega), show len - k = p.length + 1 by omega, nI_pred]
  have F2 : ∀ f j m : Nat, j + f = cn → f < m → wY_analyse_260 post J (nI u) (nI s) (nI len) (nI k) (nI U) (nI R) (nI C) (nI cn) wl ed asg pm rk ra rt rp rn wr wa ef dg se ok m (nI i0) (nI j) := by
    intro f
    induction f with
    | zero =>
      intro j m hj hm
      obtain ⟨m, rfl⟩ : ∃ x, m = x + 1 := ⟨m - 1, by omega⟩
      have e : j = cn := by omega
      rw [e]
      refine pk_le cn cn (fun _ => br_t (nI_pos' (by omega)) ⟨pk_in k 256 (by omega), ?_⟩) (fun z => absurd z (by omega))
      rw [nI_clamp (show k < 2 ^ 31 by omega), nI_clamp (show i0 < 2 ^ 31 by omega), ea]
      refine nm_e ⟨pk_in i0 16 (by omega), zy_adm H hU hu (by omega) ⟨pk_in k 256 (by omega), nm_e ?_⟩⟩
      rw [← ez]
      exact zy_app hR hs (by omega) ht et (nm_r (nI_1 k) hJ)
    | succ f ih =>
      intro j m hj hm
      obtain ⟨m, rfl⟩ : ∃ x, m = x + 1 := ⟨m - 1, by omega⟩
      exact pk_le cn j (fun z => absurd z (by omega)) (fun _ => br_t (nI_pos' (by omega)) (nm_r (nI_1 j) (ih (j + 1) m (by omega) (by omega))))
  have F1 : ∀ f j m : Nat, j + f = i0 → cn - j < m → wY_analyse_260 post J (nI u) (nI s) (nI len) (nI k) (nI U) (nI R) (nI C) (nI cn) wl ed asg pm rk ra rt rp rn wr wa ef dg se ok m (-1) (nI j) := by
    intro f
    induction f with
    | zero =>
      intro j m hj hm
      obtain ⟨m, rfl⟩ : ∃ x, m = x + 1 := ⟨m - 1, by omega⟩
      have e : j = i0 := by omega
      rw [e]
      rw [e] at hm
      refine pk_le cn i0 (fun z => absurd z (by omega)) (fun _ => br_f (by decide) (zy_apl hR hc hr hef hok hs (by omega) (fun _ => br_f (by decide) (zy_app hR hs (by omega) ht et ⟨pk_in (zr_go rk rt s i0) 256 (by omega), ?_⟩)) (fun hn => absurd hap hn)))
      rw [nI_clamp (show zr_go rk rt s i0 < 2 ^ 31 by omega), hdg _ hge, hde, esub]
      exact br_t rfl (nm_r (nI_1 i0) (F2 (cn - (i0 + 1)) (i0 + 1) m (by omega) (by omega)))
    | succ f ih =>
      intro j m hj hm
      obtain ⟨m, rfl⟩ : ∃ x, m = x + 1 := ⟨m - 1, by omega⟩
      have nx := ih (j + 1) m (by omega) (by omega)
      refine pk_le cn j (fun z => absurd z (by omega)) (fun _ => br_f (by decide) (zy_apl hR hc hr hef hok hs (by omega) (fun hj2 => br_f (by decide) ?_) (fun hn => br_t rfl (nm_r (nI_1 j) nx))))
      obtain ⟨_, t2, ht2, et2⟩ := hr j (by omega)
      have hgj := hg _ _ hs hj2
      refine zy_app hR hs (by omega) ht2 et2 ⟨pk_in (zr_go rk rt s j) 256 (by omega), ?_⟩
      rw [nI_clamp (show zr_go rk rt s j < 2 ^ 31 by omega), hdg _ hgj, esub]
      have hne := zy_not hA hsn hg hs hv (by omega) (by omega : j < i0) hj2
      have hd1 := (hsn _ hgj).1
      refine br_f ?_ (nm_r (nI_1 j) nx)
      rw [nI_eq (by omega) (by omega)]
      exact hne
  exact ⟨cn + 1, F1 i0 0 (cn + 1) (by omega) (by omega)⟩
theorem zy_239 {post : Int32 → SY → Prop} {T : Nat → Prop} {u len : Nat} {d : Nat → Nat} (H : zi_h R dj cl ed) (hU : U ≤ 8) (hc : cn ≤ 16) (hr : zi_ru cn R ra rt) (hu : u < U) (hef : ∀ s, s < 256 → ef s = zr_ef cl R s) (hok : ∀ i, i < 16 → (¬ ok i = 0 ↔ (i < cn ∧ ¬ zl_a U R u cl asg ra i = -1)))
    (hdg : ∀ x, x < 2 ^ R → dg x = nI (d x)) (hsn : zy_snd (zr_ap cn R cl (zl_a U R u cl asg ra) rk rt rp rn) (zr_go rk rt) T R d) (hcm : zy_cmp (zr_ap cn R cl (zl_a U R u cl asg ra) rk rt rp rn) (zr_go rk rt) T R d 257) (hlen : len ≤ 255) :
    ∀ (p dn : List Nat) (s m : Nat), zp_min (zr_ap cn R cl (zl_a U R u cl asg ra) rk rt rp rn) (zr_go rk rt) T s p → s < 2 ^ R → dn.length + p.length = len → p.length < m → post 1 (nI U, nI R, nI C, nI cn, nI len, ed, asg, pm, rk, ra, rt, rp, rn, zs_put nI wr (dn ++ p), zs_put (zl_a U R u cl asg ra) wa (dn ++ p), ef, dg, se, ok) → wY_analyse_239 post (nI u) (nI len) (nI U) (nI R) (nI C) (nI cn) (nI len) m (nI s) (nI dn.length) ed asg pm rk ra rt rp rn (zs_put nI wr dn) (zs_put (zl_a U R u cl asg ra) wa dn) ef dg se ok := by
  intro p
  have hR := H.1
  have hA : ∀ s i, zr_ap cn R cl (zl_a U R u cl asg ra) rk rt rp rn s i → i < 16 := zr_hA hc
  have hg : ∀ s i, s < 2 ^ R → zr_ap cn R cl (zl_a U R u cl asg ra) rk rt rp rn s i → zr_go rk rt s i < 2 ^ R := zr_hg hR hr
  induction p with
  | nil =>
    intro dn s m hv hs hl hm hp
    obtain ⟨m, rfl⟩ : ∃ x, m = x + 1 := ⟨m - 1, by omega⟩
    have e : dn.length = len := hl
    rw [List.append_nil] at hp
    exact pk_le len dn.length (fun _ => hp) (fun z => absurd z (by omega))
  | cons i p ih =>
    intro dn s m hv hs hl hm hp
    obtain ⟨m, rfl⟩ : ∃ x, m = x + 1 := ⟨m - 1, by omega⟩
    simp only [List.length_cons] at hl hm
    refine pk_le len dn.length (fun z => absurd z (by omega)) (fun _ => pk_le 256 dn.length (fun z => absurd z (by omega)) (fun _ => ?_))
    obtain ⟨hap, hmn⟩ := zp_mtl hA hv
    refine zy_260 H hU hc hr hu hef hok hdg hsn hcm hv hs hl hlen ?_
    rw [zs_putF, zs_putF]
    have e : dn ++ i :: p = (dn ++ [i]) ++ p := by simp
    rw [e] at hp
    have nx := ih (dn ++ [i]) (zr_go rk rt s i) m hmn (hg _ _ hs hap) (by rw [List.length_append, List.length_singleton]; omega) (by omega) hp
    rw [List.length_append, List.length_singleton] at nx
    exact nx
theorem zy_194 {post : Int32 → SY → Prop} {T : Nat → Prop} {u st : Nat} {d : Nat → Nat} (H : zi_h R dj cl ed) (hU : U ≤ 8) (hc : cn ≤ 16) (hr : zi_ru cn R ra rt) (hu : u < U) (hef : ∀ s, s < 256 → ef s = zr_ef cl R s) (hok : ∀ i, i < 16 → (¬ ok i = 0 ↔ (i < cn ∧ ¬ zl_a U R u cl asg ra i = -1)))
    (hdg : ∀ x, x < 2 ^ R → dg x = nI (d x)) (hsn : zy_snd (zr_ap cn R cl (zl_a U R u cl asg ra) rk rt rp rn) (zr_go rk rt) T R d) (hcm : zy_cmp (zr_ap cn R cl (zl_a U R u cl asg ra) rk rt rp rn) (zr_go rk rt) T R d 257) (hst : st < 2 ^ R) (eu : asg u = nI st)
    (hx : ((∀ q t, zp_run (zr_ap cn R cl (zl_a U R u cl asg ra) rk rt rp rn) (zr_go rk rt) q st t → ¬ T t) ∧ post 2 (nI U, nI R, nI C, nI cn, -1, ed, asg, pm, rk, ra, rt, rp, rn, wr, wa, ef, dg, se, ok)) ∨ (∃ p, zp_min (zr_ap cn R cl (zl_a U R u cl asg ra) rk rt rp rn) (zr_go rk rt) T st p ∧ p.length ≤ 255 ∧ post 1 (nI U, nI R, nI C, nI cn, nI p.length, ed, asg, pm, rk, ra, rt, rp, rn, zs_put nI wr p, zs_put (zl_a U R u cl asg ra) wa p, ef, dg, se, ok))) : wY_analyse_194 post (nI u) (nI U) (nI R) (nI C) (nI cn) wl ed asg pm rk ra rt rp rn wr wa ef dg se ok := by
  have h8 := zb_p8 H.1
  have hd := (hsn st hst).1
  refine ⟨pk_in u 8 (by omega), ?_⟩
  rw [nI_clamp (show u < 2 ^ 31 by omega), eu]
  refine nm_e ⟨pk_in st 256 (by omega), ?_⟩
  rw [nI_clamp (show st < 2 ^ 31 by omega), hdg st hst]
  rcases hx with ⟨hn, hp⟩ | ⟨p, hm, hl, hp⟩
  · have e := zy_inf hsn hst hn
    exact pk_lt (d st) 100000 (fun z => absurd z (by omega)) (fun _ => hp)
  · have e := zy_at (zr_hA hc) hsn hcm hst hm (by omega)
    rw [e]
    refine pk_lt p.length 100000 (fun _ => ⟨pk_in st 256 (by omega), nm_e ⟨p.length + 1, ?_⟩⟩) (fun z => absurd z (by omega))
    have L := zy_239 (post := post) (T := T) (wr := wr) (wa := wa) (pm := pm) (C := C) (se := se) (u := u) (len := p.length) H hU hc hr hu hef hok hdg hsn hcm hl p [] st (p.length + 1) hm hst (by simp) (by omega) hp
    rw [zs_put0, zs_put0] at L
    exact L
theorem zy_91 {post : Int32 → SY → Prop} {J : Int32 → (Nat → Int32) → (Nat → Int32) → (Nat → Int32) → (Nat → Int32) → (Nat → Int32) → (Nat → Int32) → (Nat → Int32) → (Nat → Int32) → (Nat → Int32) → (Nat → Int32) → (Nat → Int32) → (Nat → Int32) → (Nat → Int32) → (Nat → Int32) → Prop} {T : Nat → Prop} {u pass : Nat} {d0 : Nat → Nat} (H : zi_h R dj cl ed) (hU : U ≤ 8) (hc : cn ≤ 16) (hr : zi_ru cn R ra rt) (hu : u < U) (hef : ∀ s, s < 256 → ef s = zr_ef cl R s) (hok : ∀ i, i < 16 → (¬ ok i = 0 ↔ (i < cn ∧ ¬ zl_a U R u cl asg ra i = -1)))
    (hend : ∀ (ch : Int32) (dg : Nat → Int32) (d : Nat → Nat), (∀ x, x < 2 ^ R → dg x = nI (d x)) → zy_snd (zr_ap cn R cl (zl_a U R u cl asg ra) rk rt rp rn) (zr_go rk rt) T R d → zy_pas (zr_ap cn R cl (zl_a U R u cl asg ra) rk rt rp rn) (zr_go rk rt) R d0 d (16 * 2 ^ R) → (ch = 0 → ∀ s, s < 2 ^ R → d s = d0 s) → (ch = 0 → wY_analyse_194 post (nI u) (nI U) (nI R) (nI C) (nI cn) wl ed asg pm rk ra rt rp rn wr wa ef dg se ok) ∧ (¬ ch = 0 → J (nI (pass + 1)) ed asg pm rk ra rt rp rn wr wa ef dg se ok)) :
    ∀ (f x m : Nat) (ch : Int32) (dg : Nat → Int32) (d : Nat → Nat), x + f = 16 * 2 ^ R → f < m → (∀ x, x < 2 ^ R → dg x = nI (d x)) → zy_snd (zr_ap cn R cl (zl_a U R u cl asg ra) rk rt rp rn) (zr_go rk rt) T R d → zy_pas (zr_ap cn R cl (zl_a U R u cl asg ra) rk rt rp rn) (zr_go rk rt) R d0 d x → (ch = 0 → ∀ s, s < 2 ^ R → d s = d0 s) → wY_analyse_91 post J (nI u) (nI (2 ^ R)) (nI pass) (nI U) (nI R) (nI C) (nI cn) wl m ch (nI x) ed asg pm rk ra rt rp rn wr wa ef dg se ok := by
  intro f
  have hR := H.1
  have h8 := zb_p8 hR
  have hg : ∀ s i, s < 2 ^ R → zr_ap cn R cl (zl_a U R u cl asg ra) rk rt rp rn s i → zr_go rk rt s i < 2 ^ R := zr_hg hR hr
  induction f with
  | zero =>
    intro x m ch dg d hx hm hdg hsn hpa hch
    obtain ⟨m, rfl⟩ : ∃ y, m = y + 1 := ⟨m - 1, by omega⟩
    have e : x = 16 * 2 ^ R := by omega
    rw [e] at hpa
    obtain ⟨e0, e1⟩ := hend ch dg d hdg hsn hpa hch
    exact pk_le (2 ^ R * 16) x (fun _ => br_c e0 (fun z => nm_r (nI_1 pass) (e1 z))) (fun z => absurd z (by omega)) (hx := zy_m16 _)
  | succ f ih =>
    intro x m ch dg d hx hm hdg hsn hpa hch
    obtain ⟨m, rfl⟩ : ∃ y, m = y + 1 := ⟨m - 1, by omega⟩
    have ex : 16 * (x / 16) + x % 16 = x := Nat.div_add_mod x 16
    have hs : x / 16 < 2 ^ R := by omega
    have hi : x % 16 < 16 := Nat.mod_lt _ (by omega)
    refine pk_le (2 ^ R * 16) x (fun z => absurd z (by omega)) (fun _ => ?_) (hx := zy_m16 _)
    rw [zy_sh16 (by omega), zy_an16 (by omega)]
    refine nm_e (nm_e ?_)
    rw [← ex] at hpa
    generalize x / 16 = s at hs hpa ex
    generalize x % 16 = i at hi hpa ex
    have skip : (zr_ap cn R cl (zl_a U R u cl asg ra) rk rt rp rn s i → ¬ d (zr_go rk rt s i) + 1 < d s) → wY_analyse_91 post J (nI u) (nI (2 ^ R)) (nI pass) (nI U) (nI R) (nI C) (nI cn) wl m ch (nI (x + 1)) ed asg pm rk ra rt rp rn wr wa ef dg se ok := by
      intro hn
      have q := zy_pskip hg hpa hi hs hn
      rw [ex] at q
      exact ih (x + 1) m ch dg d (by omega) (by omega) hdg hsn q hch
    refine zy_apl hR hc hr hef hok hs hi (fun hap => br_f (by decide) ?_) (fun hn => br_t rfl (nm_r (nI_1 x) (skip (fun z => absurd z hn))))
    obtain ⟨_, t, ht, et⟩ := hr i hap.1
    have hgo := hg _ _ hs hap
    have hb1 := (hsn _ hgo).1
    have hb2 := (hsn _ hs).1
    refine zy_app hR hs hi ht et ⟨pk_in (zr_go rk rt s i) 256 (by omega), pk_in s 256 (by omega), ?_⟩
    rw [nI_clamp (show zr_go rk rt s i < 2 ^ 31 by omega), nI_clamp (show s < 2 ^ 31 by omega), hdg _ hgo, hdg _ hs, nI_1]
    refine pk_le (d s) (d (zr_go rk rt s i) + 1) (fun z => nm_r (nI_1 x) (skip (fun _ => by omega))) (fun z => ?_)
    refine zy_app hR hs hi ht et ⟨pk_in (zr_go rk rt s i) 256 (by omega), pk_in s 256 (by omega), ?_⟩
    rw [nI_clamp (show zr_go rk rt s i < 2 ^ 31 by omega), hdg _ hgo, nI_1]
    refine nm_e (nm_r (nI_1 x) ?_)
    have q := zy_pset hg hpa hi hs hap z
    rw [ex] at q
    refine ih (x + 1) m 1 _ _ (by omega) (by omega) (fun y hy => ?_) (zy_sset hg hsn hs hap z) q (fun w => absurd w (by decide))
    by_cases e : y = s
    · rw [e, pk_us, if_pos rfl]
    · rw [pk_un e, if_neg e]
      exact hdg y hy
theorem zy_77 {post : Int32 → SY → Prop} {T : Nat → Prop} {u st : Nat} (H : zi_h R dj cl ed) (hU : U ≤ 8) (hc : cn ≤ 16) (hr : zi_ru cn R ra rt) (hu : u < U) (hef : ∀ s, s < 256 → ef s = zr_ef cl R s) (hok : ∀ i, i < 16 → (¬ ok i = 0 ↔ (i < cn ∧ ¬ zl_a U R u cl asg ra i = -1))) (hst : st < 2 ^ R) (eu : asg u = nI st)
    (hx : ((∀ q t, zp_run (zr_ap cn R cl (zl_a U R u cl asg ra) rk rt rp rn) (zr_go rk rt) q st t → ¬ T t) ∧ ∀ dg, post 2 (nI U, nI R, nI C, nI cn, -1, ed, asg, pm, rk, ra, rt, rp, rn, wr, wa, ef, dg, se, ok)) ∨ (∃ p, zp_min (zr_ap cn R cl (zl_a U R u cl asg ra) rk rt rp rn) (zr_go rk rt) T st p ∧ p.length ≤ 255 ∧ ∀ dg, post 1 (nI U, nI R, nI C, nI cn, nI p.length, ed, asg, pm, rk, ra, rt, rp, rn, zs_put nI wr p, zs_put (zl_a U R u cl asg ra) wa p, ef, dg, se, ok))) :
    ∀ (f pass m : Nat) (dg : Nat → Int32) (d : Nat → Nat), pass + f = 257 → f < m → (∀ x, x < 2 ^ R → dg x = nI (d x)) → zy_snd (zr_ap cn R cl (zl_a U R u cl asg ra) rk rt rp rn) (zr_go rk rt) T R d → zy_cmp (zr_ap cn R cl (zl_a U R u cl asg ra) rk rt rp rn) (zr_go rk rt) T R d pass → wY_analyse_77 post (nI u) (nI (2 ^ R)) (nI U) (nI R) (nI C) (nI cn) wl m (nI pass) ed asg pm rk ra rt rp rn wr wa ef dg se ok := by
  intro f
  have hR := H.1
  have h8 := zb_p8 hR
  have hA : ∀ s i, zr_ap cn R cl (zl_a U R u cl asg ra) rk rt rp rn s i → i < 16 := zr_hA hc
  have hg : ∀ s i, s < 2 ^ R → zr_ap cn R cl (zl_a U R u cl asg ra) rk rt rp rn s i → zr_go rk rt s i < 2 ^ R := zr_hg hR hr
  have F : ∀ (dg : Nat → Int32) (d : Nat → Nat), (∀ x, x < 2 ^ R → dg x = nI (d x)) → zy_snd (zr_ap cn R cl (zl_a U R u cl asg ra) rk rt rp rn) (zr_go rk rt) T R d → zy_cmp (zr_ap cn R cl (zl_a U R u cl asg ra) rk rt rp rn) (zr_go rk rt) T R d 257 → wY_analyse_194 post (nI u) (nI U) (nI R) (nI C) (nI cn) wl ed asg pm rk ra rt rp rn wr wa ef dg se ok := by
    intro dg d hdg hsn hcm
    refine zy_194 H hU hc hr hu hef hok hdg hsn hcm hst eu ?_
    rcases hx with ⟨a, b⟩ | ⟨p, a, b, c⟩
    · exact Or.inl ⟨a, b dg⟩
    · exact Or.inr ⟨p, a, b, c dg⟩
  induction f with
  | zero =>
    intro pass m dg d hp hm hdg hsn hcm
    obtain ⟨m, rfl⟩ : ∃ y, m = y + 1 := ⟨m - 1, by omega⟩
    have e : pass = 257 := by omega
    subst e
    exact pk_le 257 257 (fun _ => F dg d hdg hsn hcm) (fun z => absurd z (by omega))
  | succ f ih =>
    intro pass m dg d hp hm hdg hsn hcm
    obtain ⟨m, rfl⟩ : ∃ y, m = y + 1 := ⟨m - 1, by omega⟩
    refine pk_le 257 pass (fun z => absurd z (by omega)) (fun _ => ⟨16 * 2 ^ R + 1, ?_⟩)
    refine zy_91 (d0 := d) (T := T) H hU hc hr hu hef hok (fun ch dg' d' a1 a2 a3 a4 => ⟨fun z => ?_, fun z => ?_⟩) (16 * 2 ^ R) 0 _ 0 dg d (by omega) (by omega) hdg hsn (zy_p0 d) (fun _ _ _ => rfl)
    · exact F dg' d' a1 a2 (zy_pfix hA hg a3 (a4 z) (zy_cle hcm (by omega)) 257)
    · exact ih (pass + 1) m dg' d' (by omega) (by omega) a1 a2 (zy_pend hA hg a3 hcm)
theorem zy_33 {post : Int32 → SY → Prop} {u g st : Nat} (H : zi_h R dj cl ed) (hU : U ≤ 8) (hc : cn ≤ 16) (hr : zi_ru cn R ra rt) (hu : u < U) (hgR : g < R) (hef : ∀ s, s < 256 → ef s = zr_ef cl R s) (hok : ∀ i, i < 16 → (¬ ok i = 0 ↔ (i < cn ∧ ¬ zl_a U R u cl asg ra i = -1))) (hst : st < 2 ^ R) (eu : asg u = nI st)
    (hx : ((∀ q t, zp_run (zr_ap cn R cl (zl_a U R u cl asg ra) rk rt rp rn) (zr_go rk rt) q st t → ¬ bt (zr_ef cl R t) g = true) ∧ ∀ dg, post 2 (nI U, nI R, nI C, nI cn, -1, ed, asg, pm, rk, ra, rt, rp, rn, wr, wa, ef, dg, se, ok)) ∨ (∃ p, zp_min (zr_ap cn R cl (zl_a U R u cl asg ra) rk rt rp rn) (zr_go rk rt) (fun t => bt (zr_ef cl R t) g = true) st p ∧ p.length ≤ 255 ∧ ∀ dg, post 1 (nI U, nI R, nI C, nI cn, nI p.length, ed, asg, pm, rk, ra, rt, rp, rn, zs_put nI wr p, zs_put (zl_a U R u cl asg ra) wa p, ef, dg, se, ok))) :
    ∀ (f s m : Nat) (dg : Nat → Int32), s + f = 256 → f < m → (∀ x, x < s → dg x = nI (if bt (zr_ef cl R x) g = true then 0 else 100000)) → wY_analyse_33 post (nI u) (nI g) (nI (2 ^ R)) (nI U) (nI R) (nI C) (nI cn) wl m (nI s) ed asg pm rk ra rt rp rn wr wa ef dg se ok := by
  intro f
  have hR := H.1
  have h8 := zb_p8 hR
  induction f with
  | zero =>
    intro s m dg hs hm hdg
    obtain ⟨m, rfl⟩ : ∃ y, m = y + 1 := ⟨m - 1, by omega⟩
    have e : s = 256 := by omega
    subst e
    refine pk_le 256 256 (fun _ => ⟨258, ?_⟩) (fun z => absurd z (by omega))
    refine zy_77 (T := fun t => bt (zr_ef cl R t) g = true) H hU hc hr hu hef hok hst eu hx 257 0 258 dg (fun x => if bt (zr_ef cl R x) g = true then 0 else 100000) (by omega) (by omega) (fun x hxx => hdg x (by omega)) ?_ ?_
    · intro x hxx
      dsimp only
      by_cases hb : bt (zr_ef cl R x) g = true
      · rw [if_pos hb]
        exact ⟨by omega, fun _ => ⟨[], x, rfl, hb, rfl⟩⟩
      · rw [if_neg hb]
        exact ⟨by omega, fun z => absurd z (by omega)⟩
    · exact zy_c0 (fun x _ hb => if_pos hb)
  | succ f ih =>
    intro s m dg hs hm hdg
    obtain ⟨m, rfl⟩ : ∃ y, m = y + 1 := ⟨m - 1, by omega⟩
    have nx : ∀ b : Int32, b = nI (if bt (zr_ef cl R s) g = true then 0 else 100000) → wY_analyse_33 post (nI u) (nI g) (nI (2 ^ R)) (nI U) (nI R) (nI C) (nI cn) wl m (nI (s + 1)) ed asg pm rk ra rt rp rn wr wa ef (upd dg s b) se ok := by
      intro b hb
      refine ih (s + 1) m _ (by omega) (by omega) (fun x hxx => ?_)
      by_cases e : x = s
      · rw [e, pk_us]
        exact hb
      · rw [pk_un e]
        exact hdg x (by omega)
    refine pk_le 256 s (fun z => absurd z (by omega)) (fun _ => ⟨pk_in s 256 (by omega), ?_⟩)
    rw [nI_clamp (show s < 2 ^ 31 by omega), hef s (by omega)]
    refine br_c (fun z => ⟨pk_in s 256 (by omega), nm_e (nm_r (nI_1 s) (nx _ ?_))⟩) (fun z => ⟨pk_in s 256 (by omega), nm_e (nm_r (nI_1 s) (nx _ ?_))⟩)
    · rw [if_neg (by rw [(zb_rs _ (by omega)).mp z]; decide)]
      rfl
    · rw [if_pos (zb_nf (fun w => z ((zb_rs _ (by omega)).mpr w)))]
      rfl
theorem zy_ana {post : Int32 → SY → Prop} {u g st : Nat} (H : zi_h R dj cl ed) (hU : U ≤ 8) (hc : cn ≤ 16) (hr : zi_ru cn R ra rt) (hu : u < U) (hgR : g < R) (hst : st < 2 ^ R) (eu : asg u = nI st)
    (hx : ((∀ q t, zp_run (zr_ap cn R cl (zl_a U R u cl asg ra) rk rt rp rn) (zr_go rk rt) q st t → ¬ bt (zr_ef cl R t) g = true) ∧ ∀ ef dg ok, post 2 (nI U, nI R, nI C, nI cn, -1, ed, asg, pm, rk, ra, rt, rp, rn, wr, wa, ef, dg, se, ok)) ∨ (∃ p, zp_min (zr_ap cn R cl (zl_a U R u cl asg ra) rk rt rp rn) (zr_go rk rt) (fun t => bt (zr_ef cl R t) g = true) st p ∧ p.length ≤ 255 ∧ ∀ ef dg ok, post 1 (nI U, nI R, nI C, nI cn, nI p.length, ed, asg, pm, rk, ra, rt, rp, rn, zs_put nI wr p, zs_put (zl_a U R u cl asg ra) wa p, ef, dg, se, ok))) : wpY_analyse post (nI U, nI R, nI C, nI cn, wl, ed, asg, pm, rk, ra, rt, rp, rn, wr, wa, ef, dg, se, ok) (nI u) (nI g) := by
  have hR := H.1
  unfold wpY_analyse
  refine zy_userY hU hu (br_t rfl (zy_roleY hR hgR (br_t rfl (zy_prep H hU hc hr hu (fun ef ok hef hok => ?_)))))
  refine nm_r (zy_full R (by omega)) ⟨257, ?_⟩
  refine zy_33 H hU hc hr hu hgR hef hok hst eu ?_ 256 0 257 dg (by omega) (by omega) (fun x hxx => absurd hxx (Nat.not_lt_zero x))
  rcases hx with ⟨a, b⟩ | ⟨p, a, b, c⟩
  · exact Or.inl ⟨a, fun dg => b ef dg ok⟩
  · exact Or.inr ⟨p, a, b, fun dg => c ef dg ok⟩
end
