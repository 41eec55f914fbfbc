theorem zs_putG {f w : Nat → Int32} {p dn rest : List Nat} {i : Nat} (e : dn ++ i :: rest = p) : zs_put f w p dn.length = f i := by
  subst e
  unfold zs_put
  rw [if_pos (by simp), List.getD_eq_getElem?_getD, List.getElem?_append_right (Nat.le_refl _), Nat.sub_self]
  rfl
theorem zq_uu {f : Nat → Int32} {k : Nat} {a b : Int32} : upd (upd f k a) k b = upd f k b := by
  funext j
  by_cases e : j = k
  · rw [e, pk_us, pk_us]
  · rw [pk_un e, pk_un e, pk_un e]
theorem zq_su {f : Nat → Int32} {k : Nat} {a : Int32} (h : f k = a) : f = upd f k a := by
  funext j
  by_cases e : j = k
  · rw [e, pk_us, h]
  · rw [pk_un e]
theorem zl_ne (g : Nat → Bool) : ∀ d j : Nat, j + d < 1000 → (¬ zl_f g d j = -1 ↔ ∃ v, j ≤ v ∧ v < j + d ∧ g v = true) := by
  intro d
  induction d with
  | zero =>
    intro j _
    exact ⟨fun z => absurd rfl z, fun ⟨v, h1, h2, _⟩ => by omega⟩
  | succ d ih =>
    intro j hj
    by_cases h : g j = true
    · rw [show zl_f g (d + 1) j = nI j from if_pos h]
      exact ⟨fun _ => ⟨j, Nat.le_refl _, by omega, h⟩, fun _ => zs_m1 (by omega)⟩
    · rw [show zl_f g (d + 1) j = zl_f g d (j + 1) from if_neg h, ih (j + 1) (by omega)]
      constructor
      · intro ⟨v, h1, h2, h3⟩
        exact ⟨v, by omega, by omega, h3⟩
      · intro ⟨v, h1, h2, h3⟩
        by_cases e : v = j
        · rw [e] at h3
          exact absurd h3 h
        · exact ⟨v, by omega, by omega, h3⟩
section
variable {U R C cn : Nat} {wl fc : Int32} {dj cl pm asg rk ra rt rp rn wr wa la ds pv ar fs : Nat → Int32} {post : Int32 → Prop} {L kc ks u g st : Nat} {xs : Nat → Int32}
theorem zq_834 {t : Nat} {p : List Nat} (hR : R ≤ 8) (hU : U ≤ 8) (hc : cn ≤ 16) (hr : zi_ru cn R ra rt) (hu : u < U) (hg : g < R) (hl : p.length ≤ 255) (h1 : post 1) (hT : bt (zr_ef cl R t) g = true) :
    ∀ (rest dn : List Nat) (s m : Nat), dn ++ rest = p → s < 2 ^ R → zp_run (zr_ap cn R cl (zl_a U R u cl asg ra) rk rt rp rn) (zr_go rk rt) rest s t → rest.length < m → wL_law_834 post L xs (nI u) (nI g) (nI p.length) kc ks m (nI dn.length) (nI U) (nI R) (nI C) (nI cn) (nI p.length) fc dj cl pm (upd asg u (nI s)) rk ra rt rp rn (zs_put nI wr p) (zs_put (zl_a U R u cl asg ra) wa p) la ds pv ar fs := by
  intro rest
  induction rest with
  | nil =>
    intro dn s m hp hs hrun hm
    obtain ⟨m, rfl⟩ : ∃ x, m = x + 1 := ⟨m - 1, by omega⟩
    have e : s = t := hrun
    have e2 : dn = p := by rw [← hp, List.append_nil]
    rw [e2]
    refine pk_le p.length p.length (fun _ => zx_efr hR hU hu ?_) (fun z => absurd z (by omega))
    rw [pk_us, e]
    exact zq_ub _ (by omega) (fun z => absurd (show bt (zr_ef cl R t) g = false from z) (by rw [hT]; decide)) (fun _ => h1)
  | cons i rest ih =>
    intro dn s m hp hs hrun hm
    obtain ⟨m, rfl⟩ : ∃ x, m = x + 1 := ⟨m - 1, by omega⟩
    have hlen : dn.length + (rest.length + 1) = p.length := by rw [← hp, List.length_append, List.length_cons]
    simp only [List.length_cons] at hm
    obtain ⟨hap, hrun⟩ := hrun
    obtain ⟨⟨a, ha, ea⟩, t2, ht2, et2⟩ := hr i hap.1
    have h8 := zb_p8 hR
    have hgo := zr_goE (rk := rk) hR ht2 et2 hs
    have eaa : (ra i).toNatClampNeg = a := by rw [ea, nI_clamp (by omega)]
    have ett : (rt i).toNatClampNeg = t2 := by rw [et2, nI_clamp (by omega)]
    rcases zl_in (fun v => !decide (v = u) && bt (zx_ex cl (asg v) R) (ra i).toNatClampNeg) U 0 with z | ⟨v, hv, hgv, ev⟩
    · exact absurd z hap.2.1
    · have ev2 : zl_a U R u cl asg ra i = nI v := ev
      rw [Bool.and_eq_true] at hgv
      have hvu : v ≠ u := by
        intro z
        rw [decide_eq_true z] at hgv
        exact absurd hgv.1 (by decide)
      refine pk_le p.length dn.length (fun z => absurd z (by omega)) (fun _ => zx_wad (by omega) hl ?_)
      rw [zs_putG hp]
      refine zx_wru (by omega) hl ?_
      rw [zs_putG hp, ev2]
      refine zx_act1 (asg := upd asg u (nI s)) hR hU hc (by omega) hu hap.1 ha ea ht2 et2 hvu ?_ ?_ ?_ (br_t rfl (nm_r (nI_1 _) ?_))
      · rw [pk_un hvu, ← eaa]
        exact hgv.2
      · rw [pk_us]
        exact ⟨hap.2.2.1, hap.2.2.2.1⟩
      · have w := hap.2.2.2.2
        rw [ett] at w
        rw [pk_us]
        exact w
      · rw [pk_us, ← hgo.1, zq_uu]
        have nx := ih (dn ++ [i]) (zr_go rk rt s i) m (by rw [← hp]; simp) hgo.2 hrun (by omega)
        rw [List.length_append, List.length_singleton] at nx
        exact nx
def zq_A (U R cn u g st : Nat) (x8 wl : Int32) (cl asg rk ra rt rp rn wr wa : Nat → Int32) : Prop :=
  (x8 = 2 ∧ wl = -1 ∧ ∀ q t, zp_run (zr_ap cn R cl (zl_a U R u cl asg ra) rk rt rp rn) (zr_go rk rt) q st t → ¬ bt (zr_ef cl R t) g = true) ∨
  ∃ (p : List Nat) (wr0 wa0 : Nat → Int32), x8 = 1 ∧ wl = nI p.length ∧ wr = zs_put nI wr0 p ∧ wa = zs_put (zl_a U R u cl asg ra) wa0 p ∧ p.length ≤ 255 ∧ zp_min (zr_ap cn R cl (zl_a U R u cl asg ra) rk rt rp rn) (zr_go rk rt) (fun t => bt (zr_ef cl R t) g = true) st p
theorem zq_773 {x8 x13 x14 : Int32} (hR : R ≤ 8) (hU : U ≤ 8) (hc : cn ≤ 16) (hr : zi_ru cn R ra rt) (hu : u < U) (hg : g < R) (hst : st < 2 ^ R) (eu : asg u = nI st) (h1 : post 1)
    (hA : zq_A U R cn u g st x8 wl cl asg rk ra rt rp rn wr wa)
    (hrc : ∀ b, bt x14 b = true ↔ ∃ s, (∃ q, zp_run (zr_ap cn R cl (zl_a U R u cl asg ra) rk rt rp rn) (zr_go rk rt) q st s) ∧ bt (zr_ef cl R s) b = true)
    (hd : zq_d (zr_ap cn R cl (zl_a U R u cl asg ra) rk rt rp rn) (zr_go rk rt) (fun t => bt (zr_ef cl R t) g = true) st (fun s => ∃ q, zp_run (zr_ap cn R cl (zl_a U R u cl asg ra) rk rt rp rn) (zr_go rk rt) q st s) x13) : wL_law_773 post L xs (nI u) (nI g) x8 x13 x14 kc ks (nI U) (nI R) (nI C) (nI cn) wl fc dj cl pm asg rk ra rt rp rn wr wa la ds pv ar fs := by
  unfold wL_law_773
  refine zx_reach hR hU hc hr hu hst eu (fun n Q P y he hq hy fc la ds pv ar fs => ?_)
  have ey : y = x14 := by
    apply zo_ext
    intro b
    rw [hy b, hrc b]
    constructor
    · intro ⟨j, k1, k2⟩
      exact ⟨Q j, ⟨P (Q j), he.2.2.2.1 j k1⟩, k2⟩
    · intro ⟨s, ⟨q, hq2⟩, k2⟩
      obtain ⟨j, j1, j2, _⟩ := zp_fnd he hq2
      exact ⟨j, j1, by rw [j2]; exact k2⟩
  refine br_t ey ?_
  rcases hA with ⟨e8, ew, hn⟩ | ⟨p, wr0, wa0, e8, ew, er, ea, hl, hm⟩
  · rcases hd with ⟨e13, _⟩ | ⟨m, _, _, ⟨q, t, k1, k2, _⟩, _⟩
    · subst e8 ew e13
      exact br_f (by decide) (br_t rfl (br_t rfl h1))
    · exact absurd k2 (hn q t k1)
  · obtain ⟨t, hrun, hT⟩ := hm.1
    rcases hd with ⟨_, hn⟩ | ⟨m, hm100, e13, ⟨q, t', k1, k2, k3⟩, kmin⟩
    · exact absurd hT (hn t ⟨p, hrun⟩)
    · have em : m = p.length := by
        have a := zp_mlen (fun s i h => Nat.lt_of_lt_of_le h.1 hc) hm k1 k2
        have b := kmin p t hrun hT
        omega
      subst e8 ew e13 er ea em
      refine br_t (nI_pos' (by omega)) (br_t rfl (br_t rfl ⟨p.length + 1, ?_⟩))
      rw [zq_su eu]
      have e3 : zl_a U R u cl (upd asg u (nI st)) ra = zl_a U R u cl asg ra := by rw [← zq_su eu]
      rw [e3]
      exact zq_834 hR hU hc hr hu hg hl h1 hT p [] st (p.length + 1) rfl hst hrun (by omega)
end
