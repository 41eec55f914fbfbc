def zi_k (U R C cn : Nat) (wl : Int32) (dj cl asg ra rt ed : Nat → Int32) : Prop :=
  (1 ≤ U ∧ U ≤ 8) ∧ (2 ≤ R ∧ R ≤ 8) ∧ C ≤ 16 ∧ cn ≤ C ∧ (wl = -1 ∨ ∃ L, L ≤ 255 ∧ wl = nI L) ∧ zi_h R dj cl ed ∧ (∀ v, v < U → ∀ j, R ≤ j → bt (asg v) j = false) ∧ zi_ru cn R ra rt
def i_Rel (k : Nat) (u : SX) (v : SY) : Prop :=
  ∃ (U R C cn : Nat) (wl fc : Int32) (dj cl pm asg rk ra rt rp rn wr wa la ds pv ar fs ed ef dg se ok : Nat → Int32), u = (nI U, nI R, nI C, nI cn, wl, fc, dj, cl, pm, asg, rk, ra, rt, rp, rn, wr, wa, la, ds, pv, ar, fs) ∧ v = (nI U, nI R, nI C, nI cn, wl, ed, asg, pm, rk, ra, rt, rp, rn, wr, wa, ef, dg, se, ok) ∧ zi_k U R C cn wl dj cl asg ra rt ed
theorem zi_mk {U R C cn : Nat} {wl fc : Int32} {dj cl pm asg rk ra rt rp rn wr wa la ds pv ar fs ed ef dg se ok : Nat → Int32} (k : Nat) (K : zi_k U R C cn wl dj cl asg ra rt ed) : i_Rel k (nI U, nI R, nI C, nI cn, wl, fc, dj, cl, pm, asg, rk, ra, rt, rp, rn, wr, wa, la, ds, pv, ar, fs) (nI U, nI R, nI C, nI cn, wl, ed, asg, pm, rk, ra, rt, rp, rn, wr, wa, ef, dg, se, ok) := ⟨U, R, C, cn, wl, fc, dj, cl, pm, asg, rk, ra, rt, rp, rn, wr, wa, la, ds, pv, ar, fs, ed, ef, dg, se, ok, rfl, rfl, K⟩
theorem i_up {k : Nat} {u : SX} {v : SY} (h : i_Rel k u v) : i_Rel (k + 5) u v := h
theorem zv_cl (x : Int32) (lo hi : Nat) (h : lo ≤ hi) (hh : hi < 256) : ∃ n, lo ≤ n ∧ n ≤ hi ∧ ∀ A : Int32 → Prop, A (nI n) → ((nI lo ≤ x → ((x ≤ nI hi → A x) ∧ (¬ x ≤ nI hi → A (nI hi)))) ∧ (¬ nI lo ≤ x → A (nI lo))) := by
  by_cases h1 : nI lo ≤ x
  · have h0 : ¬ x < 0 := by
      intro z
      have a := Int32.lt_iff_toInt_lt.mp z
      have b := Int32.le_iff_toInt_le.mp h1
      rw [nI_toInt (by omega)] at b
      rw [show (0 : Int32).toInt = 0 from by decide] at a
      omega
    obtain ⟨j, hj, rfl⟩ := nI_of h0
    by_cases h2 : nI j ≤ nI hi
    · exact ⟨j, (nI_leI (by omega) hj).mp h1, (nI_leI hj (by omega)).mp h2, fun A a => br_t h1 (br_t h2 a)⟩
    · exact ⟨hi, h, Nat.le_refl _, fun A a => br_t h1 (br_f h2 a)⟩
  · exact ⟨lo, Nat.le_refl _, h, fun A a => br_f h1 a⟩
theorem zx_clampI {post : Int32 → Prop} {x : Int32} {n : Nat} (lo hi : Nat) (h : ∀ A : Int32 → Prop, A (nI n) → ((nI lo ≤ x → ((x ≤ nI hi → A x) ∧ (¬ x ≤ nI hi → A (nI hi)))) ∧ (¬ nI lo ≤ x → A (nI lo)))) (hp : post (nI n)) : wpX_clamp post  x (nI lo) (nI hi) := h post hp
theorem zi_z0 (R : Nat) : zi_dj R (fun _ => 0) := by
  intro a _ b z
  rw [b_0] at z
  exact absurd z (by decide)
theorem zi_z1 : zi_ed (fun _ => 0) (fun _ => 0) := by
  intro k _
  rw [b_0]
  exact ⟨fun z => absurd rfl z, fun z => absurd z (by decide)⟩
theorem i_vc0 (k0 : Int32) (k1 : Int32) (k2 : Int32) : wpX_init (fun u => wpY_init (fun v => i_Rel 3 u v) k0 k1 k2) k0 k1 k2 := by
  obtain ⟨U, u1, u2, hU⟩ := zv_cl k0 1 8 (by omega) (by omega)
  obtain ⟨R, r1, r2, hR⟩ := zv_cl k1 2 8 (by omega) (by omega)
  obtain ⟨C, c1, c2, hC⟩ := zv_cl k2 1 16 (by omega) (by omega)
  unfold wpX_init
  refine zx_clampI 1 8 hU (zx_clampI 2 8 hR (zx_clampI 1 16 hC ?_))
  refine zx_reb (cn := 0) r2 (zi_z0 R) (fun cl hcl => ?_)
  refine hU (fun z => wY_init_148 _ k1 k2 z _ _ _ _ _ _ _ _ _ _ _ _ _ _ _ _ _ _ _) ?_
  refine hR (fun z => wY_init_173 _ k2 z _ _ _ _ _ _ _ _ _ _ _ _ _ _ _ _ _ _ _) ?_
  refine hC (fun z => i_Rel 3 _ (_, _, z, _)) ?_
  refine zi_mk (cn := 0) 3 ⟨⟨u1, u2⟩, ⟨r1, r2⟩, c2, Nat.zero_le _, Or.inl rfl, ⟨r2, zi_z0 R, zi_z1, hcl⟩, ?_, ?_⟩
  · intro v _ j _
    exact b_0 j
  · intro i hi
    exact absurd hi (Nat.not_lt_zero i)
theorem zi_ed2 {dj ed : Nat → Int32} (h : zi_ed dj ed) {s j : Nat} (hs : s < 8) (hj : j < 8) : ¬ ed (8 * s + j) = 0 ↔ bt (dj s) j = true := by
  have e := h (8 * s + j) (by omega)
  rw [show (8 * s + j) / 8 = s by omega, show (8 * s + j) % 8 = j by omega] at e
  exact e
theorem zi_ix (s j : Nat) : nI s * 8 + nI j = nI (8 * s + j) := by
  rw [show nI s * 8 = nI (s * 8) from (Int32.ofNat_mul s 8).symm, nI_add, Nat.mul_comm]
theorem zi_be {x : Bool} {P : Prop} (h : ¬ P ↔ x = true) : P ↔ x = false := by
  cases x
  · exact ⟨fun _ => rfl, fun _ => Classical.byContradiction (fun z => absurd (h.mp z) (by decide))⟩
  · exact ⟨fun z => absurd z (h.mpr rfl), fun z => absurd z (by decide)⟩
theorem i_vc_addInheritance {k : Nat} {u : SX} {v : SY} (I : i_Rel k u v) (hk : k + 5 ≤ 2563) (v1 : Int32) (v2 : Int32) : wpX_addInheritance (fun r u' => wpY_addInheritance (fun r' v' => r' = r ∧ i_Rel (k + 5) u' v') v v1 v2) u v1 v2 := by
  obtain ⟨U, R, C, cn, wl, fc, dj, cl, pm, asg, rk, ra, rt, rp, rn, wr, wa, la, ds, pv, ar, fs, ed, ef, dg, se, ok, rfl, rfl, K⟩ := I
  obtain ⟨hU, hR, hC, hcn, hwl, H, ha, hr⟩ := id K
  have hR8 := hR.2
  unfold wpX_addInheritance
  rcases zi_io v1 (n := R) (by omega) with h1 | ⟨s, hs, rfl⟩
  · refine zx_roleN h1 (br_t rfl ?_)
    unfold wpY_addInheritance
    exact zy_roleN h1 (br_f (by decide) ⟨rfl, zi_mk _ K⟩)
  · refine zx_roleY hR8 hs (br_f (by decide) ?_)
    rcases zi_io v2 (n := R) (by omega) with h2 | ⟨j, hj, rfl⟩
    · refine zx_roleN h2 (br_t rfl ?_)
      unfold wpY_addInheritance
      exact zy_roleY hR8 hs (br_t rfl (zy_roleN h2 (br_f (by decide) ⟨rfl, zi_mk _ K⟩)))
    · refine zx_roleY hR8 hj (br_f (by decide) ?_)
      have hY : ∀ post : Int32 → SY → Prop, ((s = j → post (-4) (nI U, nI R, nI C, nI cn, wl, ed, asg, pm, rk, ra, rt, rp, rn, wr, wa, ef, dg, se, ok)) ∧ (s ≠ j → (bt (dj s) j = true → post (-3) (nI U, nI R, nI C, nI cn, wl, ed, asg, pm, rk, ra, rt, rp, rn, wr, wa, ef, dg, se, ok)) ∧ (bt (dj s) j = false → (bt (cl j) s = true → post (-4) (nI U, nI R, nI C, nI cn, wl, ed, asg, pm, rk, ra, rt, rp, rn, wr, wa, ef, dg, se, ok)) ∧ (bt (cl j) s = false → post 0 (nI U, nI R, nI C, nI cn, wl, upd ed (8 * s + j) 1, asg, pm, rk, ra, rt, rp, rn, wr, wa, ef, dg, se, ok))))) → wpY_addInheritance post (nI U, nI R, nI C, nI cn, wl, ed, asg, pm, rk, ra, rt, rp, rn, wr, wa, ef, dg, se, ok) (nI s) (nI j) := by
        intro post hp
        unfold wpY_addInheritance
        refine zy_roleY hR8 hs (br_t rfl (zy_roleY hR8 hj (br_t rfl (pk_eq s j (fun e => hp.1 e) (fun e => ?_)))))
        have hp2 := hp.2 e
        rw [zi_ix, nI_clamp (by omega)]
        refine ⟨pk_in (8 * s + j) 64 (by omega), br_c (fun z => zy_clo H hj ?_) (fun z => hp2.1 ((zi_ed2 H.2.2.1 (by omega) (by omega)).mp z))⟩
        have hp3 := hp2.2 ((zi_be (zi_ed2 H.2.2.1 (by omega) (by omega))).mp z)
        refine br_c (fun y => ⟨pk_in (8 * s + j) 64 (by omega), nm_r (by rw [zy_b1]) (hp3.2 ((zb_rs _ (by omega)).mp y))⟩) (fun y => hp3.1 (zb_nf (fun w => y ((zb_rs _ (by omega)).mpr w))))
      refine pk_eq s j (fun e => ?_) (fun e => ?_)
      · exact hY _ ⟨fun _ => ⟨rfl, zi_mk _ K⟩, fun z => absurd e z⟩
      · refine ⟨pk_in s 8 (by omega), ?_⟩
        rw [nI_clamp (show s < 2 ^ 31 by omega), nI_clamp (show j < 2 ^ 31 by omega)]
        refine zx_con (by omega) (zb_br _ (fun hb => ⟨pk_in j 8 (by omega), zx_con (by omega) (zb_br _ (fun hb2 => ⟨pk_in s 8 (by omega), pk_in s 8 (by omega), nm_e ?_⟩) (fun hb2 => ?_))⟩) (fun hb => ?_))
        · refine zx_reb hR8 (zi_djA H.2.1 hR8 hs hj) (fun cl' hcl => ?_)
          refine hY _ ⟨fun z => absurd z e, fun _ => ⟨fun z => ?_, fun _ => ⟨fun z => ?_, fun _ => ⟨rfl, zi_mk _ ⟨hU, hR, hC, hcn, hwl, ⟨hR8, zi_djA H.2.1 hR8 hs hj, zi_edA H.2.2.1 (by omega) (by omega), hcl⟩, ha, hr⟩⟩⟩⟩⟩
          · rw [hb] at z
            exact absurd z (by decide)
          · rw [hb2] at z
            exact absurd z (by decide)
        · refine hY _ ⟨fun z => absurd z e, fun _ => ⟨fun z => ?_, fun _ => ⟨fun _ => ⟨rfl, zi_mk _ K⟩, fun z => ?_⟩⟩⟩
          · rw [hb] at z
            exact absurd z (by decide)
          · rw [hb2] at z
            exact absurd z (by decide)
        · refine hY _ ⟨fun z => absurd z e, fun _ => ⟨fun _ => ⟨rfl, zi_mk _ K⟩, fun z => ?_⟩⟩
          rw [hb] at z
          exact absurd z (by decide)
theorem i_vc_removeInheritance {k : Nat} {u : SX} {v : SY} (I : i_Rel k u v) (hk : k + 5 ≤ 2563) (v1 : Int32) (v2 : Int32) : wpX_removeInheritance (fun r u' => wpY_removeInheritance (fun r' v' => r' = r ∧ i_Rel (k + 5) u' v') v v1 v2) u v1 v2 := by
  obtain ⟨U, R, C, cn, wl, fc, dj, cl, pm, asg, rk, ra, rt, rp, rn, wr, wa, la, ds, pv, ar, fs, ed, ef, dg, se, ok, rfl, rfl, K⟩ := I
  obtain ⟨hU, hR, hC, hcn, hwl, H, ha, hr⟩ := id K
  have hR8 := hR.2
  unfold wpX_removeInheritance
  rcases zi_io v1 (n := R) (by omega) with h1 | ⟨s, hs, rfl⟩
  · refine zx_roleN h1 (br_t rfl ?_)
    unfold wpY_removeInheritance
    exact zy_roleN h1 (br_f (by decide) ⟨rfl, zi_mk _ K⟩)
  · refine zx_roleY hR8 hs (br_f (by decide) ?_)
    rcases zi_io v2 (n := R) (by omega) with h2 | ⟨j, hj, rfl⟩
    · refine zx_roleN h2 (br_t rfl ?_)
      unfold wpY_removeInheritance
      exact zy_roleY hR8 hs (br_t rfl (zy_roleN h2 (br_f (by decide) ⟨rfl, zi_mk _ K⟩)))
    · refine zx_roleY hR8 hj (br_f (by decide) ?_)
      have hY : ∀ post : Int32 → SY → Prop, ((bt (dj s) j = false → post (-3) (nI U, nI R, nI C, nI cn, wl, ed, asg, pm, rk, ra, rt, rp, rn, wr, wa, ef, dg, se, ok)) ∧ (bt (dj s) j = true → post 0 (nI U, nI R, nI C, nI cn, wl, upd ed (8 * s + j) 0, asg, pm, rk, ra, rt, rp, rn, wr, wa, ef, dg, se, ok))) → wpY_removeInheritance post (nI U, nI R, nI C, nI cn, wl, ed, asg, pm, rk, ra, rt, rp, rn, wr, wa, ef, dg, se, ok) (nI s) (nI j) := by
        intro post hp
        unfold wpY_removeInheritance
        refine zy_roleY hR8 hs (br_t rfl (zy_roleY hR8 hj (br_t rfl ?_)))
        rw [zi_ix, nI_clamp (by omega)]
        exact ⟨pk_in (8 * s + j) 64 (by omega), br_c (fun z => hp.1 ((zi_be (zi_ed2 H.2.2.1 (by omega) (by omega))).mp z)) (fun z => ⟨pk_in (8 * s + j) 64 (by omega), nm_r (by rw [zy_b0]) (hp.2 ((zi_ed2 H.2.2.1 (by omega) (by omega)).mp z))⟩)⟩
      refine ⟨pk_in s 8 (by omega), ?_⟩
      rw [nI_clamp (show s < 2 ^ 31 by omega)]
      refine zx_con (by omega) (zb_br _ (fun hb => ?_) (fun hb => ⟨pk_in s 8 (by omega), pk_in s 8 (by omega), nm_e ?_⟩))
      · refine hY _ ⟨fun _ => ⟨rfl, zi_mk _ K⟩, fun z => ?_⟩
        rw [hb] at z
        exact absurd z (by decide)
      · refine zx_reb hR8 (zi_djR H.2.1 hR8 hj) (fun cl' hcl => ?_)
        refine hY _ ⟨fun z => ?_, fun _ => ⟨rfl, zi_mk _ ⟨hU, hR, hC, hcn, hwl, ⟨hR8, zi_djR H.2.1 hR8 hj, zi_edR H.2.2.1 (by omega) (by omega), hcl⟩, ha, hr⟩⟩⟩
        rw [hb] at z
        exact absurd z (by decide)
theorem zi_16 {x : Int32} (h : nI 16 ≤ x) : ¬ x ≤ 15 := fun z => absurd (Int32.le_trans h z) (by decide)
theorem zi_15 {p : Nat} (h : p < 16) : nI p ≤ 15 := nI_le (b := 15) (by omega) (by decide)
theorem i_vc_grantPermission {k : Nat} {u : SX} {v : SY} (I : i_Rel k u v) (hk : k + 5 ≤ 2563) (v1 : Int32) (v2 : Int32) (v3 : Int32) : wpX_grantPermission (fun r u' => wpY_grantPermission (fun r' v' => r' = r ∧ i_Rel (k + 5) u' v') v v1 v2 (lw_bz v3)) u v1 v2 (lw_bz v3) := by
  obtain ⟨U, R, C, cn, wl, fc, dj, cl, pm, asg, rk, ra, rt, rp, rn, wr, wa, la, ds, pv, ar, fs, ed, ef, dg, se, ok, rfl, rfl, K⟩ := I
  obtain ⟨hU, hR, hC, hcn, hwl, H, ha, hr⟩ := id K
  have hR8 := hR.2
  unfold wpX_grantPermission
  rcases zi_io v1 (n := R) (by omega) with h1 | ⟨s, hs, rfl⟩
  · refine zx_roleN h1 (br_t rfl ?_)
    unfold wpY_grantPermission
    exact zy_roleN h1 (br_f (by decide) ⟨rfl, zi_mk _ K⟩)
  · refine zx_roleY hR8 hs (br_f (by decide) ?_)
    rcases zi_io v2 (n := 16) (by omega) with h2 | ⟨p, hp, rfl⟩
    · refine zi_no (n := 16) h2 (br_t rfl ?_)
      unfold wpY_grantPermission
      exact zy_roleY hR8 hs (br_t rfl (br_c (fun _ => ⟨rfl, zi_mk _ K⟩) (fun z => h2.elim (fun y => absurd y z) (fun y => br_f (zi_16 y) ⟨rfl, zi_mk _ K⟩))))
    · refine zi_ys (n := 16) (by omega) hp (br_f (by decide) ⟨pk_in s 8 (by omega), ?_⟩)
      rw [nI_clamp (show s < 2 ^ 31 by omega)]
      have hY : ∀ post : Int32 → SY → Prop, wY_grantPermission_38 post (nI s) (nI p) (lw_bz v3) (zb_i (bt (pm s) p)) (nI U) (nI R) (nI C) (nI cn) wl ed asg pm rk ra rt rp rn wr wa ef dg se ok → wpY_grantPermission post (nI U, nI R, nI C, nI cn, wl, ed, asg, pm, rk, ra, rt, rp, rn, wr, wa, ef, dg, se, ok) (nI s) (nI p) (lw_bz v3) := by
        intro post hp2
        unfold wpY_grantPermission
        refine zy_roleY hR8 hs (br_t rfl (br_f (nI_pos (by omega)) (br_t (zi_15 hp) ⟨pk_in s 8 (by omega), ?_⟩)))
        rw [nI_clamp (show s < 2 ^ 31 by omega)]
        refine br_c (fun y => ?_) (fun y => ?_)
        · rw [(zb_rs _ (by omega)).mp y] at hp2
          exact hp2
        · rw [zb_nf (fun w => y ((zb_rs _ (by omega)).mpr w))] at hp2
          exact hp2
      refine zx_con (by omega) (br_c (fun z => hY _ (br_t z ⟨rfl, zi_mk _ K⟩)) (fun z => ⟨pk_in s 8 (by omega), br_c (fun y => ⟨pk_in s 8 (by omega), nm_e (hY _ (br_f z (br_t y ⟨pk_in s 8 (by omega), pk_in s 8 (by omega), ?_⟩)))⟩) (fun y => ⟨pk_in s 8 (by omega), nm_e (hY _ (br_f z (br_f y ⟨pk_in s 8 (by omega), pk_in s 8 (by omega), ?_⟩)))⟩)⟩))
      · rw [nI_clamp (show s < 2 ^ 31 by omega)]
        exact nm_e ⟨rfl, zi_mk _ K⟩
      · rw [nI_clamp (show s < 2 ^ 31 by omega)]
        exact nm_e ⟨rfl, zi_mk _ K⟩
theorem zi_aset {U R w r : Nat} {asg : Nat → Int32} {x : Int32} (ha : ∀ v, v < U → ∀ j, R ≤ j → bt (asg v) j = false) (hx : ∀ j, R ≤ j → bt x j = false) : ∀ v, v < U → ∀ j, R ≤ j → bt (upd asg w x v) j = false := by
  intro v hv j hj
  by_cases e : v = w
  · rw [e, pk_us]
    exact hx j hj
  · rw [pk_un e]
    exact ha v hv j hj
theorem i_vc_setAssigned {k : Nat} {u : SX} {v : SY} (I : i_Rel k u v) (hk : k + 5 ≤ 2563) (v1 : Int32) (v2 : Int32) (v3 : Int32) : wpX_setAssigned (fun r u' => wpY_setAssigned (fun r' v' => r' = r ∧ i_Rel (k + 5) u' v') v v1 v2 (lw_bz v3)) u v1 v2 (lw_bz v3) := by
  obtain ⟨U, R, C, cn, wl, fc, dj, cl, pm, asg, rk, ra, rt, rp, rn, wr, wa, la, ds, pv, ar, fs, ed, ef, dg, se, ok, rfl, rfl, K⟩ := I
  obtain ⟨hU, hR, hC, hcn, hwl, H, ha, hr⟩ := id K
  have hR8 := hR.2
  have hU8 := hU.2
  unfold wpX_setAssigned
  rcases zi_io v1 (n := U) (by omega) with h1 | ⟨s, hs, rfl⟩
  · refine zx_userN h1 (br_t rfl ?_)
    unfold wpY_setAssigned
    exact zy_userN h1 (br_f (by decide) ⟨rfl, zi_mk _ K⟩)
  · refine zx_userY hU8 hs (br_f (by decide) ?_)
    rcases zi_io v2 (n := R) (by omega) with h2 | ⟨p, hp, rfl⟩
    · refine zx_roleN h2 (br_t rfl ?_)
      unfold wpY_setAssigned
      exact zy_userY hU8 hs (br_t rfl (zy_roleN h2 (br_f (by decide) ⟨rfl, zi_mk _ K⟩)))
    · refine zx_roleY hR8 hp (br_f (by decide) ⟨pk_in s 8 (by omega), ?_⟩)
      rw [nI_clamp (show s < 2 ^ 31 by omega)]
      have hY : ∀ post : Int32 → SY → Prop, wY_setAssigned_36 post (nI s) (nI p) (lw_bz v3) (zb_i (bt (asg s) p)) (nI U) (nI R) (nI C) (nI cn) wl ed asg pm rk ra rt rp rn wr wa ef dg se ok → wpY_setAssigned post (nI U, nI R, nI C, nI cn, wl, ed, asg, pm, rk, ra, rt, rp, rn, wr, wa, ef, dg, se, ok) (nI s) (nI p) (lw_bz v3) := by
        intro post hp2
        unfold wpY_setAssigned
        refine zy_userY hU8 hs (br_t rfl (zy_roleY hR8 hp (br_t rfl ⟨pk_in s 8 (by omega), ?_⟩)))
        rw [nI_clamp (show s < 2 ^ 31 by omega)]
        refine br_c (fun y => ?_) (fun y => ?_)
        · rw [(zb_rs _ (by omega)).mp y] at hp2
          exact hp2
        · rw [zb_nf (fun w => y ((zb_rs _ (by omega)).mpr w))] at hp2
          exact hp2
      refine zx_con (by omega) (br_c (fun z => hY _ (br_t z ⟨rfl, zi_mk _ K⟩)) (fun z => ⟨pk_in s 8 (by omega), br_c (fun y => ⟨pk_in s 8 (by omega), nm_e (hY _ (br_f z (br_t y ⟨pk_in s 8 (by omega), pk_in s 8 (by omega), ?_⟩)))⟩) (fun y => ⟨pk_in s 8 (by omega), nm_e (hY _ (br_f z (br_f y ⟨pk_in s 8 (by omega), pk_in s 8 (by omega), ?_⟩)))⟩)⟩))
      · rw [nI_clamp (show s < 2 ^ 31 by omega)]
        refine nm_e ⟨rfl, zi_mk _ ⟨hU, hR, hC, hcn, hwl, H, zi_aset (r := 0) ha (fun j hj => ?_), hr⟩⟩
        rw [zb_clr _ (by omega), ha s hs j hj, Bool.false_and]
      · rw [nI_clamp (show s < 2 ^ 31 by omega)]
        refine nm_e ⟨rfl, zi_mk _ ⟨hU, hR, hC, hcn, hwl, H, zi_aset (r := 0) ha (fun j hj => ?_), hr⟩⟩
        rw [zb_set _ (by omega), ha s hs j hj, decide_eq_false (by omega), Bool.or_self]
