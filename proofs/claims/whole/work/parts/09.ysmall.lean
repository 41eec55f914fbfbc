def zi_h (R : Nat) (dj cl ed : Nat → Int32) : Prop := R ≤ 8 ∧ zi_dj R dj ∧ zi_ed dj ed ∧ zi_cl R dj cl
theorem zy_b0 : vp_nar .boolean 0 = 0 := rfl
theorem zy_b1 : vp_nar .boolean 1 = 1 := rfl
theorem zy_sh8 {k : Nat} (h : k < 2 ^ 31) : nI k >>> ((3 : Int32) &&& 31) = nI (k / 8) := pk_shrN h _ 3 (by decide)
theorem zy_an8 {k : Nat} (h : k < 2 ^ 31) : nI k &&& 7 = nI (k % 8) := pk_andN (by omega) 3 (by decide)
theorem zy_sh16 {k : Nat} (h : k < 2 ^ 31) : nI k >>> ((4 : Int32) &&& 31) = nI (k / 16) := pk_shrN h _ 4 (by decide)
theorem zy_an16 {k : Nat} (h : k < 2 ^ 31) : nI k &&& 15 = nI (k % 16) := pk_andN (by omega) 4 (by decide)
theorem zy_full : ∀ R, R < 9 → (1 : Int32) <<< (nI R &&& 31) = nI (2 ^ R) := by decide +kernel
theorem zy_m16 (a : Nat) : nI a * 16 = nI (a * 16) := (Int32.ofNat_mul a 16).symm
theorem zy_ln {u a : Nat} {cl asg : Nat → Int32} {U R : Nat} (hU : U ≤ 8) : zl_f (fun v => !decide (v = u) && bt (zx_ex cl (asg v) R) a) U 0 < 0 ↔ zl_f (fun v => !decide (v = u) && bt (zx_ex cl (asg v) R) a) U 0 = -1 := by
  rcases zl_in (fun v => !decide (v = u) && bt (zx_ex cl (asg v) R) a) U 0 with e | ⟨v, hv, _, e⟩
  · rw [e]
    exact ⟨fun _ => rfl, fun _ => by decide⟩
  · rw [e]
    exact ⟨fun z => absurd z (nI_pos (by omega)), fun z => absurd z (zs_m1 (by omega))⟩
section
variable {U R C cn : Nat} {wl : Int32} {ed asg pm rk ra rt rp rn wr wa ef dg se ok : Nat → Int32} {dj cl : Nat → Int32}
theorem zy_roleN {post : Int32 → Prop} {x : Int32} (h : zi_o R x) (hp : post 1) : wpY_badRole post (nI U, nI R, nI C, nI cn, wl, ed, asg, pm, rk, ra, rt, rp, rn, wr, wa, ef, dg, se, ok) x :=
  br_c (fun _ => hp) (fun z => h.elim (fun y => absurd y z) (fun y => br_f (Int32.not_lt.mpr y) hp))
theorem zy_roleY {post : Int32 → Prop} {j : Nat} (hR : R ≤ 8) (h : j < R) (hp : post 0) : wpY_badRole post (nI U, nI R, nI C, nI cn, wl, ed, asg, pm, rk, ra, rt, rp, rn, wr, wa, ef, dg, se, ok) (nI j) :=
  br_f (nI_pos (by omega)) (br_t (nI_lt h (by omega)) hp)
theorem zy_userN {post : Int32 → Prop} {x : Int32} (h : zi_o U x) (hp : post 1) : wpY_badUser post (nI U, nI R, nI C, nI cn, wl, ed, asg, pm, rk, ra, rt, rp, rn, wr, wa, ef, dg, se, ok) x :=
  br_c (fun _ => hp) (fun z => h.elim (fun y => absurd y z) (fun y => br_f (Int32.not_lt.mpr y) hp))
theorem zy_userY {post : Int32 → Prop} {j : Nat} (hU : U ≤ 8) (h : j < U) (hp : post 0) : wpY_badUser post (nI U, nI R, nI C, nI cn, wl, ed, asg, pm, rk, ra, rt, rp, rn, wr, wa, ef, dg, se, ok) (nI j) :=
  br_f (nI_pos (by omega)) (br_t (nI_lt h (by omega)) hp)
theorem zy_clo {post : Int32 → Prop} {r : Nat} (H : zi_h R dj cl ed) (hr : r < R) (h : post (cl r)) : wpY_closure post (nI U, nI R, nI C, nI cn, wl, ed, asg, pm, rk, ra, rt, rp, rn, wr, wa, ef, dg, se, ok) (nI r) := by
  obtain ⟨hR, hd, he, hc⟩ := H
  have I : ∀ (d k m p : Nat) (J : Int32 → Int32 → Prop) (s0 s : Int32), k + d = 64 → d < m → zk_yk R dj ed r s0 s k → (∀ s', zk_yk R dj ed r s0 s' 64 → J s' (nI (p + 1))) → wY_closure_15 post J (nI p) (nI U) (nI R) (nI C) (nI cn) wl ed asg pm rk ra rt rp rn wr wa ef dg se ok m s (nI k) := by
    intro d
    induction d with
    | zero =>
      intro k m p J s0 s hk hm hv hJ
      obtain ⟨m, rfl⟩ : ∃ x, m = x + 1 := ⟨m - 1, by omega⟩
      have e : k = 64 := by omega
      subst e
      exact pk_le 64 64 (fun _ => nm_r (nI_1 p) (hJ s hv)) (fun z => absurd z (by omega))
    | succ d ih =>
      intro k m p J s0 s hk hm hv hJ
      obtain ⟨m, rfl⟩ : ∃ x, m = x + 1 := ⟨m - 1, by omega⟩
      refine pk_le 64 k (fun z => absurd z (by omega)) (fun _ => ⟨pk_in k 64 (by omega), ?_⟩)
      rw [nI_clamp (show k < 2 ^ 31 by omega), zy_sh8 (by omega), zy_an8 (by omega)]
      refine br_c (fun z => nm_r (nI_1 k) (ih (k + 1) m p J s0 s (by omega) (by omega) (zk_yskip hv (fun y => absurd z y)) hJ)) (fun z => br_c (fun y => ?_) (fun y => ?_))
      · exact nm_r (nI_1 k) (ih (k + 1) m p J s0 s (by omega) (by omega) (zk_yskip hv (fun _ => (zb_rs s (by omega)).mp y)) hJ)
      · exact nm_e (nm_r (nI_1 k) (ih (k + 1) m p J s0 _ (by omega) (by omega) (zk_yset hd he (by omega) hv z (zb_nf (fun w => y ((zb_rs s (by omega)).mpr w)))) hJ))
  have O : ∀ (d p m : Nat) (s : Int32), p + d = 8 → d < m → zk_ys R dj r s p → wY_closure_6 post (nI U) (nI R) (nI C) (nI cn) wl ed asg pm rk ra rt rp rn wr wa ef dg se ok m s (nI p) := by
    intro d
    induction d with
    | zero =>
      intro p m s hp hm hv
      obtain ⟨m, rfl⟩ : ∃ x, m = x + 1 := ⟨m - 1, by omega⟩
      have e : p = 8 := by omega
      subst e
      refine pk_le 8 8 (fun _ => ?_) (fun z => absurd z (by omega))
      rw [zk_yv hR hd hR hr hc hv]
      exact h
    | succ d ih =>
      intro p m s hp hm hv
      obtain ⟨m, rfl⟩ : ∃ x, m = x + 1 := ⟨m - 1, by omega⟩
      refine pk_le 8 p (fun z => absurd z (by omega)) (fun _ => ⟨65, ?_⟩)
      exact I 64 0 65 p _ s s (by omega) (by omega) (zk_yb hv) (fun s' hs' => ih (p + 1) m s' (by omega) (by omega) (zk_yend hR hd he hv hs'))
  exact nm_e ⟨9, O 8 0 9 _ (by omega) (by omega) (zk_y0 (by omega))⟩
theorem zy_eff {post : Int32 → Prop} {s : Int32} (H : zi_h R dj cl ed) (h : post (zx_ex cl s R)) : wpY_eff post (nI U, nI R, nI C, nI cn, wl, ed, asg, pm, rk, ra, rt, rp, rn, wr, wa, ef, dg, se, ok) s := by
  have hR := H.1
  have L : ∀ d r n : Nat, r + d = R → d < n → wY_eff_4 post s (nI U) (nI R) (nI C) (nI cn) wl ed asg pm rk ra rt rp rn wr wa ef dg se ok n (zx_ex cl s r) (nI r) := by
    intro d
    induction d with
    | zero =>
      intro r n hr hn
      obtain ⟨n, rfl⟩ : ∃ m, n = m + 1 := ⟨n - 1, by omega⟩
      have e : r = R := by omega
      rw [e]
      exact pk_le R R (fun _ => h) (fun z => absurd z (by omega))
    | succ d ih =>
      intro r n hr hn
      obtain ⟨n, rfl⟩ : ∃ m, n = m + 1 := ⟨n - 1, by omega⟩
      have i := ih (r + 1) n (by omega) (by omega)
      refine pk_le R r (fun z => absurd z (by omega)) (fun _ => ?_)
      by_cases hb : bt s r = true
      · have e : zx_ex cl s (r + 1) = zx_ex cl s r ||| cl r := if_pos hb
        rw [e] at i
        refine br_f (fun z => by rw [(zb_rs s (by omega)).mp z] at hb; exact absurd hb (by decide)) (zy_clo H (by omega) ?_)
        exact nm_e (nm_r (nI_1 r) i)
      · have e : zx_ex cl s (r + 1) = zx_ex cl s r := if_neg hb
        rw [e] at i
        exact br_t ((zb_rs s (by omega)).mpr (zb_nt hb)) (nm_r (nI_1 r) i)
  exact ⟨R + 1, L R 0 (R + 1) (by omega) (by omega)⟩
theorem zy_adm {post : Int32 → Prop} {u a : Nat} (H : zi_h R dj cl ed) (hU : U ≤ 8) (hu : u < U) (ha : a < 32) (h : post (zl_f (fun v => !decide (v = u) && bt (zx_ex cl (asg v) R) a) U 0)) : wpY_adminUser post (nI U, nI R, nI C, nI cn, wl, ed, asg, pm, rk, ra, rt, rp, rn, wr, wa, ef, dg, se, ok) (nI u) (nI a) := by
  have L : ∀ d v n : Nat, v + d = U → d < n → post (zl_f (fun v => !decide (v = u) && bt (zx_ex cl (asg v) R) a) d v) → wY_adminUser_2 post (nI u) (nI a) (nI U) (nI R) (nI C) (nI cn) wl ed asg pm rk ra rt rp rn wr wa ef dg se ok n (nI v) := by
    intro d
    induction d with
    | zero =>
      intro v n hv hn hp
      obtain ⟨n, rfl⟩ : ∃ m, n = m + 1 := ⟨n - 1, by omega⟩
      have e : v = U := by omega
      rw [e]
      exact pk_le U U (fun _ => hp) (fun z => absurd z (by omega))
    | succ d ih =>
      intro v n hv hn hp
      obtain ⟨n, rfl⟩ : ∃ m, n = m + 1 := ⟨n - 1, by omega⟩
      have ih2 : ((fun v => !decide (v = u) && bt (zx_ex cl (asg v) R) a) v = false) → wY_adminUser_2 post (nI u) (nI a) (nI U) (nI R) (nI C) (nI cn) wl ed asg pm rk ra rt rp rn wr wa ef dg se ok n (nI (v + 1)) := by
        intro hg
        refine ih (v + 1) n (by omega) (by omega) ?_
        have e2 : zl_f (fun v => !decide (v = u) && bt (zx_ex cl (asg v) R) a) (d + 1) v = zl_f (fun v => !decide (v = u) && bt (zx_ex cl (asg v) R) a) d (v + 1) := if_neg (by rw [hg]; decide)
        rw [e2] at hp
        exact hp
      refine pk_le U v (fun z => absurd z (by omega)) (fun _ => pk_eq v u (fun z => ?_) (fun z => ⟨pk_in v 8 (by omega), ?_⟩))
      · refine nm_r (nI_1 v) (ih2 ?_)
        dsimp only
        rw [decide_eq_true z]
        rfl
      · rw [nI_clamp (show v < 2 ^ 31 by omega)]
        refine zy_eff H (br_c (fun y => nm_r (nI_1 v) (ih2 ?_)) (fun y => ?_))
        · dsimp only
          rw [(zb_rs _ ha).mp y, Bool.and_false]
        · have hb := zb_nf (fun w => y ((zb_rs _ ha).mpr w))
          have e2 : zl_f (fun v => !decide (v = u) && bt (zx_ex cl (asg v) R) a) (d + 1) v = nI v := if_pos (by dsimp only; rw [hb, decide_eq_false z]; rfl)
          rw [e2] at hp
          exact hp
  exact ⟨U + 1, L U 0 (U + 1) (by omega) (by omega) h⟩
theorem zy_prep {post : SY → Prop} {u : Nat} (H : zi_h R dj cl ed) (hU : U ≤ 8) (hc : cn ≤ 16) (hr : zi_ru cn R ra rt) (hu : u < U) (h : ∀ ef ok : Nat → Int32, (∀ s, s < 256 → ef s = zr_ef cl R s) → (∀ i, i < 16 → (¬ ok i = 0 ↔ (i < cn ∧ ¬ zl_a U R u cl asg ra i = -1))) → post (nI U, nI R, nI C, nI cn, wl, ed, asg, pm, rk, ra, rt, rp, rn, wr, wa, ef, dg, se, ok)) : wpY_prepare post (nI U, nI R, nI C, nI cn, wl, ed, asg, pm, rk, ra, rt, rp, rn, wr, wa, ef, dg, se, ok) (nI u) := by
  have L2 : ∀ (d i m : Nat) (ef ok : Nat → Int32), i + d = 16 → d < m → (∀ s, s < 256 → ef s = zr_ef cl R s) → (∀ x, x < i → (¬ ok x = 0 ↔ (x < cn ∧ ¬ zl_a U R u cl asg ra x = -1))) → wY_prepare_28 post (nI u) (nI U) (nI R) (nI C) (nI cn) wl m (nI i) ed asg pm rk ra rt rp rn wr wa ef dg se ok := by
    intro d
    induction d with
    | zero =>
      intro i m ef ok hi hm hef hok
      obtain ⟨m, rfl⟩ : ∃ x, m = x + 1 := ⟨m - 1, by omega⟩
      have e : i = 16 := by omega
      subst e
      exact pk_le 16 16 (fun _ => h ef ok hef hok) (fun z => absurd z (by omega))
    | succ d ih =>
      intro i m ef ok hi hm hef hok
      obtain ⟨m, rfl⟩ : ∃ x, m = x + 1 := ⟨m - 1, by omega⟩
      have nx : ∀ b : Int32, (¬ b = 0 ↔ (i < cn ∧ ¬ zl_a U R u cl asg ra i = -1)) → wY_prepare_28 post (nI u) (nI U) (nI R) (nI C) (nI cn) wl m (nI (i + 1)) ed asg pm rk ra rt rp rn wr wa ef dg se (upd ok i b) := by
        intro b hb
        refine ih (i + 1) m ef _ (by omega) (by omega) hef (fun x hx => ?_)
        by_cases e : x = i
        · rw [e, pk_us]
          exact hb
        · rw [pk_un e]
          exact hok x (by omega)
      refine pk_le 16 i (fun z => absurd z (by omega)) (fun _ => pk_le cn i (fun z => ⟨pk_in i 16 (by omega), ?_⟩) (fun z => ⟨pk_in i 16 (by omega), ?_⟩))
      · rw [nI_clamp (show i < 2 ^ 31 by omega)]
        exact nm_e (nm_r (nI_1 i) (nx _ (by rw [zy_b0]; exact ⟨fun w => absurd rfl w, fun w => absurd w.1 (by omega)⟩)))
      · obtain ⟨⟨a, ha, ea⟩, _⟩ := hr i z
        have hR := H.1
        have ez : zl_a U R u cl asg ra i = zl_f (fun v => !decide (v = u) && bt (zx_ex cl (asg v) R) a) U 0 := by
          unfold zl_a
          rw [ea, nI_clamp (show a < 2 ^ 31 by omega)]
        rw [nI_clamp (show i < 2 ^ 31 by omega), ea]
        refine zy_adm H hU hu (by omega) (br_c (fun y => ⟨pk_in i 16 (by omega), ?_⟩) (fun y => ⟨pk_in i 16 (by omega), ?_⟩))
        · exact nm_e (nm_r (nI_1 i) (nx _ (by rw [zy_b0, ez]; exact ⟨fun w => absurd rfl w, fun w => absurd ((zy_ln hU).mp y) w.2⟩)))
        · exact nm_e (nm_r (nI_1 i) (nx _ (by rw [zy_b1, ez]; exact ⟨fun _ => ⟨z, fun w => y ((zy_ln hU).mpr w)⟩, fun _ => by decide⟩)))
  have L1 : ∀ (d s m : Nat) (ef : Nat → Int32), s + d = 256 → d < m → (∀ x, x < s → ef x = zr_ef cl R x) → wY_prepare_2 post (nI u) (nI U) (nI R) (nI C) (nI cn) wl m (nI s) ed asg pm rk ra rt rp rn wr wa ef dg se ok := by
    intro d
    induction d with
    | zero =>
      intro s m ef hs hm hef
      obtain ⟨m, rfl⟩ : ∃ x, m = x + 1 := ⟨m - 1, by omega⟩
      have e : s = 256 := by omega
      subst e
      exact pk_le 256 256 (fun _ => ⟨17, L2 16 0 17 ef ok (by omega) (by omega) hef (fun x hx => absurd hx (Nat.not_lt_zero x))⟩) (fun z => absurd z (by omega))
    | succ d ih =>
      intro s m ef hs hm hef
      obtain ⟨m, rfl⟩ : ∃ x, m = x + 1 := ⟨m - 1, by omega⟩
      refine pk_le 256 s (fun z => absurd z (by omega)) (fun _ => zy_eff H ⟨pk_in s 256 (by omega), ?_⟩)
      rw [nI_clamp (show s < 2 ^ 31 by omega)]
      refine nm_e (nm_r (nI_1 s) (ih (s + 1) m _ (by omega) (by omega) (fun x hx => ?_)))
      by_cases e : x = s
      · rw [e, pk_us]
        rfl
      · rw [pk_un e]
        exact hef x (by omega)
  exact ⟨257, L1 256 0 257 ef (by omega) (by omega) (fun x hx => absurd hx (Nat.not_lt_zero x))⟩
theorem zy_apl {post : Int32 → Prop} {l : Nat → Int32} {s i : Nat} (hR : R ≤ 8) (hc : cn ≤ 16) (hr : zi_ru cn R ra rt) (hef : ∀ s, s < 256 → ef s = zr_ef cl R s) (hok : ∀ i, i < 16 → (¬ ok i = 0 ↔ (i < cn ∧ ¬ l i = -1))) (hs : s < 2 ^ R) (hi : i < 16)
    (h1 : zr_ap cn R cl l rk rt rp rn s i → post 1) (h0 : ¬ zr_ap cn R cl l rk rt rp rn s i → post 0) : wpY_applicable post (nI U, nI R, nI C, nI cn, wl, ed, asg, pm, rk, ra, rt, rp, rn, wr, wa, ef, dg, se, ok) (nI s) (nI i) := by
  have h8 := zb_p8 hR
  refine br_f (nI_pos (by omega)) (pk_le cn i (fun z => h0 (fun a => absurd a.1 (by omega))) (fun z => ⟨pk_in i 16 hi, ?_⟩))
  rw [nI_clamp (show i < 2 ^ 31 by omega), zb_255 (show s < 256 by omega), nI_clamp (show s < 2 ^ 31 by omega), hef s (by omega)]
  obtain ⟨_, t, ht, et⟩ := hr i z
  have ett : (rt i).toNatClampNeg = t := by rw [et, nI_clamp (by omega)]
  refine br_c (fun y => h0 (fun a => absurd y ((hok i hi).mpr ⟨a.1, a.2.1⟩))) (fun y => ⟨pk_in s 256 (by omega), nm_e ⟨pk_in i 16 hi, pk_in i 16 hi, br_c (fun y1 => ⟨pk_in i 16 hi, br_c (fun y2 => ⟨pk_in i 16 hi, ?_⟩) (fun y2 => h0 (fun a => y2 a.2.2.2.1))⟩) (fun y1 => h0 (fun a => y1 a.2.2.1))⟩⟩)
  have hl := ((hok i hi).mp y).2
  rw [et]
  unfold wY_applicable_82
  rw [nI_clamp (show i < 2 ^ 31 by omega)]
  refine br_c (fun y3 => ⟨pk_in i 16 hi, ?_⟩) (fun y3 => ⟨pk_in i 16 hi, ?_⟩)
  · have hb := (zb_rs (nI s) (l := t) (by omega)).mp y3
    refine br_c (fun k1 => br_t rfl (h1 ⟨z, hl, y1, y2, ?_⟩)) (fun k1 => ⟨rfl, h0 (fun a => ?_)⟩)
    · rw [ett, hb, show decide (¬ rk i = 1) = false from decide_eq_false (fun w => w k1)]
    · have w := a.2.2.2.2
      rw [ett, hb, decide_eq_true k1] at w
      exact absurd w (by decide)
  · have hb := zb_nf (fun w => y3 ((zb_rs (nI s) (l := t) (by omega)).mpr w))
    refine br_c (fun k1 => br_f (by decide) (h0 (fun a => ?_))) (fun k1 => ⟨rfl, h1 ⟨z, hl, y1, y2, ?_⟩⟩)
    · have w := a.2.2.2.2
      rw [ett, hb, show decide (¬ rk i = 1) = false from decide_eq_false (fun w => w k1)] at w
      exact absurd w (by decide)
    · rw [ett, hb, decide_eq_true k1]
theorem zy_app {post : Int32 → Prop} {s i t : Nat} (hR : R ≤ 8) (hs : s < 2 ^ R) (hi : i < 16) (ht : t < R) (et : rt i = nI t) (h : post (nI (zr_go rk rt s i))) : wpY_apply post (nI U, nI R, nI C, nI cn, wl, ed, asg, pm, rk, ra, rt, rp, rn, wr, wa, ef, dg, se, ok) (nI s) (nI i) := by
  have h8 := zb_p8 hR
  obtain ⟨e, hl⟩ := zr_goE (rk := rk) hR ht et hs
  have e2 := zb_255 (show zr_go rk rt s i < 256 by omega)
  refine ⟨pk_in i 16 hi, ?_⟩
  rw [nI_clamp (show i < 2 ^ 31 by omega)]
  unfold zr_x at e
  refine br_c (fun y => ⟨pk_in i 16 hi, ?_⟩) (fun y => ⟨pk_in i 16 hi, ?_⟩)
  · rw [if_pos y] at e
    rw [← e, e2]
    exact h
  · rw [if_neg y] at e
    rw [← e, e2]
    exact h
end
