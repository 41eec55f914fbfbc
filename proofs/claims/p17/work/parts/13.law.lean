section
variable {U R C cn : Nat} {wl fc : Int32} {dj cl pm asg rk ra rt rp rn wr wa la ds pv ar fs : Nat → Int32} {post : Int32 → Prop} {L kc ks u g st : Nat} {xs : Nat → Int32}
theorem zq_391 {J363 : Int32 → Int32 → Prop} {x4 x8 x9 : Int32} {i a : Nat} (hR : R ≤ 8) (hU : U ≤ 8) (ha : a < 32) (hi : i < 32)
    (hJ : ∀ x, (∀ b, bt x b = true ↔ (bt x9 b = true ∨ (b = i ∧ ∃ w, w < U ∧ w ≠ u ∧ bt (zx_ex cl (asg w) R) a = true))) → J363 x (nI (i + 1))) (hu : u < U) :
    ∀ (f v m : Nat) (x : Int32), v + f = U → f < m → (∀ b, bt x b = true ↔ (bt x9 b = true ∨ (b = i ∧ ∃ w, w < v ∧ w ≠ u ∧ bt (zx_ex cl (asg w) R) a = true))) → wL_law_391 post L xs J363 (nI U) (nI R) (nI cn) x4 (nI u) (nI g) x8 (nI i) (nI a) kc ks (nI U) (nI R) (nI C) (nI cn) wl fc dj cl pm asg rk ra rt rp rn wr wa la ds pv ar fs m x (nI v) := by
  intro f
  induction f with
  | zero =>
    intro v m x hv hm hx
    obtain ⟨m, rfl⟩ : ∃ z, m = z + 1 := ⟨m - 1, by omega⟩
    have e : v = U := by omega
    rw [e] at hx ⊢
    exact pk_le U U (fun _ => nm_r (nI_1 i) (hJ x hx)) (fun z => absurd z (by omega))
  | succ f ih =>
    intro v m x hv hm hx
    obtain ⟨m, rfl⟩ : ∃ z, m = z + 1 := ⟨m - 1, by omega⟩
    have skip : ¬ (v ≠ u ∧ bt (zx_ex cl (asg v) R) a = true) → wL_law_391 post L xs J363 (nI U) (nI R) (nI cn) x4 (nI u) (nI g) x8 (nI i) (nI a) kc ks (nI U) (nI R) (nI C) (nI cn) wl fc dj cl pm asg rk ra rt rp rn wr wa la ds pv ar fs m x (nI (v + 1)) := by
      intro hn
      refine ih (v + 1) m x (by omega) (by omega) (fun b => ?_)
      rw [hx b]
      constructor
      · rintro (z | ⟨z, w, k1, k2⟩)
        · exact Or.inl z
        · exact Or.inr ⟨z, w, by omega, k2⟩
      · rintro (z | ⟨z, w, k1, k2⟩)
        · exact Or.inl z
        · by_cases e : w = v
          · rw [e] at k2
            exact absurd k2 hn
          · exact Or.inr ⟨z, w, by omega, k2⟩
    refine pk_le U v (fun z => absurd z (by omega)) (fun _ => pk_eq v u (fun e => nm_r (nI_1 v) (skip (fun z => z.1 e))) (fun e => zx_efr hR hU (by omega) (zq_ub _ ha (fun hb => nm_r (nI_1 v) (skip (fun z => ?_))) (fun hb => nm_e (nm_r (nI_1 v) (ih (v + 1) m _ (by omega) (by omega) (fun b => ?_)))))))
    · have w := z.2
      rw [hb] at w
      exact absurd w (by decide)
    · rw [zb_set _ hi, Bool.or_eq_true, hx b]
      constructor
      · rintro ((z | ⟨z, w, k1, k2⟩) | z)
        · exact Or.inl z
        · exact Or.inr ⟨z, w, by omega, k2⟩
        · exact Or.inr ⟨of_decide_eq_true z, v, by omega, e, hb⟩
      · rintro (z | ⟨z, _⟩)
        · exact Or.inl (Or.inl z)
        · exact Or.inr (decide_eq_true z)
theorem zq_363 {x8 : Int32} (hL : L ≤ 260) (h0 : 0 < R) (hR : R ≤ 5) (hU : U ≤ 8) (hc : cn ≤ 6) (hu : u < U) (hg : g < R) (hst : st < 2 ^ R) (eu : asg u = nI st) (hrl : zq_rl L xs cn R rk ra rt rp rn) (h1 : post 1)
    (hA : zq_A U R cn u g st x8 wl cl asg rk ra rt rp rn wr wa) :
    ∀ (f i m : Nat) (x : Int32), i + f = cn → f < m → (∀ b, bt x b = true ↔ (b < i ∧ ¬ (zl_a U R u cl asg ra) b = -1)) → wL_law_363 post L xs (nI U) (nI R) (nI cn) (nI (2 ^ R - 1)) (nI u) (nI g) x8 kc ks (nI U) (nI R) (nI C) (nI cn) wl fc dj cl pm asg rk ra rt rp rn wr wa la ds pv ar fs m x (nI i) := by
  intro f
  have h5 : 2 ^ R ≤ 32 := Nat.pow_le_pow_right (n := 2) (by omega) hR
  have hru := zq_rru h0 hR hrl
  induction f with
  | zero =>
    intro i m x hi hm hx
    obtain ⟨m, rfl⟩ : ∃ z, m = z + 1 := ⟨m - 1, by omega⟩
    have e : i = cn := by omega
    rw [e] at hx ⊢
    refine pk_le cn cn (fun _ => zx_exp hU hu ?_) (fun z => absurd z (by omega))
    rw [eu]
    refine br_f (nI_pos (by omega)) (pk_le st (2 ^ R - 1) (fun _ => nm_e ⟨35, ?_⟩) (fun z => absurd z (by omega)))
    refine zq_482 hL h0 hR hU hc hu hg hst eu hrl (fun j hj => ?_) h1 hA 34 0 35 _ _ (-1) 0 (by omega) (by omega) (fun s => ?_) (fun s => ?_) (Or.inl ⟨rfl, fun s hs => hs.elim⟩) (fun b => ?_)
    · rw [hx j]
      exact ⟨fun z => z.2, fun z => ⟨hj, z⟩⟩
    · rw [zb_sh (by omega), decide_eq_true_iff]
      exact ⟨fun z => z.symm, fun z => Eq.symm z⟩
    · rw [zb_sh (by omega), decide_eq_true_iff]
      exact ⟨fun z => ⟨z.symm, fun w => w.elim⟩, fun z => Eq.symm z.1⟩
    · rw [b_0]
      exact ⟨fun z => absurd z (by decide), fun ⟨s, k, _⟩ => k.elim⟩
  | succ f ih =>
    intro i m x hi hm hx
    obtain ⟨m, rfl⟩ : ∃ z, m = z + 1 := ⟨m - 1, by omega⟩
    have hic : i < cn := by omega
    obtain ⟨_, e2, _⟩ := hrl i hic
    have ha := (zq_mE ((zq_c L xs (13 + 2 * i)).toUInt32 >>> ((1 : Int32).toUInt32 &&& Int32.toUInt32 31)).toInt32 h0 (show R < 256 by omega)).2
    refine pk_le cn i (fun z => absurd z (by omega)) (fun _ => zq_cell (13 + 2 * i) hL (by omega) (zq_i2 13 i) (zq_mm R h0 (by omega) rfl ⟨U + 1, ?_⟩))
    generalize zq_m ((zq_c L xs (13 + 2 * i)).toUInt32 >>> ((1 : Int32).toUInt32 &&& Int32.toUInt32 31)).toInt32 R = a at e2 ha ⊢
    refine zq_391 (x9 := x) (show R ≤ 8 by omega) hU (by omega) (by omega) (fun y hy => ih (i + 1) m y (by omega) (by omega) (fun b => ?_)) hu U 0 (U + 1) x (by omega) (by omega) (fun b => ?_)
    · have hl : ¬ (zl_a U R u cl asg ra) i = -1 ↔ ∃ w, w < U ∧ w ≠ u ∧ bt (zx_ex cl (asg w) R) a = true := by
        unfold zl_a
        rw [e2, nI_clamp (show a < 2 ^ 31 by omega), zl_ne _ U 0 (by omega)]
        constructor
        · intro ⟨v, _, k2, k3⟩
          rw [Bool.and_eq_true] at k3
          refine ⟨v, by omega, fun z => ?_, k3.2⟩
          rw [decide_eq_true z] at k3
          exact absurd k3.1 (by decide)
        · intro ⟨v, k1, k2, k3⟩
          refine ⟨v, Nat.zero_le _, by omega, ?_⟩
          rw [k3, decide_eq_false k2]
          rfl
      rw [hy b, hx b, ← hl]
      constructor
      · rintro (⟨k1, k2⟩ | ⟨k1, k2⟩)
        · exact ⟨by omega, k2⟩
        · rw [k1]
          exact ⟨by omega, k2⟩
      · intro ⟨k1, k2⟩
        by_cases e : b = i
        · rw [e] at k2
          exact Or.inr ⟨e, k2⟩
        · exact Or.inl ⟨by omega, k2⟩
    · constructor
      · exact Or.inl
      · rintro (z | ⟨_, w, k, _⟩)
        · exact z
        · exact absurd k (Nat.not_lt_zero w)
theorem zq_270 (hL : L ≤ 260) (h0 : 0 < R) (hR : R ≤ 5) (hU0 : 0 < U) (hU : U ≤ 8) (hc0 : 0 < cn) (hc : cn ≤ 6) (hrl : zq_rl L xs cn R rk ra rt rp rn) (h1 : post 1) :
    ∀ (f k m : Nat) (asg : Nat → Int32), k + f = 4 → f < m → zi_as U R asg → wL_law_270 post L xs (nI U) (nI R) (nI cn) (nI (2 ^ R - 1)) kc ks m (nI k) (nI U) (nI R) (nI C) (nI cn) wl fc dj cl pm asg rk ra rt rp rn wr wa la ds pv ar fs := by
  intro f
  have hru := zq_rru h0 hR hrl
  induction f with
  | zero =>
    intro k m asg hk hm has
    obtain ⟨m, rfl⟩ : ∃ z, m = z + 1 := ⟨m - 1, by omega⟩
    have e : k = 4 := by omega
    subst e
    refine pk_le 4 4 (fun _ => zq_cell 29 hL (by omega) rfl (zq_mm U hU0 (by omega) rfl (zq_cell 30 hL (by omega) rfl (zq_mm R h0 (by omega) rfl ?_)))) (fun z => absurd z (by omega))
    have hu := (zq_mE (zq_c L xs 29) hU0 (show U < 256 by omega)).2
    have hg := (zq_mE (zq_c L xs 30) h0 (show R < 256 by omega)).2
    generalize zq_m (zq_c L xs 29) U = u at hu ⊢
    generalize zq_m (zq_c L xs 30) R = g at hg ⊢
    obtain ⟨st, hst, eu⟩ := zb_of (has u hu)
    refine zx_analyse (show R ≤ 8 by omega) hU (by omega) hru hu hg hst eu (fun hn fc la ds pv ar fs => ⟨cn + 1, ?_⟩) (fun p hm hl fc la ds pv ar fs => ⟨cn + 1, ?_⟩)
    · refine zq_363 hL h0 hR hU hc hu hg hst eu hrl h1 (Or.inl ⟨rfl, rfl, hn⟩) cn 0 (cn + 1) 0 (by omega) (by omega) (fun b => ?_)
      rw [b_0]
      exact ⟨fun z => absurd z (by decide), fun z => absurd z.1 (Nat.not_lt_zero b)⟩
    · refine zq_363 hL h0 hR hU hc hu hg hst eu hrl h1 (Or.inr ⟨p, wr, wa, rfl, rfl, rfl, rfl, hl, hm⟩) cn 0 (cn + 1) 0 (by omega) (by omega) (fun b => ?_)
      rw [b_0]
      exact ⟨fun z => absurd z (by decide), fun z => absurd z.1 (Nat.not_lt_zero b)⟩
  | succ f ih =>
    intro k m asg hk hm has
    obtain ⟨m, rfl⟩ : ∃ z, m = z + 1 := ⟨m - 1, by omega⟩
    refine pk_le 4 k (fun z => absurd z (by omega)) (fun _ => zq_cell (25 + k) hL (by omega) (nI_add 25 k) (zq_mm U hU0 (by omega) rfl (zq_mm U hU0 (by omega) rfl (zq_mm cn hc0 (by omega) rfl ?_))))
    refine zx_actA (show R ≤ 8 by omega) hU (by omega) (zq_mE _ hU0 (by omega)).2 (zq_mE _ hU0 (by omega)).2 (zq_mE _ hc0 (by omega)).2 hru has (fun r asg' has' => nm_r (nI_1 k) (ih (k + 1) m asg' (by omega) (by omega) has'))
theorem zq_kd (x : Int32) : 1 + (x &&& 1) = 1 ∨ 1 + (x &&& 1) = 2 := by
  obtain ⟨j, hj, e⟩ := pk_andE x (m := 1) 1 (by decide)
  rw [e]
  have h : j = 0 ∨ j = 1 := by omega
  rcases h with h | h
  · subst h
    exact Or.inl (by decide)
  · subst h
    exact Or.inr (by decide)
theorem zq_173 (hL : L ≤ 260) (h0 : 0 < R) (hR : R ≤ 5) (hU0 : 0 < U) (hU : U ≤ 8) (hC0 : 0 < C) (hC : C ≤ 6) (has : zi_as U R asg) (h1 : post 1) :
    ∀ (f i m : Nat) (rk ra rt rp rn : Nat → Int32), i + f = C → f < m → zq_rl L xs i R rk ra rt rp rn → wL_law_173 post L xs (nI U) (nI R) (nI C) (nI (2 ^ R - 1)) kc ks m (nI i) (nI U) (nI R) (nI C) (nI i) wl fc dj cl pm asg rk ra rt rp rn wr wa la ds pv ar fs := by
  intro f
  have h8 : R ≤ 8 := by omega
  have h256 := zb_p8 h8
  induction f with
  | zero =>
    intro i m rk ra rt rp rn hi hm hrl
    obtain ⟨m, rfl⟩ : ∃ z, m = z + 1 := ⟨m - 1, by omega⟩
    have e : i = C := by omega
    rw [e] at hrl ⊢
    exact pk_le C C (fun _ => ⟨5, zq_270 hL h0 hR hU0 hU hC0 hC hrl h1 4 0 5 asg (by omega) (by omega) has⟩) (fun z => absurd z (by omega))
  | succ f ih =>
    intro i m rk ra rt rp rn hi hm hrl
    obtain ⟨m, rfl⟩ : ∃ z, m = z + 1 := ⟨m - 1, by omega⟩
    refine pk_le C i (fun z => absurd z (by omega)) (fun _ => zq_cell (13 + 2 * i) hL (by omega) (zq_i2 13 i) (zq_cell (14 + 2 * i) hL (by omega) (zq_i2 14 i) (nm_e (zq_mm R h0 (by omega) rfl (zq_mm R h0 (by omega) rfl (zq_posW (zq_negW ?_)))))))
    have hpb := zq_pb h8 (zq_c L xs (14 + 2 * i))
    have hnb := zq_nb h8 (zq_c L xs (14 + 2 * i))
    have hpn := zq_pn (f := nI (2 ^ R - 1)) (zq_c L xs (14 + 2 * i))
    obtain ⟨p, hp, ep⟩ := zb_of hpb
    obtain ⟨q, hq, eq⟩ := zb_of hnb
    obtain ⟨c1, c2, c3⟩ := zq_cb (fun j hj => hpb j (by omega)) (fun j hj => hnb j (by omega))
    rw [ep, eq] at hpn
    refine zx_addR h8 (show C ≤ 16 by omega) (by omega) (zq_mE _ h0 (by omega)).2 (zq_mE _ h0 (by omega)).2 (zq_kd _) c1 p q hp hq (c2.trans ep) (c3.trans eq) hpn ?_
    refine br_t rfl (nm_r (nI_1 i) (ih (i + 1) m _ _ _ _ _ (by omega) (by omega) (fun j hj => ?_)))
    by_cases e : j = i
    · rw [e, pk_us, pk_us, pk_us, pk_us, pk_us]
      exact ⟨rfl, rfl, rfl, ep.symm, eq.symm⟩
    · rw [pk_un e, pk_un e, pk_un e, pk_un e, pk_un e]
      exact hrl j (by omega)
theorem zq_108 (hL : L ≤ 260) (h0 : 0 < R) (hR : R ≤ 5) (hU0 : 0 < U) (hU : U ≤ 8) (hC0 : 0 < C) (hC : C ≤ 6) (h1 : post 1) :
    ∀ (f v m : Nat) (asg : Nat → Int32), v + f = U → f < m → zi_as U R asg → wL_law_108 post L xs (nI U) (nI R) (nI C) (nI (2 ^ R - 1)) kc ks m (nI v) (nI U) (nI R) (nI C) (nI 0) wl fc dj cl pm asg rk ra rt rp rn wr wa la ds pv ar fs := by
  intro f
  have h8 : R ≤ 8 := by omega
  induction f with
  | zero =>
    intro v m asg hv hm has
    obtain ⟨m, rfl⟩ : ∃ z, m = z + 1 := ⟨m - 1, by omega⟩
    have e : v = U := by omega
    rw [e]
    exact pk_le U U (fun _ => ⟨C + 1, zq_173 hL h0 hR hU0 hU hC0 hC has h1 C 0 (C + 1) rk ra rt rp rn (by omega) (by omega) (fun j hj => absurd hj (Nat.not_lt_zero j))⟩) (fun z => absurd z (by omega))
  | succ f ih =>
    intro v m asg hv hm has
    obtain ⟨m, rfl⟩ : ∃ z, m = z + 1 := ⟨m - 1, by omega⟩
    refine pk_le U v (fun z => absurd z (by omega)) (fun _ => zq_cell (9 + v) hL (by omega) (nI_add 9 v) (nm_e ⟨R + 1, ?_⟩))
    have I : ∀ (d r n : Nat) (asg : Nat → Int32), r + d = R → d < n → zi_as U R asg → wL_law_131 post L xs (wL_law_108 post L xs (nI U) (nI R) (nI C) (nI (2 ^ R - 1)) kc ks m) (nI U) (nI R) (nI C) (nI (2 ^ R - 1)) (nI v) (zq_c L xs (9 + v) &&& nI (2 ^ R - 1)) kc ks n (nI r) (nI U) (nI R) (nI C) (nI 0) wl fc dj cl pm asg rk ra rt rp rn wr wa la ds pv ar fs := by
      intro d
      induction d with
      | zero =>
        intro r n asg hr hn has
        obtain ⟨n, rfl⟩ : ∃ z, n = z + 1 := ⟨n - 1, by omega⟩
        have e : r = R := by omega
        rw [e]
        exact pk_le R R (fun _ => nm_r (nI_1 v) (ih (v + 1) m asg (by omega) (by omega) has)) (fun z => absurd z (by omega))
      | succ d ih2 =>
        intro r n asg hr hn has
        obtain ⟨n, rfl⟩ : ∃ z, n = z + 1 := ⟨n - 1, by omega⟩
        exact pk_le R r (fun z => absurd z (by omega)) (fun _ => zq_ub _ (by omega) (fun _ => nm_r (nI_1 r) (ih2 (r + 1) n asg (by omega) (by omega) has)) (fun _ => zx_setA h8 hU (by omega) (by omega) has (fun _ asg' has' => nm_r (nI_1 r) (ih2 (r + 1) n asg' (by omega) (by omega) has'))))
    exact I R 0 (R + 1) asg (by omega) (by omega) has
theorem zq_59 (hL : L ≤ 260) (h0 : 0 < R) (hR : R ≤ 5) (hU0 : 0 < U) (hU : U ≤ 8) (hC0 : 0 < C) (hC : C ≤ 6) (has : zi_as U R asg) (h1 : post 1) :
    ∀ (f e m : Nat) (dj cl : Nat → Int32), e + f = 3 → f < m → zi_dj R dj → zi_cl R dj cl → wL_law_59 post L xs (nI U) (nI R) (nI C) (nI (2 ^ R - 1)) kc ks m (nI e) (nI U) (nI R) (nI C) (nI 0) wl fc dj cl pm asg rk ra rt rp rn wr wa la ds pv ar fs := by
  intro f
  have h8 : R ≤ 8 := by omega
  induction f with
  | zero =>
    intro e m dj cl he hm hd hcl
    obtain ⟨m, rfl⟩ : ∃ z, m = z + 1 := ⟨m - 1, by omega⟩
    have e3 : e = 3 := by omega
    subst e3
    exact pk_le 3 3 (fun _ => ⟨U + 1, zq_108 hL h0 hR hU0 hU hC0 hC h1 U 0 (U + 1) asg (by omega) (by omega) has⟩) (fun z => absurd z (by omega))
  | succ f ih =>
    intro e m dj cl he hm hd hcl
    obtain ⟨m, rfl⟩ : ∃ z, m = z + 1 := ⟨m - 1, by omega⟩
    refine pk_le 3 e (fun z => absurd z (by omega)) (fun _ => zq_cell (3 + 2 * e) hL (by omega) (zq_i2 3 e) (zq_mm R h0 (by omega) rfl (zq_cell (4 + 2 * e) hL (by omega) (zq_i2 4 e) (zq_mm R h0 (by omega) rfl ?_))))
    exact zx_addI (cn := 0) h8 (zq_mE _ h0 (by omega)).2 (zq_mE _ h0 (by omega)).2 hd hcl (fun r dj' cl' hd' hcl' => nm_r (nI_1 e) (ih (e + 1) m dj' cl' (by omega) (by omega) hd' hcl'))
end
theorem i_vc (xs : Nat → Int32) (L : Nat) (hL : L ≤ 260) : wpL_law (fun r => r = 1) L xs := by
  unfold wpL_law
  refine zq_cell 0 hL (by omega) rfl (zq_mm 3 (by omega) (by omega) rfl (nm_r (nI_add 2 _) (zq_cell 1 hL (by omega) rfl (zq_mm 4 (by omega) (by omega) rfl (nm_r (nI_add 2 _) (zq_cell 2 hL (by omega) rfl (zq_mm 6 (by omega) (by omega) rfl (nm_r (nI_add 1 _) ?_))))))))
  have hU := (zq_mE (zq_c L xs 0) (n := 3) (by omega) (by omega)).2
  have hR := (zq_mE (zq_c L xs 1) (n := 4) (by omega) (by omega)).2
  have hC := (zq_mE (zq_c L xs 2) (n := 6) (by omega) (by omega)).2
  generalize zq_m (zq_c L xs 0) 3 = a at hU ⊢
  generalize zq_m (zq_c L xs 1) 4 = b at hR ⊢
  generalize zq_m (zq_c L xs 2) 6 = c at hC ⊢
  refine nm_r (zq_fu (2 + b) (by omega)) ⟨16, 1664, by omega, by omega, ?_⟩
  refine ⟨by omega, by omega, by omega, by omega, by omega, by omega, by omega, by omega, by omega, by omega, by omega, by omega, by omega, by omega, by omega, by omega, by omega, by omega, by omega, by omega, by omega, by omega, by omega, by omega, by omega, by omega, by omega, by omega, by omega, by omega, by omega, by omega, ?_⟩
  refine zx_clampN 1 8 (by omega) (by omega) (by omega) (zx_clampN 2 8 (by omega) (by omega) (by omega) (zx_clampN 1 16 (by omega) (by omega) (by omega) ?_))
  refine zx_reb (cn := 0) (show 2 + b ≤ 8 by omega) (zi_z0 (2 + b)) (fun cl hcl => ⟨4, ?_⟩)
  exact zq_59 (post := fun r => r = 1) (U := 2 + a) (R := 2 + b) (C := 1 + c) hL (by omega) (by omega) (by omega) (by omega) (by omega) (by omega) (fun v _ j _ => b_0 j) rfl 3 0 4 _ cl (by omega) (by omega) (zi_z0 (2 + b)) hcl
