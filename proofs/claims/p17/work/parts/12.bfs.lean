def zq_rl (L : Nat) (xs : Nat → Int32) (cn R : Nat) (rk ra rt rp rn : Nat → Int32) : Prop := ∀ i, i < cn →
  rk i = 1 + (zq_c L xs (13 + 2 * i) &&& 1) ∧
  ra i = nI (zq_m ((zq_c L xs (13 + 2 * i)).toUInt32 >>> ((1 : Int32).toUInt32 &&& Int32.toUInt32 31)).toInt32 R) ∧
  rt i = nI (zq_m ((zq_c L xs (13 + 2 * i)).toUInt32 >>> ((4 : Int32).toUInt32 &&& Int32.toUInt32 31)).toInt32 R) ∧
  rp i = zq_p (zq_c L xs (14 + 2 * i)) (nI (2 ^ R - 1)) ∧ rn i = zq_n (zq_c L xs (14 + 2 * i)) (nI (2 ^ R - 1))
theorem zq_rru {L cn R : Nat} {xs rk ra rt rp rn : Nat → Int32} (h0 : 0 < R) (hR : R ≤ 5) (h : zq_rl L xs cn R rk ra rt rp rn) : zi_ru cn R ra rt := by
  intro i hi
  obtain ⟨_, e1, e2, _⟩ := h i hi
  exact ⟨⟨_, (zq_mE _ h0 (by omega)).2, e1⟩, ⟨_, (zq_mE _ h0 (by omega)).2, e2⟩⟩
theorem zq_i2 (a i : Nat) : nI a + nI 2 * nI i = nI (a + 2 * i) := by
  rw [show nI 2 * nI i = nI (2 * i) from (Int32.ofNat_mul 2 i).symm, nI_add]
theorem zq_posW {post : Int32 → Prop} {d f : Int32} (h : post (zq_p d f)) : wpL_pos post () d f := h
theorem zq_negW {post : Int32 → Prop} {d f : Int32} (h : post (zq_n d f)) : wpL_neg post () d f := h
section
variable {U R C cn : Nat} {wl fc : Int32} {dj cl pm asg rk ra rt rp rn wr wa la ds pv ar fs : Nat → Int32} {post : Int32 → Prop} {L kc ks u g st : Nat} {xs : Nat → Int32}
theorem zq_efO {post : Int32 → Prop} {s : Int32} (hR : R ≤ 8) (h : post (zx_ex cl s R)) : wpL_effOf post (nI U, nI R, nI C, nI cn, wl, fc, dj, cl, pm, asg, rk, ra, rt, rp, rn, wr, wa, la, ds, pv, ar, fs) s (nI R) := by
  have H : ∀ d r n : Nat, r + d = R → d < n → wL_effOf_5 post s (nI R) (nI U) (nI R) (nI C) (nI cn) wl fc dj cl pm asg rk ra rt rp rn wr wa la ds pv ar fs n (zx_ex cl s r) (nI r) := by
    intro d
    induction d with
    | zero =>
      intro r n hr hn
      obtain ⟨n, rfl⟩ : ∃ m, n = m + 1 := ⟨n - 1, by omega⟩
      have e : r = R := by omega
      rw [e]
      exact pk_le R R (fun _ => h) (fun z => absurd z (by omega))
    | succ d ih =>
      intro r n hr hn
      obtain ⟨n, rfl⟩ : ∃ m, n = m + 1 := ⟨n - 1, by omega⟩
      have i := ih (r + 1) n (by omega) (by omega)
      refine pk_le R r (fun z => absurd z (by omega)) (fun _ => zq_ub s (by omega) (fun hb => ?_) (fun hb => ?_))
      · have e : zx_ex cl s (r + 1) = zx_ex cl s r := if_neg (by rw [hb]; decide)
        rw [e] at i
        exact nm_r (nI_1 r) i
      · have e : zx_ex cl s (r + 1) = zx_ex cl s r ||| cl r := if_pos hb
        rw [e] at i
        exact zx_jun hR (by omega) (nm_e (nm_r (nI_1 r) i))
  exact ⟨R + 1, H R 0 (R + 1) (by omega) (by omega)⟩
theorem zq_559 {J482 J500 : Int32 → Int32 → Int32 → Int32 → Int32 → Prop} {x8 x9 x12 x13 x14 : Int32} {lv S : Nat} (hL : L ≤ 260) (h0 : 0 < R) (hR : R ≤ 5) (hc : cn ≤ 6) (hrl : zq_rl L xs cn R rk ra rt rp rn) (hok : ∀ i, i < cn → (bt x9 i = true ↔ ¬ (zl_a U R u cl asg ra) i = -1)) (hS : S < 2 ^ R) (hw : zw_d (zq_E (zr_ap cn R cl (zl_a U R u cl asg ra) rk rt rp rn) (zr_go rk rt) R) st lv S)
    (hJ : ∀ x y, zq_i (zr_ap cn R cl (zl_a U R u cl asg ra) rk rt rp rn) (zr_go rk rt) (zq_E (zr_ap cn R cl (zl_a U R u cl asg ra) rk rt rp rn) (zr_go rk rt) R) st lv x y S cn → J500 x x13 x14 y (nI (S + 1))) :
    ∀ (f i m : Nat) (x y : Int32), i + f = cn → f < m → zq_i (zr_ap cn R cl (zl_a U R u cl asg ra) rk rt rp rn) (zr_go rk rt) (zq_E (zr_ap cn R cl (zl_a U R u cl asg ra) rk rt rp rn) (zr_go rk rt) R) st lv x y S i → wL_law_559 post L xs J482 J500 (nI R) (nI cn) (nI (2 ^ R - 1)) (nI u) (nI g) x8 x9 x12 x13 x14 (nI lv) (nI S) (zr_ef cl R S) kc ks (nI U) (nI R) (nI C) (nI cn) wl fc dj cl pm asg rk ra rt rp rn wr wa la ds pv ar fs m x y (nI i) := by
  intro f
  have h5 : 2 ^ R ≤ 32 := Nat.pow_le_pow_right (n := 2) (by omega) hR
  induction f with
  | zero =>
    intro i m x y hi hm hv
    obtain ⟨m, rfl⟩ : ∃ z, m = z + 1 := ⟨m - 1, by omega⟩
    have e : i = cn := by omega
    rw [e] at hv ⊢
    exact pk_le cn cn (fun _ => nm_r (nI_1 S) (hJ x y hv)) (fun z => absurd z (by omega))
  | succ f ih =>
    intro i m x y hi hm hv
    obtain ⟨m, rfl⟩ : ∃ z, m = z + 1 := ⟨m - 1, by omega⟩
    have hic : i < cn := by omega
    obtain ⟨e1, e2, e3, e4, e5⟩ := hrl i hic
    have ht := (zq_mE ((zq_c L xs (13 + 2 * i)).toUInt32 >>> ((4 : Int32).toUInt32 &&& Int32.toUInt32 31)).toInt32 h0 (show R < 256 by omega)).2
    have skip : ((zr_ap cn R cl (zl_a U R u cl asg ra) rk rt rp rn) S i → bt x ((zr_go rk rt) S i) = true) → wL_law_559 post L xs J482 J500 (nI R) (nI cn) (nI (2 ^ R - 1)) (nI u) (nI g) x8 x9 x12 x13 x14 (nI lv) (nI S) (zr_ef cl R S) kc ks (nI U) (nI R) (nI C) (nI cn) wl fc dj cl pm asg rk ra rt rp rn wr wa la ds pv ar fs m x y (nI (i + 1)) :=
      fun hx => ih (i + 1) m x y (by omega) (by omega) (zq_isk hv hx)
    refine pk_le cn i (fun z => absurd z (by omega)) (fun _ => zq_ub x9 (by omega) (fun hb => ?_) (fun hb => ?_))
    · refine nm_r (nI_1 i) (skip (fun ha => absurd ((hok i hic).mpr ha.2.1) ?_))
      rw [hb]
      decide
    · have hl := (hok i hic).mp hb
      refine zq_cell (13 + 2 * i) hL (by omega) (zq_i2 13 i) (zq_cell (14 + 2 * i) hL (by omega) (zq_i2 14 i) (nm_e (zq_mm R h0 (by omega) rfl (zq_posW (zq_negW ?_)))))
      rw [← e1, ← e4, ← e5]
      generalize zq_m ((zq_c L xs (13 + 2 * i)).toUInt32 >>> ((4 : Int32).toUInt32 &&& Int32.toUInt32 31)).toInt32 R = t at e3 ht ⊢
      have hgo := zr_goE (rk := rk) (s := S) (show R ≤ 8 by omega) ht e3 hS
      have hgl := hgo.2
      have hge := hgo.1
      unfold zr_x at hge
      rw [e3] at hge
      have ett : (rt i).toNatClampNeg = t := by rw [e3, nI_clamp (by omega)]
      have arr : (zr_ap cn R cl (zl_a U R u cl asg ra) rk rt rp rn) S i → ∀ z : Int32, z = nI ((zr_go rk rt) S i) → wL_law_723 post L xs J482 J500 (wL_law_559 post L xs J482 J500 (nI R) (nI cn) (nI (2 ^ R - 1)) (nI u) (nI g) x8 x9 x12 x13 x14 (nI lv) (nI S) (zr_ef cl R S) kc ks (nI U) (nI R) (nI C) (nI cn) wl fc dj cl pm asg rk ra rt rp rn wr wa la ds pv ar fs m) (nI R) (nI cn) (nI (2 ^ R - 1)) (nI u) (nI g) x8 x9 x x12 x13 x14 (nI lv) y (nI S) (zr_ef cl R S) (nI i) z kc ks (nI U) (nI R) (nI C) (nI cn) wl fc dj cl pm asg rk ra rt rp rn wr wa la ds pv ar fs := by
        intro ha z hz
        subst hz
        unfold wL_law_723
        refine zq_ub x (by omega) (fun hb2 => ?_) (fun hb2 => nm_r (nI_1 i) (skip (fun _ => hb2)))
        exact nm_e (nm_e (nm_r (nI_1 i) (ih (i + 1) m _ _ (by omega) (by omega) (zq_ise hv hS hw ha (by omega) hb2))))
      refine br_c (fun y1 => br_c (fun y2 => zq_ub (nI S) (by omega) (fun b => ?_) (fun b => ?_)) (fun y2 => nm_r (nI_1 i) (skip (fun ha => absurd ha.2.2.2.1 y2)))) (fun y1 => nm_r (nI_1 i) (skip (fun ha => absurd ha.2.2.1 y1)))
      · unfold wL_law_676
        refine br_c (fun k1 => br_t rfl (fun z hz => ?_)) (fun k1 => br_t rfl (nm_r (nI_1 i) (skip (fun ha => ?_))))
        · rw [if_pos k1] at hge
          refine arr ⟨hic, hl, y1, y2, ?_⟩ z (by rw [hz, hge])
          rw [ett, b, show decide (¬ rk i = 1) = false from decide_eq_false (fun w => w k1)]
        · have w := ha.2.2.2.2
          rw [ett, b, decide_eq_true k1] at w
          exact absurd w (by decide)
      · unfold wL_law_676
        refine br_c (fun k1 => br_f (by decide) (nm_r (nI_1 i) (skip (fun ha => ?_)))) (fun k1 => br_f (by decide) (fun z hz => ?_))
        · have w := ha.2.2.2.2
          rw [ett, b, show decide (¬ rk i = 1) = false from decide_eq_false (fun w => w k1)] at w
          exact absurd w (by decide)
        · rw [if_neg k1] at hge
          refine arr ⟨hic, hl, y1, y2, ?_⟩ z (by rw [hz, hge])
          rw [ett, b, decide_eq_true k1]
theorem zq_500 {J482 : Int32 → Int32 → Int32 → Int32 → Int32 → Prop} {x8 x9 x12 : Int32} {lv : Nat} (hL : L ≤ 260) (h0 : 0 < R) (hR : R ≤ 5) (hc : cn ≤ 6) (hg : g < R) (hst : st < 2 ^ R) (hrl : zq_rl L xs cn R rk ra rt rp rn) (hok : ∀ i, i < cn → (bt x9 i = true ↔ ¬ (zl_a U R u cl asg ra) i = -1)) (hlv : lv ≤ 33)
    (hF : ∀ s, bt x12 s = true ↔ (zw_d (zq_E (zr_ap cn R cl (zl_a U R u cl asg ra) rk rt rp rn) (zr_go rk rt) R) st lv s ∧ ¬ zq_V (zq_E (zr_ap cn R cl (zl_a U R u cl asg ra) rk rt rp rn) (zr_go rk rt) R) st lv s))
    (hJ : ∀ x y x13 x14, zq_i (zr_ap cn R cl (zl_a U R u cl asg ra) rk rt rp rn) (zr_go rk rt) (zq_E (zr_ap cn R cl (zl_a U R u cl asg ra) rk rt rp rn) (zr_go rk rt) R) st lv x y (2 ^ R) 0 → zq_d (zr_ap cn R cl (zl_a U R u cl asg ra) rk rt rp rn) (zr_go rk rt) (fun t => bt (zr_ef cl R t) g = true) st (zw_d (zq_E (zr_ap cn R cl (zl_a U R u cl asg ra) rk rt rp rn) (zr_go rk rt) R) st lv) x13 → (∀ b, bt x14 b = true ↔ ∃ s, zw_d (zq_E (zr_ap cn R cl (zl_a U R u cl asg ra) rk rt rp rn) (zr_go rk rt) R) st lv s ∧ bt (zr_ef cl R s) b = true) → J482 x y x13 x14 (nI (lv + 1))) :
    ∀ (f S m : Nat) (x y x13 x14 : Int32), S + f = 2 ^ R → f < m → zq_i (zr_ap cn R cl (zl_a U R u cl asg ra) rk rt rp rn) (zr_go rk rt) (zq_E (zr_ap cn R cl (zl_a U R u cl asg ra) rk rt rp rn) (zr_go rk rt) R) st lv x y S 0 → zq_d (zr_ap cn R cl (zl_a U R u cl asg ra) rk rt rp rn) (zr_go rk rt) (fun t => bt (zr_ef cl R t) g = true) st (fun s => zq_V (zq_E (zr_ap cn R cl (zl_a U R u cl asg ra) rk rt rp rn) (zr_go rk rt) R) st lv s ∨ (zw_d (zq_E (zr_ap cn R cl (zl_a U R u cl asg ra) rk rt rp rn) (zr_go rk rt) R) st lv s ∧ s < S)) x13 → (∀ b, bt x14 b = true ↔ ∃ s, (zq_V (zq_E (zr_ap cn R cl (zl_a U R u cl asg ra) rk rt rp rn) (zr_go rk rt) R) st lv s ∨ (zw_d (zq_E (zr_ap cn R cl (zl_a U R u cl asg ra) rk rt rp rn) (zr_go rk rt) R) st lv s ∧ s < S)) ∧ bt (zr_ef cl R s) b = true) → wL_law_500 post L xs J482 (nI R) (nI cn) (nI (2 ^ R - 1)) (nI u) (nI g) x8 x9 x12 (nI lv) kc ks (nI U) (nI R) (nI C) (nI cn) wl fc dj cl pm asg rk ra rt rp rn wr wa la ds pv ar fs m x x13 x14 y (nI S) := by
  intro f
  have h5 : 2 ^ R ≤ 32 := Nat.pow_le_pow_right (n := 2) (by omega) hR
  have hp := Nat.two_pow_pos R
  have hgo : ∀ s i, s < 2 ^ R → (zr_ap cn R cl (zl_a U R u cl asg ra) rk rt rp rn) s i → (zr_go rk rt) s i < 2 ^ R := by
    intro s i hs ha
    obtain ⟨_, t, ht, et⟩ := zq_rru h0 hR hrl i ha.1
    exact (zr_goE (show R ≤ 8 by omega) ht et hs).2
  have hE := zq_hE hgo
  induction f with
  | zero =>
    intro S m x y x13 x14 hS hm hv hd hr
    obtain ⟨m, rfl⟩ : ∃ z, m = z + 1 := ⟨m - 1, by omega⟩
    have e : S = 2 ^ R := by omega
    have hB : ∀ s, (zq_V (zq_E (zr_ap cn R cl (zl_a U R u cl asg ra) rk rt rp rn) (zr_go rk rt) R) st lv s ∨ (zw_d (zq_E (zr_ap cn R cl (zl_a U R u cl asg ra) rk rt rp rn) (zr_go rk rt) R) st lv s ∧ s < S)) ↔ zw_d (zq_E (zr_ap cn R cl (zl_a U R u cl asg ra) rk rt rp rn) (zr_go rk rt) R) st lv s := by
      intro s
      exact ⟨fun z => z.elim zq_Vle (fun z => z.1), fun z => Or.inr ⟨z, by rw [e]; exact zw_in hE hst z⟩⟩
    rw [e] at hv
    refine pk_lt (2 ^ R - 1) S (fun _ => nm_r (nI_1 lv) (hJ x y x13 x14 hv ?_ (fun b => ?_))) (fun z => absurd z (by omega))
    · rcases hd with ⟨a, b⟩ | hd
      · exact Or.inl ⟨a, fun s hs => b s ((hB s).mpr hs)⟩
      · exact Or.inr hd
    · rw [hr b]
      constructor
      · intro ⟨s, k1, k2⟩
        exact ⟨s, (hB s).mp k1, k2⟩
      · intro ⟨s, k1, k2⟩
        exact ⟨s, (hB s).mpr k1, k2⟩
  | succ f ih =>
    intro S m x y x13 x14 hS hm hv hd hr
    obtain ⟨m, rfl⟩ : ∃ z, m = z + 1 := ⟨m - 1, by omega⟩
    refine pk_lt (2 ^ R - 1) S (fun z => absurd z (by omega)) (fun _ => zq_ub x12 (by omega) (fun hb => ?_) (fun hb => ?_))
    · have hn : ¬ (zw_d (zq_E (zr_ap cn R cl (zl_a U R u cl asg ra) rk rt rp rn) (zr_go rk rt) R) st lv S ∧ ¬ zq_V (zq_E (zr_ap cn R cl (zl_a U R u cl asg ra) rk rt rp rn) (zr_go rk rt) R) st lv S) := by
        intro z
        rw [(hF S).mpr z] at hb
        exact absurd hb (by decide)
      have hB : ∀ s, (zq_V (zq_E (zr_ap cn R cl (zl_a U R u cl asg ra) rk rt rp rn) (zr_go rk rt) R) st lv s ∨ (zw_d (zq_E (zr_ap cn R cl (zl_a U R u cl asg ra) rk rt rp rn) (zr_go rk rt) R) st lv s ∧ s < S + 1)) ↔ (zq_V (zq_E (zr_ap cn R cl (zl_a U R u cl asg ra) rk rt rp rn) (zr_go rk rt) R) st lv s ∨ (zw_d (zq_E (zr_ap cn R cl (zl_a U R u cl asg ra) rk rt rp rn) (zr_go rk rt) R) st lv s ∧ s < S)) := by
        intro s
        constructor
        · rintro (z | ⟨z, w⟩)
          · exact Or.inl z
          · by_cases e : s = S
            · rw [e] at z ⊢
              exact Or.inl (Classical.byContradiction (fun q => hn ⟨z, q⟩))
            · exact Or.inr ⟨z, by omega⟩
        · rintro (z | ⟨z, w⟩)
          · exact Or.inl z
          · exact Or.inr ⟨z, by omega⟩
      refine nm_r (nI_1 S) (ih (S + 1) m x y x13 x14 (by omega) (by omega) (zq_ins hn hv) ?_ (fun b => ?_))
      · rcases hd with ⟨a, b⟩ | hd
        · exact Or.inl ⟨a, fun s hs => b s ((hB s).mp hs)⟩
        · exact Or.inr hd
      · rw [hr b]
        constructor
        · intro ⟨s, k1, k2⟩
          exact ⟨s, (hB s).mpr k1, k2⟩
        · intro ⟨s, k1, k2⟩
          exact ⟨s, (hB s).mp k1, k2⟩
    · obtain ⟨hw, hnv⟩ := (hF S).mp hb
      have hB : ∀ s, (zq_V (zq_E (zr_ap cn R cl (zl_a U R u cl asg ra) rk rt rp rn) (zr_go rk rt) R) st lv s ∨ (zw_d (zq_E (zr_ap cn R cl (zl_a U R u cl asg ra) rk rt rp rn) (zr_go rk rt) R) st lv s ∧ s < S + 1)) ↔ ((zq_V (zq_E (zr_ap cn R cl (zl_a U R u cl asg ra) rk rt rp rn) (zr_go rk rt) R) st lv s ∨ (zw_d (zq_E (zr_ap cn R cl (zl_a U R u cl asg ra) rk rt rp rn) (zr_go rk rt) R) st lv s ∧ s < S)) ∨ s = S) := by
        intro s
        constructor
        · rintro (z | ⟨z, w⟩)
          · exact Or.inl (Or.inl z)
          · by_cases e : s = S
            · exact Or.inr e
            · exact Or.inl (Or.inr ⟨z, by omega⟩)
        · rintro ((z | ⟨z, w⟩) | z)
          · exact Or.inl z
          · exact Or.inr ⟨z, by omega⟩
          · rw [z]
            exact Or.inr ⟨hw, by omega⟩
      refine zq_efO (show R ≤ 8 by omega) (nm_e ?_)
      have hr2 : ∀ b, bt (x14 ||| zx_ex cl (nI S) R) b = true ↔ ∃ s, (zq_V (zq_E (zr_ap cn R cl (zl_a U R u cl asg ra) rk rt rp rn) (zr_go rk rt) R) st lv s ∨ (zw_d (zq_E (zr_ap cn R cl (zl_a U R u cl asg ra) rk rt rp rn) (zr_go rk rt) R) st lv s ∧ s < S + 1)) ∧ bt (zr_ef cl R s) b = true := by
        intro b
        rw [b_or, Bool.or_eq_true, hr b]
        constructor
        · rintro (⟨s, k1, k2⟩ | k2)
          · exact ⟨s, (hB s).mpr (Or.inl k1), k2⟩
          · exact ⟨S, (hB S).mpr (Or.inr rfl), k2⟩
        · intro ⟨s, k1, k2⟩
          rcases (hB s).mp k1 with k | k
          · exact Or.inl ⟨s, k, k2⟩
          · rw [k] at k2
            exact Or.inr k2
      have go559 : ∀ x13' : Int32, zq_d (zr_ap cn R cl (zl_a U R u cl asg ra) rk rt rp rn) (zr_go rk rt) (fun t => bt (zr_ef cl R t) g = true) st (fun s => zq_V (zq_E (zr_ap cn R cl (zl_a U R u cl asg ra) rk rt rp rn) (zr_go rk rt) R) st lv s ∨ (zw_d (zq_E (zr_ap cn R cl (zl_a U R u cl asg ra) rk rt rp rn) (zr_go rk rt) R) st lv s ∧ s < S + 1)) x13' → ∃ n, wL_law_559 post L xs J482 (wL_law_500 post L xs J482 (nI R) (nI cn) (nI (2 ^ R - 1)) (nI u) (nI g) x8 x9 x12 (nI lv) kc ks (nI U) (nI R) (nI C) (nI cn) wl fc dj cl pm asg rk ra rt rp rn wr wa la ds pv ar fs m) (nI R) (nI cn) (nI (2 ^ R - 1)) (nI u) (nI g) x8 x9 x12 x13' (x14 ||| zx_ex cl (nI S) R) (nI lv) (nI S) (zx_ex cl (nI S) R) kc ks (nI U) (nI R) (nI C) (nI cn) wl fc dj cl pm asg rk ra rt rp rn wr wa la ds pv ar fs n x y 0 := by
        intro x13' hd'
        exact ⟨cn + 1, zq_559 hL h0 hR hc hrl hok (by omega) hw (fun x' y' hv' => ih (S + 1) m x' y' x13' _ (by omega) (by omega) (zq_inx (fun s i h => h.1) hv') hd' hr2) cn 0 (cn + 1) x y (by omega) (by omega) hv⟩
      rcases hd with ⟨a, b⟩ | ⟨mm, c1, c2, c3⟩
      · rw [a]
        refine br_f (by decide) (zq_ub _ (by omega) (fun hb2 => go559 (-1) (Or.inl ⟨rfl, fun s hs => ?_⟩)) (fun hb2 => go559 (nI lv) (Or.inr ⟨lv, by omega, rfl, zq_dst hgo hst (fun s hs => b s (Or.inl hs)) hw hnv hb2⟩)))
        rcases (hB s).mp hs with k | k
        · exact b s k
        · rw [k]
          intro z
          have z2 : bt (zx_ex cl (nI S) R) g = true := z
          rw [hb2] at z2
          exact absurd z2 (by decide)
      · rw [c2]
        exact br_t (nI_pos' (by omega)) (go559 (nI mm) (Or.inr ⟨mm, c1, rfl, c3⟩))
theorem zq_482 {x8 x9 : Int32} (hL : L ≤ 260) (h0 : 0 < R) (hR : R ≤ 5) (hU : U ≤ 8) (hc : cn ≤ 6) (hu : u < U) (hg : g < R) (hst : st < 2 ^ R) (eu : asg u = nI st) (hrl : zq_rl L xs cn R rk ra rt rp rn) (hok : ∀ i, i < cn → (bt x9 i = true ↔ ¬ (zl_a U R u cl asg ra) i = -1)) (h1 : post 1)
    (hA : zq_A U R cn u g st x8 wl cl asg rk ra rt rp rn wr wa) :
    ∀ (f lv m : Nat) (x11 x12 x13 x14 : Int32), lv + f = 34 → f < m → (∀ s, bt x11 s = true ↔ zw_d (zq_E (zr_ap cn R cl (zl_a U R u cl asg ra) rk rt rp rn) (zr_go rk rt) R) st lv s) → (∀ s, bt x12 s = true ↔ (zw_d (zq_E (zr_ap cn R cl (zl_a U R u cl asg ra) rk rt rp rn) (zr_go rk rt) R) st lv s ∧ ¬ zq_V (zq_E (zr_ap cn R cl (zl_a U R u cl asg ra) rk rt rp rn) (zr_go rk rt) R) st lv s)) → zq_d (zr_ap cn R cl (zl_a U R u cl asg ra) rk rt rp rn) (zr_go rk rt) (fun t => bt (zr_ef cl R t) g = true) st (zq_V (zq_E (zr_ap cn R cl (zl_a U R u cl asg ra) rk rt rp rn) (zr_go rk rt) R) st lv) x13 → (∀ b, bt x14 b = true ↔ ∃ s, zq_V (zq_E (zr_ap cn R cl (zl_a U R u cl asg ra) rk rt rp rn) (zr_go rk rt) R) st lv s ∧ bt (zr_ef cl R s) b = true) → wL_law_482 post L xs (nI R) (nI cn) (nI (2 ^ R - 1)) (nI u) (nI g) x8 x9 kc ks (nI U) (nI R) (nI C) (nI cn) wl fc dj cl pm asg rk ra rt rp rn wr wa la ds pv ar fs m x11 x12 x13 x14 (nI lv) := by
  intro f
  have hru := zq_rru h0 hR hrl
  have hgo : ∀ s i, s < 2 ^ R → (zr_ap cn R cl (zl_a U R u cl asg ra) rk rt rp rn) s i → (zr_go rk rt) s i < 2 ^ R := by
    intro s i hs ha
    obtain ⟨_, t, ht, et⟩ := hru i ha.1
    exact (zr_goE (show R ≤ 8 by omega) ht et hs).2
  have fin : ∀ (lv : Nat) (x13 x14 : Int32), ((∀ s, ¬ (zw_d (zq_E (zr_ap cn R cl (zl_a U R u cl asg ra) rk rt rp rn) (zr_go rk rt) R) st lv s ∧ ¬ zq_V (zq_E (zr_ap cn R cl (zl_a U R u cl asg ra) rk rt rp rn) (zr_go rk rt) R) st lv s)) ∨ 34 ≤ lv) → zq_d (zr_ap cn R cl (zl_a U R u cl asg ra) rk rt rp rn) (zr_go rk rt) (fun t => bt (zr_ef cl R t) g = true) st (zq_V (zq_E (zr_ap cn R cl (zl_a U R u cl asg ra) rk rt rp rn) (zr_go rk rt) R) st lv) x13 → (∀ b, bt x14 b = true ↔ ∃ s, zq_V (zq_E (zr_ap cn R cl (zl_a U R u cl asg ra) rk rt rp rn) (zr_go rk rt) R) st lv s ∧ bt (zr_ef cl R s) b = true) → wL_law_773 post L xs (nI u) (nI g) x8 x13 x14 kc ks (nI U) (nI R) (nI C) (nI cn) wl fc dj cl pm asg rk ra rt rp rn wr wa la ds pv ar fs := by
    intro lv x13 x14 hx hd hr
    have hall := zq_all hgo hst hR hx
    have hB : ∀ s, zq_V (zq_E (zr_ap cn R cl (zl_a U R u cl asg ra) rk rt rp rn) (zr_go rk rt) R) st lv s ↔ ∃ q, zp_run (zr_ap cn R cl (zl_a U R u cl asg ra) rk rt rp rn) (zr_go rk rt) q st s := by
      intro s
      constructor
      · intro z
        obtain ⟨q, k1, _⟩ := zq_run (zq_Vle z)
        exact ⟨q, k1⟩
      · intro ⟨q, k⟩
        exact hall q s k
    refine zq_773 (show R ≤ 8 by omega) hU (by omega) hru hu hg hst eu h1 hA (fun b => ?_) ?_
    · rw [hr b]
      constructor
      · intro ⟨s, k1, k2⟩
        exact ⟨s, (hB s).mp k1, k2⟩
      · intro ⟨s, k1, k2⟩
        exact ⟨s, (hB s).mpr k1, k2⟩
    · rcases hd with ⟨a, b⟩ | hd
      · exact Or.inl ⟨a, fun s hs => b s ((hB s).mpr hs)⟩
      · exact Or.inr hd
  have emp : ∀ (lv : Nat) (x12 : Int32), x12 = 0 → (∀ s, bt x12 s = true ↔ (zw_d (zq_E (zr_ap cn R cl (zl_a U R u cl asg ra) rk rt rp rn) (zr_go rk rt) R) st lv s ∧ ¬ zq_V (zq_E (zr_ap cn R cl (zl_a U R u cl asg ra) rk rt rp rn) (zr_go rk rt) R) st lv s)) → ∀ s, ¬ (zw_d (zq_E (zr_ap cn R cl (zl_a U R u cl asg ra) rk rt rp rn) (zr_go rk rt) R) st lv s ∧ ¬ zq_V (zq_E (zr_ap cn R cl (zl_a U R u cl asg ra) rk rt rp rn) (zr_go rk rt) R) st lv s) := by
    intro lv x12 e hf s z
    have w := (hf s).mpr z
    rw [e, b_0] at w
    exact absurd w (by decide)
  induction f with
  | zero =>
    intro lv m x11 x12 x13 x14 hl hm hv hf hd hr
    obtain ⟨m, rfl⟩ : ∃ z, m = z + 1 := ⟨m - 1, by omega⟩
    have e : lv = 34 := by omega
    subst e
    exact br_c (fun z => fin 34 x13 x14 (Or.inl (emp 34 x12 z hf)) hd hr) (fun _ => pk_lt 33 34 (fun _ => fin 34 x13 x14 (Or.inr (by omega)) hd hr) (fun z => absurd z (by omega)))
  | succ f ih =>
    intro lv m x11 x12 x13 x14 hl hm hv hf hd hr
    obtain ⟨m, rfl⟩ : ∃ z, m = z + 1 := ⟨m - 1, by omega⟩
    refine br_c (fun z => fin lv x13 x14 (Or.inl (emp lv x12 z hf)) hd hr) (fun _ => pk_lt 33 lv (fun z => absurd z (by omega)) (fun _ => ⟨2 ^ R + 1, ?_⟩))
    refine zq_500 hL h0 hR hc hg hst hrl hok (by omega) hf (fun x y x13' x14' k1 k2 k3 => ?_) (2 ^ R) 0 (2 ^ R + 1) x11 0 x13 x14 (by omega) (by omega) (zq_ibg hv) ?_ (fun b => ?_)
    · obtain ⟨q1, q2⟩ := zq_ien hgo hst k1
      exact ih (lv + 1) m x y x13' x14' (by omega) (by omega) q1 q2 k2 k3
    · rcases hd with ⟨a, b⟩ | hd
      · exact Or.inl ⟨a, fun s hs => hs.elim (b s) (fun z => absurd z.2 (Nat.not_lt_zero s))⟩
      · exact Or.inr hd
    · rw [hr b]
      constructor
      · intro ⟨s, k1, k2⟩
        exact ⟨s, Or.inl k1, k2⟩
      · intro ⟨s, k1, k2⟩
        exact ⟨s, k1.elim (fun z => z) (fun z => absurd z.2 (Nat.not_lt_zero s)), k2⟩
end
