theorem zv_cl (x : Int32) (lo hi : Nat) (h : lo ≤ hi) (hh : hi < 256) : ∃ n, lo ≤ n ∧ n ≤ hi ∧ ∀ A : Int32 → Prop, A (nI n) → ((nI lo ≤ x → ((x ≤ nI hi → A x) ∧ (¬ x ≤ nI hi → A (nI hi)))) ∧ (¬ nI lo ≤ x → A (nI lo))) := by
  by_cases h1 : nI lo ≤ x
  · have h0 : ¬ x < 0 := by
      intro z
      have a := Int32.lt_iff_toInt_lt.mp z
      have b := Int32.le_iff_toInt_le.mp h1
      rw [nI_toInt (by omega)] at b
      rw [show (0 : Int32).toInt = 0 from by decide] at a
      omega
    obtain ⟨j, hj, rfl⟩ := nI_of h0
    by_cases h2 : nI j ≤ nI hi
    · exact ⟨j, (nI_leI (by omega) hj).mp h1, (nI_leI hj (by omega)).mp h2, fun A a => br_t h1 (br_t h2 a)⟩
    · exact ⟨hi, h, Nat.le_refl _, fun A a => br_t h1 (br_f h2 a)⟩
  · exact ⟨lo, Nat.le_refl _, h, fun A a => br_f h1 a⟩
theorem zx_clampN {post : Int32 → Prop} {n : Nat} (lo hi : Nat) (h1 : lo ≤ n) (h2 : n ≤ hi) (hh : hi < 256) (hp : post (nI n)) : wpX_clamp post () (nI n) (nI lo) (nI hi) := br_t (nI_le h1 (by omega)) (br_t (nI_le h2 (by omega)) hp)
theorem zi_z0 (R : Nat) : zi_dj R (fun _ => 0) := by
  intro a _ b z
  rw [b_0] at z
  exact absurd z (by decide)
def zi_as (U R : Nat) (asg : Nat → Int32) : Prop := ∀ v, v < U → ∀ j, R ≤ j → bt (asg v) j = false
theorem zi_aset {U R w : Nat} {asg : Nat → Int32} {x : Int32} (ha : zi_as U R asg) (hx : ∀ j, R ≤ j → bt x j = false) : zi_as U R (upd asg w x) := by
  intro v hv j hj
  by_cases e : v = w
  · rw [e, pk_us]
    exact hx j hj
  · rw [pk_un e]
    exact ha v hv j hj
section
variable {U R C cn : Nat} {wl fc : Int32} {dj cl pm asg rk ra rt rp rn wr wa la ds pv ar fs : Nat → Int32}
theorem zx_act1 {post : Int32 → St2 → Prop} {w x i a t : Nat} (hR : R ≤ 8) (hU : U ≤ 8) (hc : cn ≤ 16) (hw : w < U) (hx : x < U) (hi : i < cn) (ha : a < R) (ea : ra i = nI a) (ht : t < R) (et : rt i = nI t) (hwx : w ≠ x)
    (b1 : bt (zx_ex cl (asg w) R) a = true) (b2 : (zx_ex cl (asg x) R &&& rp i) = rp i ∧ (zx_ex cl (asg x) R &&& rn i) = 0) (b3 : bt (asg x) t = decide (¬ rk i = 1)) (h : post 0 (nI U, nI R, nI C, nI cn, wl, fc, dj, cl, pm, upd asg x (zr_x rk rt (asg x) i), rk, ra, rt, rp, rn, wr, wa, la, ds, pv, ar, fs)) : wpX_act post (nI U, nI R, nI C, nI cn, wl, fc, dj, cl, pm, asg, rk, ra, rt, rp, rn, wr, wa, la, ds, pv, ar, fs) (nI w) (nI x) (nI i) := by
  have hxn := pk_in x 8 (show x < 8 by omega)
  unfold wpX_act
  refine zx_userY hU hw (br_f (by decide) (zx_userY hU hx (br_f (by decide) (zx_ruleY hc hi (br_f (by decide) (pk_eq w x (fun z => absurd z hwx) (fun _ => ?_)))))))
  refine zx_may hR (by omega) (by omega) (by omega) ea (zb_br _ (fun z => ?_) (fun _ => ⟨hxn, ?_⟩))
  · rw [b1] at z
    exact absurd z (by decide)
  · rw [nI_clamp (show x < 2 ^ 31 by omega)]
    exact zx_expand hR (zx_meets (by omega) (zb_br _ (fun z => absurd b2 (of_decide_eq_false z)) (fun _ => ⟨hxn, zx_makes (by omega) (by omega) et (zb_br _ (fun z => absurd b3 (of_decide_eq_false z)) (fun _ => ⟨hxn, zx_res (by omega) ⟨hxn, nm_e h⟩⟩))⟩)))
theorem zx_actA {post : Int32 → St2 → Prop} {w x i : Nat} (hR : R ≤ 8) (hU : U ≤ 8) (hc : cn ≤ 16) (hw : w < U) (hx : x < U) (hi : i < cn) (hr : zi_ru cn R ra rt) (hs : zi_as U R asg) (h : ∀ (r : Int32) (asg : Nat → Int32), zi_as U R asg → post r (nI U, nI R, nI C, nI cn, wl, fc, dj, cl, pm, asg, rk, ra, rt, rp, rn, wr, wa, la, ds, pv, ar, fs)) : wpX_act post (nI U, nI R, nI C, nI cn, wl, fc, dj, cl, pm, asg, rk, ra, rt, rp, rn, wr, wa, la, ds, pv, ar, fs) (nI w) (nI x) (nI i) := by
  have hxn := pk_in x 8 (show x < 8 by omega)
  obtain ⟨⟨a, ha, ea⟩, t, ht, et⟩ := hr i hi
  unfold wpX_act
  refine zx_userY hU hw (br_f (by decide) (zx_userY hU hx (br_f (by decide) (zx_ruleY hc hi (br_f (by decide) (br_c (fun _ => h _ asg hs) (fun _ => ?_)))))))
  refine zx_may hR (by omega) (by omega) (by omega) ea (zb_br _ (fun z => h _ asg hs) (fun _ => ⟨hxn, ?_⟩))
  rw [nI_clamp (show x < 2 ^ 31 by omega)]
  exact zx_expand hR (zx_meets (by omega) (zb_br _ (fun _ => h _ asg hs) (fun _ => ⟨hxn, zx_makes (by omega) (by omega) et (zb_br _ (fun _ => h _ asg hs) (fun _ => ⟨hxn, zx_res (by omega) ⟨hxn, nm_e (h _ _ (zi_aset hs (zr_xb hR ht et (hs x hx))))⟩⟩))⟩)))
theorem zx_addI {post : Int32 → St2 → Prop} {s j : Nat} (hR : R ≤ 8) (hs : s < R) (hj : j < R) (hd : zi_dj R dj) (hc : zi_cl R dj cl) (h : ∀ (r : Int32) (dj cl : Nat → Int32), zi_dj R dj → zi_cl R dj cl → post r (nI U, nI R, nI C, nI cn, wl, fc, dj, cl, pm, asg, rk, ra, rt, rp, rn, wr, wa, la, ds, pv, ar, fs)) : wpX_addInheritance post (nI U, nI R, nI C, nI cn, wl, fc, dj, cl, pm, asg, rk, ra, rt, rp, rn, wr, wa, la, ds, pv, ar, fs) (nI s) (nI j) := by
  unfold wpX_addInheritance
  refine zx_roleY hR hs (br_f (by decide) (zx_roleY hR hj (br_f (by decide) (br_c (fun _ => h _ dj cl hd hc) (fun _ => ⟨pk_in s 8 (by omega), ?_⟩)))))
  rw [nI_clamp (show s < 2 ^ 31 by omega), nI_clamp (show j < 2 ^ 31 by omega)]
  refine zx_con (by omega) (zb_br _ (fun hb => ⟨pk_in j 8 (by omega), zx_con (by omega) (zb_br _ (fun hb2 => ⟨pk_in s 8 (by omega), pk_in s 8 (by omega), nm_e ?_⟩) (fun hb2 => h _ dj cl hd hc))⟩) (fun hb => h _ dj cl hd hc))
  exact zx_reb hR (zi_djA hd hR hs hj) (fun cl' hcl => h _ _ cl' (zi_djA hd hR hs hj) hcl)
theorem zx_setA {post : Int32 → St2 → Prop} {s p : Nat} (hR : R ≤ 8) (hU : U ≤ 8) (hs : s < U) (hp : p < R) (ha : zi_as U R asg) (h : ∀ (r : Int32) (asg : Nat → Int32), zi_as U R asg → post r (nI U, nI R, nI C, nI cn, wl, fc, dj, cl, pm, asg, rk, ra, rt, rp, rn, wr, wa, la, ds, pv, ar, fs)) : wpX_setAssigned post (nI U, nI R, nI C, nI cn, wl, fc, dj, cl, pm, asg, rk, ra, rt, rp, rn, wr, wa, la, ds, pv, ar, fs) (nI s) (nI p) 1 := by
  unfold wpX_setAssigned
  refine zx_userY hU hs (br_f (by decide) (zx_roleY hR hp (br_f (by decide) ⟨pk_in s 8 (by omega), ?_⟩)))
  rw [nI_clamp (show s < 2 ^ 31 by omega)]
  refine zx_con (by omega) (br_c (fun _ => h _ asg ha) (fun _ => ⟨pk_in s 8 (by omega), br_f (by decide) ⟨pk_in s 8 (by omega), nm_e (h _ _ (zi_aset ha (fun j hj => ?_)))⟩⟩))
  rw [zb_set _ (by omega), ha s hs j hj, decide_eq_false (by omega), Bool.or_self]
theorem zx_exp {post : Int32 → Prop} {x : Nat} (hU : U ≤ 8) (hx : x < U) (h : post (asg x)) : wpX_explicitRoles post (nI U, nI R, nI C, nI cn, wl, fc, dj, cl, pm, asg, rk, ra, rt, rp, rn, wr, wa, la, ds, pv, ar, fs) (nI x) := by
  unfold wpX_explicitRoles
  refine zx_userY hU hx (br_f (by decide) ⟨pk_in x 8 (by omega), ?_⟩)
  rw [nI_clamp (show x < 2 ^ 31 by omega)]
  exact h
theorem zx_efr {post : Int32 → Prop} {x : Nat} (hR : R ≤ 8) (hU : U ≤ 8) (hx : x < U) (h : post (zx_ex cl (asg x) R)) : wpX_effectiveRoles post (nI U, nI R, nI C, nI cn, wl, fc, dj, cl, pm, asg, rk, ra, rt, rp, rn, wr, wa, la, ds, pv, ar, fs) (nI x) := by
  unfold wpX_effectiveRoles
  refine zx_userY hU hx (br_f (by decide) ⟨pk_in x 8 (by omega), ?_⟩)
  rw [nI_clamp (show x < 2 ^ 31 by omega)]
  exact zx_expand hR h
theorem zx_jun {post : Int32 → Prop} {x : Nat} (hR : R ≤ 8) (hx : x < R) (h : post (cl x)) : wpX_juniorsOf post (nI U, nI R, nI C, nI cn, wl, fc, dj, cl, pm, asg, rk, ra, rt, rp, rn, wr, wa, la, ds, pv, ar, fs) (nI x) := by
  unfold wpX_juniorsOf
  refine zx_roleY hR hx (br_f (by decide) ⟨pk_in x 8 (by omega), ?_⟩)
  rw [nI_clamp (show x < 2 ^ 31 by omega)]
  exact h
theorem zx_wru {post : Int32 → Prop} {k len : Nat} (hk : k < len) (hl : len ≤ 255) (h : post (wr k)) : wpX_witnessRule post (nI U, nI R, nI C, nI cn, nI len, fc, dj, cl, pm, asg, rk, ra, rt, rp, rn, wr, wa, la, ds, pv, ar, fs) (nI k) := by
  unfold wpX_witnessRule
  refine zi_ys (n := len) (by omega) hk (br_f (by decide) ⟨pk_in k 256 (by omega), ?_⟩)
  rw [nI_clamp (show k < 2 ^ 31 by omega)]
  exact h
theorem zx_wad {post : Int32 → Prop} {k len : Nat} (hk : k < len) (hl : len ≤ 255) (h : post (wa k)) : wpX_witnessAdmin post (nI U, nI R, nI C, nI cn, nI len, fc, dj, cl, pm, asg, rk, ra, rt, rp, rn, wr, wa, la, ds, pv, ar, fs) (nI k) := by
  unfold wpX_witnessAdmin
  refine zi_ys (n := len) (by omega) hk (br_f (by decide) ⟨pk_in k 256 (by omega), ?_⟩)
  rw [nI_clamp (show k < 2 ^ 31 by omega)]
  exact h
theorem zx_addR {post : Int32 → St2 → Prop} {a t : Nat} {kd x : Int32} (hR : R ≤ 8) (hC : C ≤ 16) (hc : cn < C) (ha : a < R) (ht : t < R) (hk : kd = 1 ∨ kd = 2)
    (h0 : (x.toUInt32 >>> ((16 : Int32).toUInt32 &&& Int32.toUInt32 31)).toInt32 = 0) (p : Nat) (q : Nat) (hp : p < 2 ^ R) (hq : q < 2 ^ R) (ep : x &&& 255 = nI p) (eq : ((x.toUInt32 >>> ((8 : Int32).toUInt32 &&& Int32.toUInt32 31)).toInt32) &&& 255 = nI q) (hpq : nI p &&& nI q = 0)
    (h : post (nI cn) (nI U, nI R, nI C, nI (cn + 1), wl, fc, dj, cl, pm, asg, upd rk cn kd, upd ra cn (nI a), upd rt cn (nI t), upd rp cn (nI p), upd rn cn (nI q), wr, wa, la, ds, pv, ar, fs)) : wpX_addRule post (nI U, nI R, nI C, nI cn, wl, fc, dj, cl, pm, asg, rk, ra, rt, rp, rn, wr, wa, la, ds, pv, ar, fs) kd (nI a) (nI t) x := by
  have h8 := zb_p8 hR
  have hfu : (1 : Int32) <<< (nI R &&& 31) = nI (2 ^ R) := (by decide +kernel : ∀ R, R < 9 → (1 : Int32) <<< (nI R &&& 31) = nI (2 ^ R)) R (by omega)
  have hM : wX_addRule_26 post kd (nI a) (nI t) x (nI U) (nI R) (nI C) (nI cn) wl fc dj cl pm asg rk ra rt rp rn wr wa la ds pv ar fs := by
    unfold wX_addRule_26
    refine zx_roleY hR ha (br_f (by decide) (zx_roleY hR ht (br_f (by decide) ?_)))
    refine br_t h0 ?_
    unfold wpX_positivePart wpX_negativePart
    rw [ep, eq]
    refine br_f (nI_pos (by omega)) ?_
    rw [hfu]
    refine br_f (nI_ge hp (by omega)) (br_f (by decide) (br_f (nI_pos (by omega)) ?_))
    rw [hfu]
    refine br_f (nI_ge hq (by omega)) (br_f (by decide) (br_t hpq (br_f (by decide) ?_)))
    have hi := pk_in cn 16 (show cn < 16 by omega)
    rw [nI_clamp (show cn < 2 ^ 31 by omega)]
    exact ⟨hi, nm_e ⟨hi, nm_e ⟨hi, nm_e ⟨hi, nm_e ⟨hi, nm_e (nm_r (nI_1 cn) h)⟩⟩⟩⟩⟩
  refine pk_lt cn C (fun _ => ?_) (fun z => absurd z (by omega))
  rcases hk with e | e
  · exact br_t e hM
  · exact br_f (by rw [e]; decide) (br_t e hM)
end
