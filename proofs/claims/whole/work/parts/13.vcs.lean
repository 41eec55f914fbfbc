theorem zi_ruA {cn R a t : Nat} {ra rt : Nat → Int32} (h : zi_ru cn R ra rt) (ha : a < R) (ht : t < R) : zi_ru (cn + 1) R (upd ra cn (nI a)) (upd rt cn (nI t)) := by
  intro i hi
  by_cases e : i = cn
  · rw [e, pk_us, pk_us]
    exact ⟨⟨a, ha, rfl⟩, ⟨t, ht, rfl⟩⟩
  · rw [pk_un e, pk_un e]
    exact h i (by omega)
theorem zi_np (x : Int32) : ¬ (x &&& 255) < 0 := by
  obtain ⟨j, hj, e⟩ := pk_andE x (m := 255) 8 (by decide)
  rw [e]
  exact nI_pos (by omega)
theorem zx_cond {post : Int32 → Prop} {U R C cn : Nat} {wl fc : Int32} {dj cl pm asg rk ra rt rp rn wr wa la ds pv ar fs : Nat → Int32} {x : Int32} (h0 : ¬ ((x.toUInt32 >>> ((16 : Int32).toUInt32 &&& Int32.toUInt32 31)).toInt32 = 0 ∧ ¬ ((1 : Int32) <<< (nI R &&& 31)) ≤ (x &&& 255) ∧ ¬ ((1 : Int32) <<< (nI R &&& 31)) ≤ (((x.toUInt32 >>> ((8 : Int32).toUInt32 &&& Int32.toUInt32 31)).toInt32) &&& 255) ∧ ((x &&& 255) &&& (((x.toUInt32 >>> ((8 : Int32).toUInt32 &&& Int32.toUInt32 31)).toInt32) &&& 255)) = 0) → post 0)
    (h1 : ((x.toUInt32 >>> ((16 : Int32).toUInt32 &&& Int32.toUInt32 31)).toInt32 = 0 ∧ ¬ ((1 : Int32) <<< (nI R &&& 31)) ≤ (x &&& 255) ∧ ¬ ((1 : Int32) <<< (nI R &&& 31)) ≤ (((x.toUInt32 >>> ((8 : Int32).toUInt32 &&& Int32.toUInt32 31)).toInt32) &&& 255) ∧ ((x &&& 255) &&& (((x.toUInt32 >>> ((8 : Int32).toUInt32 &&& Int32.toUInt32 31)).toInt32) &&& 255)) = 0) → post 1) : wpX_isCondition post (nI U, nI R, nI C, nI cn, wl, fc, dj, cl, pm, asg, rk, ra, rt, rp, rn, wr, wa, la, ds, pv, ar, fs) x := by
  refine br_c (fun a => ?_) (fun a => h0 (fun z => a z.1))
  unfold wpX_positivePart wpX_negativePart
  refine br_f (zi_np _) (br_c (fun b => br_t rfl (h0 (fun z => z.2.1 b))) (fun b => br_f (by decide) ?_))
  refine br_f (zi_np _) (br_c (fun c => br_t rfl (h0 (fun z => z.2.2.1 c))) (fun c => br_f (by decide) ?_))
  exact br_c (fun d => h1 ⟨a, b, c, d⟩) (fun d => h0 (fun z => d z.2.2.2))
theorem i_vc_addRule {k : Nat} {u : SX} {v : SY} (I : i_Rel k u v) (hk : k + 5 ≤ 2563) (v1 : Int32) (v2 : Int32) (v3 : Int32) (v4 : Int32) : wpX_addRule (fun r u' => wpY_addRule (fun r' v' => r' = r ∧ i_Rel (k + 5) u' v') v v1 v2 v3 v4) u v1 v2 v3 v4 := by
  obtain ⟨U, R, C, cn, wl, fc, dj, cl, pm, asg, rk, ra, rt, rp, rn, wr, wa, la, ds, pv, ar, fs, ed, ef, dg, se, ok, rfl, rfl, K⟩ := I
  obtain ⟨hU, hR, hC, hcn, hwl, H, ha, hr⟩ := id K
  have hR8 := hR.2
  refine pk_lt cn C (fun hl => ?_) (fun hl => ?_)
  · have hY : ∀ post : Int32 → SY → Prop, ((v1 = 1 → wY_addRule_26 post v1 v2 v3 v4 (nI U) (nI R) (nI C) (nI cn) wl ed asg pm rk ra rt rp rn wr wa ef dg se ok) ∧ (¬ v1 = 1 → ((v1 = 2 → wY_addRule_26 post v1 v2 v3 v4 (nI U) (nI R) (nI C) (nI cn) wl ed asg pm rk ra rt rp rn wr wa ef dg se ok) ∧ (¬ v1 = 2 → post (-1) (nI U, nI R, nI C, nI cn, wl, ed, asg, pm, rk, ra, rt, rp, rn, wr, wa, ef, dg, se, ok))))) → wpY_addRule post (nI U, nI R, nI C, nI cn, wl, ed, asg, pm, rk, ra, rt, rp, rn, wr, wa, ef, dg, se, ok) v1 v2 v3 v4 :=
      fun post h => br_f (fun z => absurd ((nI_eq (by omega) (by omega)).mp z) (by omega)) h
    have hM : (∀ post : Int32 → SY → Prop, wY_addRule_26 post v1 v2 v3 v4 (nI U) (nI R) (nI C) (nI cn) wl ed asg pm rk ra rt rp rn wr wa ef dg se ok → wpY_addRule post (nI U, nI R, nI C, nI cn, wl, ed, asg, pm, rk, ra, rt, rp, rn, wr, wa, ef, dg, se, ok) v1 v2 v3 v4) → wX_addRule_26 (fun r u' => wpY_addRule (fun r' v' => r' = r ∧ i_Rel (k + 5) u' v') (nI U, nI R, nI C, nI cn, wl, ed, asg, pm, rk, ra, rt, rp, rn, wr, wa, ef, dg, se, ok) v1 v2 v3 v4) v1 v2 v3 v4 (nI U) (nI R) (nI C) (nI cn) wl fc dj cl pm asg rk ra rt rp rn wr wa la ds pv ar fs := by
      intro hy
      unfold wX_addRule_26
      rcases zi_io v2 (n := R) (by omega) with h2 | ⟨a, ha2, rfl⟩
      · refine zx_roleN h2 (br_t rfl (hy _ ?_))
        unfold wY_addRule_26
        exact zy_roleN h2 (br_f (by decide) ⟨rfl, zi_mk _ K⟩)
      · refine zx_roleY hR8 ha2 (br_f (by decide) ?_)
        rcases zi_io v3 (n := R) (by omega) with h3 | ⟨t, ht, rfl⟩
        · refine zx_roleN h3 (br_t rfl (hy _ ?_))
          unfold wY_addRule_26
          exact zy_roleY hR8 ha2 (br_t rfl (zy_roleN h3 (br_f (by decide) ⟨rfl, zi_mk _ K⟩)))
        · refine zx_roleY hR8 ht (br_f (by decide) (zx_cond (fun hz => br_t rfl (hy _ ?_)) (fun hz => br_f (by decide) ?_)))
          · unfold wY_addRule_26
            refine zy_roleY hR8 ha2 (br_t rfl (zy_roleY hR8 ht (br_t rfl (br_c (fun a1 => nm_e (nm_e ?_)) (fun _ => ⟨rfl, zi_mk _ K⟩)))))
            exact br_c (fun _ => ⟨rfl, zi_mk _ K⟩) (fun b1 => br_c (fun _ => ⟨rfl, zi_mk _ K⟩) (fun c1 => br_c (fun d1 => absurd ⟨a1, b1, c1, d1⟩ hz) (fun _ => ⟨rfl, zi_mk _ K⟩)))
          · have hi := pk_in cn 16 (show cn < 16 by omega)
            rw [nI_clamp (show cn < 2 ^ 31 by omega)]
            refine ⟨hi, nm_e ⟨hi, nm_e ⟨hi, nm_e ?_⟩⟩⟩
            unfold wpX_positivePart
            refine ⟨hi, nm_e ?_⟩
            unfold wpX_negativePart
            refine ⟨hi, nm_e (nm_r (nI_1 cn) (hy _ ?_))⟩
            unfold wY_addRule_26
            refine zy_roleY hR8 ha2 (br_t rfl (zy_roleY hR8 ht (br_t rfl (br_t hz.1 (nm_e (nm_e (br_f hz.2.1 (br_f hz.2.2.1 (br_t hz.2.2.2 ?_)))))))))
            rw [nI_clamp (show cn < 2 ^ 31 by omega)]
            refine ⟨hi, nm_e ⟨hi, nm_e ⟨hi, nm_e ⟨hi, nm_e ⟨hi, nm_e (nm_r (nI_1 cn) ⟨nI_pred cn, zi_mk _ ?_⟩)⟩⟩⟩⟩⟩
            exact ⟨hU, hR, hC, hl, hwl, H, ha, zi_ruA hr ha2 ht⟩
    refine br_c (fun e1 => ?_) (fun e1 => br_c (fun e2 => ?_) (fun e2 => ?_))
    · exact hM (fun post h => hY post (br_t e1 h))
    · exact hM (fun post h => hY post (br_f e1 (br_t e2 h)))
    · exact hY _ (br_f e1 (br_f e2 ⟨rfl, zi_mk _ K⟩))
  · have e : cn = C := by omega
    exact br_t (by rw [e]) ⟨rfl, zi_mk _ K⟩
theorem i_vc_act {k : Nat} {u : SX} {v : SY} (I : i_Rel k u v) (hk : k + 5 ≤ 2563) (v1 : Int32) (v2 : Int32) (v3 : Int32) : wpX_act (fun r u' => wpY_act (fun r' v' => r' = r ∧ i_Rel (k + 5) u' v') v v1 v2 v3) u v1 v2 v3 := by
  obtain ⟨U, R, C, cn, wl, fc, dj, cl, pm, asg, rk, ra, rt, rp, rn, wr, wa, la, ds, pv, ar, fs, ed, ef, dg, se, ok, rfl, rfl, K⟩ := I
  obtain ⟨hU, hR, hC, hcn, hwl, H, ha, hr⟩ := id K
  have hR8 := hR.2
  have hU8 := hU.2
  unfold wpX_act
  rcases zi_io v1 (n := U) (by omega) with h1 | ⟨w, hw, rfl⟩
  · refine zx_userN h1 (br_t rfl ?_)
    unfold wpY_act
    exact zy_userN h1 (br_f (by decide) ⟨rfl, zi_mk _ K⟩)
  · refine zx_userY hU8 hw (br_f (by decide) ?_)
    rcases zi_io v2 (n := U) (by omega) with h2 | ⟨x, hx, rfl⟩
    · refine zx_userN h2 (br_t rfl ?_)
      unfold wpY_act
      exact zy_userY hU8 hw (br_t rfl (zy_userN h2 (br_f (by decide) ⟨rfl, zi_mk _ K⟩)))
    · refine zx_userY hU8 hx (br_f (by decide) ?_)
      rcases zi_io v3 (n := cn) (by omega) with h3 | ⟨i, hi, rfl⟩
      · refine zx_ruleN h3 (br_t rfl ?_)
        unfold wpY_act
        exact zy_userY hU8 hw (br_t rfl (zy_userY hU8 hx (br_t rfl (br_c (fun _ => ⟨rfl, zi_mk _ K⟩) (fun z => h3.elim (fun y => absurd y z) (fun y => br_f (Int32.not_lt.mpr y) ⟨rfl, zi_mk _ K⟩))))))
      · refine zx_ruleY (by omega) hi (br_f (by decide) ?_)
        obtain ⟨⟨a, ha2, ea⟩, t, ht, et⟩ := hr i hi
        have hin := pk_in i 16 (show i < 16 by omega)
        have hxn := pk_in x 8 (show x < 8 by omega)
        have hwn := pk_in w 8 (show w < 8 by omega)
        have hY : ∀ post : Int32 → SY → Prop, ((w = x → post (-5) (nI U, nI R, nI C, nI cn, wl, ed, asg, pm, rk, ra, rt, rp, rn, wr, wa, ef, dg, se, ok)) ∧ (w ≠ x → (bt (zx_ex cl (asg w) R) a = false → post (-6) (nI U, nI R, nI C, nI cn, wl, ed, asg, pm, rk, ra, rt, rp, rn, wr, wa, ef, dg, se, ok)) ∧ (bt (zx_ex cl (asg w) R) a = true → (¬ ((zx_ex cl (asg x) R &&& rp i) = rp i ∧ (zx_ex cl (asg x) R &&& rn i) = 0) → post (-7) (nI U, nI R, nI C, nI cn, wl, ed, asg, pm, rk, ra, rt, rp, rn, wr, wa, ef, dg, se, ok)) ∧ (((zx_ex cl (asg x) R &&& rp i) = rp i ∧ (zx_ex cl (asg x) R &&& rn i) = 0) → (¬ (bt (asg x) t = decide (¬ rk i = 1)) → post (-3) (nI U, nI R, nI C, nI cn, wl, ed, asg, pm, rk, ra, rt, rp, rn, wr, wa, ef, dg, se, ok)) ∧ (bt (asg x) t = decide (¬ rk i = 1) → post 0 (nI U, nI R, nI C, nI cn, wl, ed, upd asg x (zr_x rk rt (asg x) i), pm, rk, ra, rt, rp, rn, wr, wa, ef, dg, se, ok)))))) → wpY_act post (nI U, nI R, nI C, nI cn, wl, ed, asg, pm, rk, ra, rt, rp, rn, wr, wa, ef, dg, se, ok) (nI w) (nI x) (nI i) := by
          intro post hp
          unfold wpY_act
          refine zy_userY hU8 hw (br_t rfl (zy_userY hU8 hx (br_t rfl (br_f (nI_pos (by omega)) (br_t (nI_lt hi (by omega)) (pk_eq w x (fun e => hp.1 e) (fun e => ⟨hwn, ?_⟩)))))))
          have hp2 := hp.2 e
          rw [nI_clamp (show w < 2 ^ 31 by omega), nI_clamp (show x < 2 ^ 31 by omega), nI_clamp (show i < 2 ^ 31 by omega), ea, et]
          refine zy_eff H ⟨hin, br_c (fun y => hp2.1 ((zb_rs _ (by omega)).mp y)) (fun y => ⟨hxn, zy_eff H ⟨hin, hin, ?_⟩⟩)⟩
          have hp3 := hp2.2 (zb_nf (fun w => y ((zb_rs _ (by omega)).mpr w)))
          refine br_c (fun y1 => ⟨hin, br_c (fun y2 => ⟨hxn, hin, ?_⟩) (fun y2 => hp3.1 (fun z => y2 z.2))⟩) (fun y1 => hp3.1 (fun z => y1 z.1))
          have hp4 := hp3.2 ⟨y1, y2⟩
          unfold zr_x at hp4
          unfold wY_act_131
          rw [nI_clamp (show i < 2 ^ 31 by omega), nI_clamp (show x < 2 ^ 31 by omega)]
          refine br_c (fun y3 => ⟨hin, br_c (fun k1 => br_t rfl ⟨hxn, hin, hxn, nm_e ?_⟩) (fun k1 => br_t rfl (hp4.1 ?_))⟩) (fun y3 => ⟨hin, br_c (fun k1 => br_f (by decide) (hp4.1 ?_)) (fun k1 => br_f (by decide) ⟨hxn, hin, hxn, nm_e ?_⟩)⟩)
          · rw [if_pos k1] at hp4
            exact hp4.2 (by rw [(zb_rs _ (by omega)).mp y3, show decide (¬ rk i = 1) = false from decide_eq_false (fun w => w k1)])
          · rw [(zb_rs _ (by omega)).mp y3, decide_eq_true k1]
            decide
          · rw [zb_nf (fun w => y3 ((zb_rs _ (by omega)).mpr w)), show decide (¬ rk i = 1) = false from decide_eq_false (fun w => w k1)]
            decide
          · rw [if_neg k1] at hp4
            exact hp4.2 (by rw [zb_nf (fun w => y3 ((zb_rs _ (by omega)).mpr w)), decide_eq_true k1])
        refine pk_eq w x (fun e => hY _ ⟨fun _ => ⟨rfl, zi_mk _ K⟩, fun z => absurd e z⟩) (fun e => ?_)
        refine zx_may hR8 (by omega) (by omega) (by omega) ea (zb_br _ (fun b1 => ?_) (fun b1 => ⟨hxn, ?_⟩))
        · refine hY _ ⟨fun z => absurd z e, fun _ => ⟨fun _ => ⟨rfl, zi_mk _ K⟩, fun z => ?_⟩⟩
          rw [b1] at z
          exact absurd z (by decide)
        · rw [nI_clamp (show x < 2 ^ 31 by omega)]
          have f1 : ¬ bt (zx_ex cl (asg w) R) a = false := by rw [b1]; decide
          refine zx_expand hR8 (zx_meets (by omega) (zb_br _ (fun b2 => ?_) (fun b2 => ⟨hxn, zx_makes (by omega) (by omega) et (zb_br _ (fun b3 => ?_) (fun b3 => ⟨hxn, zx_res (by omega) ⟨hxn, nm_e ?_⟩⟩))⟩)))
          · exact hY _ ⟨fun z => absurd z e, fun _ => ⟨fun z => absurd z f1, fun _ => ⟨fun _ => ⟨rfl, zi_mk _ K⟩, fun z => absurd z (of_decide_eq_false b2)⟩⟩⟩
          · exact hY _ ⟨fun z => absurd z e, fun _ => ⟨fun z => absurd z f1, fun _ => ⟨fun z => absurd (of_decide_eq_true b2) z, fun _ => ⟨fun _ => ⟨rfl, zi_mk _ K⟩, fun z => absurd z (of_decide_eq_false b3)⟩⟩⟩⟩
          · refine hY _ ⟨fun z => absurd z e, fun _ => ⟨fun z => absurd z f1, fun _ => ⟨fun z => absurd (of_decide_eq_true b2) z, fun _ => ⟨fun z => absurd (of_decide_eq_true b3) z, fun _ => ⟨rfl, zi_mk _ ?_⟩⟩⟩⟩⟩
            exact ⟨hU, hR, hC, hcn, hwl, H, zi_aset (r := 0) ha (zr_xb hR8 ht et (ha x hx)), hr⟩
theorem i_vc_analyse {k : Nat} {u : SX} {v : SY} (I : i_Rel k u v) (hk : k + 5 ≤ 2563) (v1 : Int32) (v2 : Int32) : wpX_analyse (fun r u' => wpY_analyse (fun r' v' => r' = r ∧ i_Rel (k + 5) u' v') v v1 v2) u v1 v2 := by
  obtain ⟨U, R, C, cn, wl, fc, dj, cl, pm, asg, rk, ra, rt, rp, rn, wr, wa, la, ds, pv, ar, fs, ed, ef, dg, se, ok, rfl, rfl, K⟩ := I
  obtain ⟨hU, hR, hC, hcn, hwl, H, ha, hr⟩ := id K
  have hR8 := hR.2
  have hU8 := hU.2
  rcases zi_io v1 (n := U) (by omega) with h1 | ⟨x, hx, rfl⟩
  · unfold wpX_analyse
    refine zx_userN h1 (br_t rfl ?_)
    unfold wpY_analyse
    exact zy_userN h1 (br_f (by decide) ⟨rfl, zi_mk _ K⟩)
  · rcases zi_io v2 (n := R) (by omega) with h2 | ⟨g, hg, rfl⟩
    · unfold wpX_analyse
      refine zx_userY hU8 hx (br_f (by decide) (zx_roleN h2 (br_t rfl ?_)))
      unfold wpY_analyse
      exact zy_userY hU8 hx (br_t rfl (zy_roleN h2 (br_f (by decide) ⟨rfl, zi_mk _ K⟩)))
    · obtain ⟨st, hst, eu⟩ := zb_of (ha x hx)
      refine zx_analyse hR8 hU8 (by omega) hr hx hg hst eu (fun hn fc la ds pv ar fs => ?_) (fun p hm hl fc la ds pv ar fs => ?_)
      · refine zy_ana H hU8 (by omega) hr hx hg hst eu (Or.inl ⟨hn, fun ef dg ok => ⟨rfl, zi_mk _ ?_⟩⟩)
        exact ⟨hU, hR, hC, hcn, Or.inl rfl, H, ha, hr⟩
      · refine zy_ana H hU8 (by omega) hr hx hg hst eu (Or.inr ⟨p, hm, hl, fun ef dg ok => ⟨rfl, zi_mk _ ?_⟩⟩)
        exact ⟨hU, hR, hC, hcn, Or.inr ⟨p.length, hl, rfl⟩, H, ha, hr⟩
theorem i_vc_witnessLength {k : Nat} {u : SX} {v : SY} (I : i_Rel k u v) (hk : k + 5 ≤ 2563) : wpX_witnessLength (fun r => wpY_witnessLength (fun r' => r' = r ∧ i_Rel (k + 5) u v) v) u := by
  obtain ⟨U, R, C, cn, wl, fc, dj, cl, pm, asg, rk, ra, rt, rp, rn, wr, wa, la, ds, pv, ar, fs, ed, ef, dg, se, ok, rfl, rfl, K⟩ := I
  exact ⟨rfl, zi_mk _ K⟩
theorem zi_wl {wl x : Int32} (h : wl = -1 ∨ ∃ L, L ≤ 255 ∧ wl = nI L) (h0 : ¬ x < 0) (h1 : ¬ wl ≤ x) : ∃ j, j < 256 ∧ x = nI j := by
  obtain ⟨j, hj, rfl⟩ := nI_of h0
  rcases h with e | ⟨L, hL, e⟩
  · rw [e] at h1
    exact absurd (Int32.le_trans (by decide : (-1 : Int32) ≤ 0) (nI_pos' hj)) h1
  · rw [e, nI_leI (by omega) hj] at h1
    exact ⟨j, by omega, rfl⟩
theorem i_vc_witnessRule {k : Nat} {u : SX} {v : SY} (I : i_Rel k u v) (hk : k + 5 ≤ 2563) (v1 : Int32) : wpX_witnessRule (fun r => wpY_witnessRule (fun r' => r' = r ∧ i_Rel (k + 5) u v) v v1) u v1 := by
  obtain ⟨U, R, C, cn, wl, fc, dj, cl, pm, asg, rk, ra, rt, rp, rn, wr, wa, la, ds, pv, ar, fs, ed, ef, dg, se, ok, rfl, rfl, K⟩ := I
  unfold wpX_witnessRule
  refine br_c (fun z => br_t rfl (br_t z ⟨rfl, zi_mk _ K⟩)) (fun z => br_c (fun y => br_t rfl (br_f z (br_t y ⟨rfl, zi_mk _ K⟩))) (fun y => br_f (by decide) ?_))
  obtain ⟨j, hj, rfl⟩ := zi_wl K.2.2.2.2.1 z y
  exact ⟨pk_in j 256 hj, br_f z (br_f y (br_t (nI_lt (b := 256) hj (by decide)) ⟨pk_in j 256 hj, rfl, zi_mk _ K⟩))⟩
theorem i_vc_witnessAdmin {k : Nat} {u : SX} {v : SY} (I : i_Rel k u v) (hk : k + 5 ≤ 2563) (v1 : Int32) : wpX_witnessAdmin (fun r => wpY_witnessAdmin (fun r' => r' = r ∧ i_Rel (k + 5) u v) v v1) u v1 := by
  obtain ⟨U, R, C, cn, wl, fc, dj, cl, pm, asg, rk, ra, rt, rp, rn, wr, wa, la, ds, pv, ar, fs, ed, ef, dg, se, ok, rfl, rfl, K⟩ := I
  unfold wpX_witnessAdmin
  refine br_c (fun z => br_t rfl (br_t z ⟨rfl, zi_mk _ K⟩)) (fun z => br_c (fun y => br_t rfl (br_f z (br_t y ⟨rfl, zi_mk _ K⟩))) (fun y => br_f (by decide) ?_))
  obtain ⟨j, hj, rfl⟩ := zi_wl K.2.2.2.2.1 z y
  exact ⟨pk_in j 256 hj, br_f z (br_f y (br_t (nI_lt (b := 256) hj (by decide)) ⟨pk_in j 256 hj, rfl, zi_mk _ K⟩))⟩
theorem i_vc_reachableRoles {k : Nat} {u : SX} {v : SY} (I : i_Rel k u v) (hk : k + 5 ≤ 2563) (v1 : Int32) : wpX_reachableRoles (fun r u' => wpY_reachableRoles (fun r' v' => r' = r ∧ i_Rel (k + 5) u' v') v v1) u v1 := by
  obtain ⟨U, R, C, cn, wl, fc, dj, cl, pm, asg, rk, ra, rt, rp, rn, wr, wa, la, ds, pv, ar, fs, ed, ef, dg, se, ok, rfl, rfl, K⟩ := I
  obtain ⟨hU, hR, hC, hcn, hwl, H, ha, hr⟩ := id K
  have hR8 := hR.2
  have hU8 := hU.2
  have h8 := zb_p8 hR8
  rcases zi_io v1 (n := U) (by omega) with h1 | ⟨x, hx, rfl⟩
  · unfold wpX_reachableRoles
    refine zx_userN h1 (br_t rfl ?_)
    unfold wpY_reachableRoles
    exact zy_userN h1 (br_f (by decide) ⟨rfl, zi_mk _ K⟩)
  · obtain ⟨st, hst, eu⟩ := zb_of (ha x hx)
    refine zx_reach hR8 hU8 (by omega) hr hx hst eu (fun n Q P y he hq hy fc la ds pv ar fs => ?_)
    refine zy_rch H hU8 (by omega) hr hx hst eu (fun ef se ok y' hs hc hy' => ⟨?_, zi_mk _ K⟩)
    apply zo_ext
    intro b
    rw [hy b, hy' b]
    constructor
    · intro ⟨s, h1, h2, h3⟩
      obtain ⟨q, hq2⟩ := hs s h1 h2
      obtain ⟨j, j1, j2, _⟩ := zp_fnd he hq2
      exact ⟨j, j1, by rw [j2]; exact h3⟩
    · intro ⟨j, h1, h2⟩
      have hqj := hq j h1
      exact ⟨Q j, by omega, hc (P (Q j)) (Q j) (he.2.2.2.1 j h1) (by omega), h2⟩
theorem i_vc_explicitRoles {k : Nat} {u : SX} {v : SY} (I : i_Rel k u v) (hk : k + 5 ≤ 2563) (v1 : Int32) : wpX_explicitRoles (fun r => wpY_explicitRoles (fun r' => r' = r ∧ i_Rel (k + 5) u v) v v1) u v1 := by
  obtain ⟨U, R, C, cn, wl, fc, dj, cl, pm, asg, rk, ra, rt, rp, rn, wr, wa, la, ds, pv, ar, fs, ed, ef, dg, se, ok, rfl, rfl, K⟩ := I
  obtain ⟨hU, hR, hC, hcn, hwl, H, ha, hr⟩ := id K
  have hU8 := hU.2
  unfold wpX_explicitRoles
  rcases zi_io v1 (n := U) (by omega) with h1 | ⟨x, hx, rfl⟩
  · refine zx_userN h1 (br_t rfl ?_)
    unfold wpY_explicitRoles
    exact zy_userN h1 (br_f (by decide) ⟨rfl, zi_mk _ K⟩)
  · refine zx_userY hU8 hx (br_f (by decide) ⟨pk_in x 8 (by omega), ?_⟩)
    unfold wpY_explicitRoles
    exact zy_userY hU8 hx (br_t rfl ⟨pk_in x 8 (by omega), rfl, zi_mk _ K⟩)
theorem i_vc_effectiveRoles {k : Nat} {u : SX} {v : SY} (I : i_Rel k u v) (hk : k + 5 ≤ 2563) (v1 : Int32) : wpX_effectiveRoles (fun r => wpY_effectiveRoles (fun r' => r' = r ∧ i_Rel (k + 5) u v) v v1) u v1 := by
  obtain ⟨U, R, C, cn, wl, fc, dj, cl, pm, asg, rk, ra, rt, rp, rn, wr, wa, la, ds, pv, ar, fs, ed, ef, dg, se, ok, rfl, rfl, K⟩ := I
  obtain ⟨hU, hR, hC, hcn, hwl, H, ha, hr⟩ := id K
  have hU8 := hU.2
  unfold wpX_effectiveRoles
  rcases zi_io v1 (n := U) (by omega) with h1 | ⟨x, hx, rfl⟩
  · refine zx_userN h1 (br_t rfl ?_)
    unfold wpY_effectiveRoles
    exact zy_userN h1 (br_f (by decide) ⟨rfl, zi_mk _ K⟩)
  · refine zx_userY hU8 hx (br_f (by decide) ⟨pk_in x 8 (by omega), zx_expand H.1 ?_⟩)
    unfold wpY_effectiveRoles
    exact zy_userY hU8 hx (br_t rfl ⟨pk_in x 8 (by omega), zy_eff H ⟨rfl, zi_mk _ K⟩⟩)
theorem i_vc_juniorsOf {k : Nat} {u : SX} {v : SY} (I : i_Rel k u v) (hk : k + 5 ≤ 2563) (v1 : Int32) : wpX_juniorsOf (fun r => wpY_juniorsOf (fun r' => r' = r ∧ i_Rel (k + 5) u v) v v1) u v1 := by
  obtain ⟨U, R, C, cn, wl, fc, dj, cl, pm, asg, rk, ra, rt, rp, rn, wr, wa, la, ds, pv, ar, fs, ed, ef, dg, se, ok, rfl, rfl, K⟩ := I
  obtain ⟨hU, hR, hC, hcn, hwl, H, ha, hr⟩ := id K
  have hR8 := hR.2
  unfold wpX_juniorsOf
  rcases zi_io v1 (n := R) (by omega) with h1 | ⟨x, hx, rfl⟩
  · refine zx_roleN h1 (br_t rfl ?_)
    unfold wpY_juniorsOf
    exact zy_roleN h1 (br_f (by decide) ⟨rfl, zi_mk _ K⟩)
  · refine zx_roleY hR8 hx (br_f (by decide) ⟨pk_in x 8 (by omega), ?_⟩)
    rw [nI_clamp (show x < 2 ^ 31 by omega)]
    unfold wpY_juniorsOf
    exact zy_roleY hR8 hx (br_t rfl (zy_clo H hx ⟨rfl, zi_mk _ K⟩))
theorem zi_hp {U R C cn : Nat} {wl fc : Int32} {dj cl pm asg rk ra rt rp rn wr wa la ds pv ar fs : Nat → Int32} {ed ef dg se ok : Nat → Int32} {p : Nat} {x : Int32} (hR : R ≤ 8) (hp : p < 16) : ∀ d r : Nat, r + d = R → ∃ y : Int32, (∀ post : Int32 → Prop, post y → wX_hasPermission_31 post (nI p) x (nI U) (nI R) (nI C) (nI cn) wl fc dj cl pm asg rk ra rt rp rn wr wa la ds pv ar fs (d + 1) (nI r)) ∧ (∀ post : Int32 → Prop, post y → wY_hasPermission_34 post (nI p) x (nI U) (nI R) (nI C) (nI cn) wl ed asg pm rk ra rt rp rn wr wa ef dg se ok (d + 1) (nI r)) := by
  intro d
  induction d with
  | zero =>
    intro r hr
    have e : r = R := by omega
    subst e
    exact ⟨0, fun post h => pk_le r r (fun _ => h) (fun z => absurd z (by omega)), fun post h => pk_le r r (fun _ => h) (fun z => absurd z (by omega))⟩
  | succ d ih =>
    intro r hr
    obtain ⟨y, iX, iY⟩ := ih (r + 1) (by omega)
    cases hb : bt x r
    · refine ⟨y, fun post h => pk_le R r (fun z => absurd z (by omega)) (fun _ => zx_con (by omega) ?_), fun post h => pk_le R r (fun z => absurd z (by omega)) (fun _ => br_t ((zb_rs _ (by omega)).mpr hb) (nm_r (nI_1 r) (iY post h)))⟩
      rw [hb]
      exact br_t rfl (nm_r (nI_1 r) (iX post h))
    · have hbn : ¬ ((x >>> (nI r &&& 31)) &&& 1) = 0 := by
        intro z
        rw [(zb_rs _ (by omega)).mp z] at hb
        exact absurd hb (by decide)
      cases hc : bt (pm r) p
      · refine ⟨y, fun post h => pk_le R r (fun z => absurd z (by omega)) (fun _ => zx_con (by omega) ?_), fun post h => pk_le R r (fun z => absurd z (by omega)) (fun _ => br_f hbn ⟨pk_in r 8 (by omega), ?_⟩)⟩
        · rw [hb, nI_clamp (show r < 2 ^ 31 by omega)]
          refine br_f (by decide) ⟨pk_in r 8 (by omega), zx_con (by omega) ?_⟩
          rw [hc]
          exact br_t rfl (nm_r (nI_1 r) (iX post h))
        · rw [nI_clamp (show r < 2 ^ 31 by omega)]
          exact br_t ((zb_rs _ (by omega)).mpr hc) (nm_r (nI_1 r) (iY post h))
      · refine ⟨1, fun post h => pk_le R r (fun z => absurd z (by omega)) (fun _ => zx_con (by omega) ?_), fun post h => pk_le R r (fun z => absurd z (by omega)) (fun _ => br_f hbn ⟨pk_in r 8 (by omega), ?_⟩)⟩
        · rw [hb, nI_clamp (show r < 2 ^ 31 by omega)]
          refine br_f (by decide) ⟨pk_in r 8 (by omega), zx_con (by omega) ?_⟩
          rw [hc]
          exact br_f (by decide) h
        · rw [nI_clamp (show r < 2 ^ 31 by omega)]
          refine br_f (fun z => ?_) h
          rw [(zb_rs _ (by omega)).mp z] at hc
          exact absurd hc (by decide)
theorem i_vc_hasPermission {k : Nat} {u : SX} {v : SY} (I : i_Rel k u v) (hk : k + 5 ≤ 2563) (v1 : Int32) (v2 : Int32) : wpX_hasPermission (fun r => wpY_hasPermission (fun r' => r' = r ∧ i_Rel (k + 5) u v) v v1 v2) u v1 v2 := by
  obtain ⟨U, R, C, cn, wl, fc, dj, cl, pm, asg, rk, ra, rt, rp, rn, wr, wa, la, ds, pv, ar, fs, ed, ef, dg, se, ok, rfl, rfl, K⟩ := I
  obtain ⟨hU, hR, hC, hcn, hwl, H, ha, hr⟩ := id K
  have hU8 := hU.2
  unfold wpX_hasPermission
  rcases zi_io v1 (n := U) (by omega) with h1 | ⟨x, hx, rfl⟩
  · refine zx_userN h1 (br_t rfl ?_)
    unfold wpY_hasPermission
    exact zy_userN h1 (br_f (by decide) ⟨rfl, zi_mk _ K⟩)
  · refine zx_userY hU8 hx (br_f (by decide) ?_)
    rcases zi_io v2 (n := 16) (by omega) with h2 | ⟨p, hp, rfl⟩
    · refine zi_no (n := 16) h2 (br_t rfl ?_)
      unfold wpY_hasPermission
      exact zy_userY hU8 hx (br_t rfl (br_c (fun _ => ⟨rfl, zi_mk _ K⟩) (fun z => h2.elim (fun y => absurd y z) (fun y => br_f (zi_16 y) ⟨rfl, zi_mk _ K⟩))))
    · refine zi_ys (n := 16) (by omega) hp (br_f (by decide) ⟨pk_in x 8 (by omega), zx_expand H.1 ?_⟩)
      obtain ⟨y, iX, iY⟩ := zi_hp (x := zx_ex cl (asg (nI x).toNatClampNeg) R) (C := C) (cn := cn) (wl := wl) (fc := fc) (dj := dj) (cl := cl) (pm := pm) (asg := asg) (rk := rk) (ra := ra) (rt := rt) (rp := rp) (rn := rn) (wr := wr) (wa := wa) (la := la) (ds := ds) (pv := pv) (ar := ar) (fs := fs) (ed := ed) (ef := ef) (dg := dg) (se := se) (ok := ok) (U := U) H.1 hp R 0 (by omega)
      refine ⟨R + 1, iX _ ?_⟩
      unfold wpY_hasPermission
      refine zy_userY hU8 hx (br_t rfl (br_f (nI_pos (by omega)) (br_t (zi_15 hp) ⟨pk_in x 8 (by omega), zy_eff H ⟨R + 1, iY _ ⟨rfl, zi_mk _ K⟩⟩⟩)))
