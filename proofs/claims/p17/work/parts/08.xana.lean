section
variable {U R C cn : Nat} {wl fc : Int32} {dj cl pm asg rk ra rt rp rn wr wa la ds pv ar fs : Nat → Int32}
theorem zx_analyse {post : Int32 → St2 → Prop} {u g st : Nat} (hR : R ≤ 8) (hU : U ≤ 8) (hc : cn ≤ 16) (hr : zi_ru cn R ra rt) (hu : u < U) (hg : g < R) (hst : st < 2 ^ R) (eu : asg u = nI st)
    (h2 : (∀ q t, zp_run (zr_ap cn R cl (zl_a U R u cl asg ra) rk rt rp rn) (zr_go rk rt) q st t → ¬ bt (zr_ef cl R t) g = true) → ∀ (fc : Int32) (la ds pv ar fs : Nat → Int32), post 2 (nI U, nI R, nI C, nI cn, -1, fc, dj, cl, pm, asg, rk, ra, rt, rp, rn, wr, wa, la, ds, pv, ar, fs))
    (h1 : ∀ p, zp_min (zr_ap cn R cl (zl_a U R u cl asg ra) rk rt rp rn) (zr_go rk rt) (fun t => bt (zr_ef cl R t) g = true) st p → p.length ≤ 255 → ∀ (fc : Int32) (la ds pv ar fs : Nat → Int32), post 1 (nI U, nI R, nI C, nI cn, nI p.length, fc, dj, cl, pm, asg, rk, ra, rt, rp, rn, zs_put nI wr p, zs_put (zl_a U R u cl asg ra) wa p, la, ds, pv, ar, fs)) :
    wpX_analyse post (nI U, nI R, nI C, nI cn, wl, fc, dj, cl, pm, asg, rk, ra, rt, rp, rn, wr, wa, la, ds, pv, ar, fs) (nI u) (nI g) := by
  have h8 := zb_p8 hR
  unfold wpX_analyse
  refine zx_userY hU hu (br_f (by decide) (zx_roleY hR hg (br_f (by decide) ?_)))
  refine zx_search hR hU hc hr hu hst eu (fun la ds pv ar fs n Q P hl hv => ?_)
  have hq := hv.2.2.1
  refine zx_first (Q := Q) hR (by omega) hv.2.1 (fun j hj => (hq j hj).2.1) (fun j hj hT hn => ?_) (fun hn => ?_)
  · have hjq := hq j hj
    have hn256 := hv.2.1
    have hm : zp_min (zr_ap cn R cl (zl_a U R u cl asg ra) rk rt rp rn) (zr_go rk rt) (fun t => bt (zr_ef cl R t) g = true) st (P (Q j)) := zp_fst hv.1 hj hT hn
    have hx := h1 (P (Q j)) hm (by omega) (nI n) la ds pv ar fs
    refine br_f (zs_m1 (by omega)) ⟨pk_in (Q j) 256 (by omega), ?_⟩
    rw [nI_clamp (show Q j < 2 ^ 31 by omega), hjq.2.2.1]
    refine nm_e (nm_e ⟨(P (Q j)).length + 1, ?_⟩)
    exact zx_store hR hc (fun s i h => h.1) hl hv (P (Q j)).length j _ _ wr wa hj rfl (by omega) rfl hx
  · exact br_t rfl (h2 (fun q t hrun => zp_non (T := fun t => bt (zr_ef cl R t) g = true) hv.1 hn hrun) (nI n) la ds pv ar fs)
theorem zx_reach {post : Int32 → St2 → Prop} {u st : Nat} (hR : R ≤ 8) (hU : U ≤ 8) (hc : cn ≤ 16) (hr : zi_ru cn R ra rt) (hu : u < U) (hst : st < 2 ^ R) (eu : asg u = nI st)
    (h : ∀ (n : Nat) (Q : Nat → Nat) (P : Nat → List Nat) (x : Int32), zp_end (zr_ap cn R cl (zl_a U R u cl asg ra) rk rt rp rn) (zr_go rk rt) st n Q P → (∀ j, j < n → Q j < 2 ^ R ∧ (P (Q j)).length ≤ 255) → (∀ b, bt x b = true ↔ ∃ j, j < n ∧ bt (zr_ef cl R (Q j)) b = true) → ∀ (fc : Int32) (la ds pv ar fs : Nat → Int32), post x (nI U, nI R, nI C, nI cn, wl, fc, dj, cl, pm, asg, rk, ra, rt, rp, rn, wr, wa, la, ds, pv, ar, fs)) :
    wpX_reachableRoles post (nI U, nI R, nI C, nI cn, wl, fc, dj, cl, pm, asg, rk, ra, rt, rp, rn, wr, wa, la, ds, pv, ar, fs) (nI u) := by
  have h8 := zb_p8 hR
  unfold wpX_reachableRoles
  refine zx_userY hU hu (br_f (by decide) ?_)
  refine zx_search hR hU hc hr hu hst eu (fun la ds pv ar fs n Q P hl hv => ?_)
  have hq := hv.2.2.1
  have hn := hv.2.1
  have H : ∀ (d i m : Nat) (x : Int32), i + d = n → d < m → (∀ b, bt x b = true ↔ ∃ j, j < i ∧ bt (zr_ef cl R (Q j)) b = true) → wX_reachableRoles_19 post (nI U) (nI R) (nI C) (nI cn) wl (nI n) dj cl pm asg rk ra rt rp rn wr wa la ds pv ar fs m x (nI i) := by
    intro d
    induction d with
    | zero =>
      intro i m x hi hm hx
      obtain ⟨m, rfl⟩ : ∃ k, m = k + 1 := ⟨m - 1, by omega⟩
      have e : i = n := by omega
      subst e
      exact pk_le i i (fun _ => h i Q P x hv.1 (fun j hj => ⟨(hq j hj).1, by have := (hq j hj).2.2.2; omega⟩) hx (nI i) la ds pv ar fs) (fun z => absurd z (by omega))
    | succ d ih =>
      intro i m x hi hm hx
      obtain ⟨m, rfl⟩ : ∃ k, m = k + 1 := ⟨m - 1, by omega⟩
      refine pk_le n i (fun z => absurd z (by omega)) (fun _ => ⟨pk_in i 256 (by omega), ?_⟩)
      rw [nI_clamp (show i < 2 ^ 31 by omega), (hq i (by omega)).2.1]
      refine zx_expand hR (nm_e (nm_r (nI_1 i) (ih (i + 1) m _ (by omega) (by omega) (fun b => ?_))))
      rw [b_or, Bool.or_eq_true, hx b]
      constructor
      · rintro (⟨j, h1, h2⟩ | h2)
        · exact ⟨j, by omega, h2⟩
        · exact ⟨i, by omega, h2⟩
      · intro ⟨j, h1, h2⟩
        by_cases e : j = i
        · subst e
          exact Or.inr h2
        · exact Or.inl ⟨j, by omega, h2⟩
  exact ⟨n + 1, H n 0 (n + 1) 0 (by omega) (by omega) (fun b => by rw [b_0]; exact ⟨fun z => absurd z (by decide), fun ⟨j, hj, _⟩ => absurd hj (Nat.not_lt_zero j)⟩)⟩
end
