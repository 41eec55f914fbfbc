def zb_i (b : Bool) : Int32 := if b = true then 1 else 0
theorem zb_br {A B : Prop} (b : Bool) (f : b = false → A) (g : b = true → B) : (zb_i b = 0 → A) ∧ (¬ zb_i b = 0 → B) := by
  cases b
  · exact ⟨fun _ => f rfl, fun z => absurd rfl z⟩
  · exact ⟨fun z => absurd z (by decide), fun _ => g rfl⟩
theorem zb_nar (b : Bool) : narrow .boolean (.int (zb_i b)) = .int (zb_i b) := by
  cases b <;> rfl
def zi_o (n : Nat) (x : Int32) : Prop := x < 0 ∨ nI n ≤ x
theorem zi_io (x : Int32) {n : Nat} (hn : n ≤ 256) : zi_o n x ∨ ∃ j : Nat, j < n ∧ x = nI j := by
  rcases pk_ix x (n := n) (by omega) with h | h | h
  · exact Or.inl (Or.inl h)
  · exact Or.inl (Or.inr h)
  · exact Or.inr h
theorem zi_no {x : Int32} {n : Nat} {A B : Prop} (h : zi_o n x) (a : A) : (x < 0 → A) ∧ (¬ x < 0 → ((nI n ≤ x → A) ∧ (¬ nI n ≤ x → B))) :=
  br_c (fun _ => a) (fun z => h.elim (fun y => absurd y z) (fun y => br_t y a))
theorem zi_ys {n j : Nat} {A B C : Prop} (hn : n ≤ 256) (h : j < n) (b : B) : (nI j < 0 → A) ∧ (¬ nI j < 0 → ((nI n ≤ nI j → C) ∧ (¬ nI n ≤ nI j → B))) :=
  br_f (nI_pos (by omega)) (br_f (nI_ge h (by omega)) b)
theorem zx_con {post : Int32 → Prop} {x : Int32} {l : Nat} (hl : l < 32) (h : post (zb_i (bt x l))) : wpX_contains post () x (nI l) := by
  cases hb : bt x l
  · rw [hb] at h
    exact br_t ((zb_con x hl).mpr hb) h
  · rw [hb] at h
    exact br_f (fun z => by rw [(zb_con x hl).mp z] at hb; exact absurd hb (by decide)) h
section
variable {U R C cn : Nat} {wl fc : Int32} {dj cl pm asg rk ra rt rp rn wr wa la ds pv ar fs : Nat → Int32}
theorem zx_roleN {post : Int32 → Prop} {x : Int32} (h : zi_o R x) (hp : post 0) : wpX_isRole post (nI U, nI R, nI C, nI cn, wl, fc, dj, cl, pm, asg, rk, ra, rt, rp, rn, wr, wa, la, ds, pv, ar, fs) x := zi_no h hp
theorem zx_roleY {post : Int32 → Prop} {j : Nat} (hR : R ≤ 8) (h : j < R) (hp : post 1) : wpX_isRole post (nI U, nI R, nI C, nI cn, wl, fc, dj, cl, pm, asg, rk, ra, rt, rp, rn, wr, wa, la, ds, pv, ar, fs) (nI j) := zi_ys (by omega) h hp
theorem zx_userN {post : Int32 → Prop} {x : Int32} (h : zi_o U x) (hp : post 0) : wpX_isUser post (nI U, nI R, nI C, nI cn, wl, fc, dj, cl, pm, asg, rk, ra, rt, rp, rn, wr, wa, la, ds, pv, ar, fs) x := zi_no h hp
theorem zx_userY {post : Int32 → Prop} {j : Nat} (hU : U ≤ 8) (h : j < U) (hp : post 1) : wpX_isUser post (nI U, nI R, nI C, nI cn, wl, fc, dj, cl, pm, asg, rk, ra, rt, rp, rn, wr, wa, la, ds, pv, ar, fs) (nI j) := zi_ys (by omega) h hp
theorem zx_ruleN {post : Int32 → Prop} {x : Int32} (h : zi_o cn x) (hp : post 0) : wpX_isRule post (nI U, nI R, nI C, nI cn, wl, fc, dj, cl, pm, asg, rk, ra, rt, rp, rn, wr, wa, la, ds, pv, ar, fs) x := zi_no h hp
theorem zx_ruleY {post : Int32 → Prop} {j : Nat} (hc : cn ≤ 16) (h : j < cn) (hp : post 1) : wpX_isRule post (nI U, nI R, nI C, nI cn, wl, fc, dj, cl, pm, asg, rk, ra, rt, rp, rn, wr, wa, la, ds, pv, ar, fs) (nI j) := zi_ys (by omega) h hp
theorem zx_expand {post : Int32 → Prop} {s : Int32} (hR : R ≤ 8) (h : post (zx_ex cl s R)) : wpX_expand post (nI U, nI R, nI C, nI cn, wl, fc, dj, cl, pm, asg, rk, ra, rt, rp, rn, wr, wa, la, ds, pv, ar, fs) s := by
  have H : ∀ d r n : Nat, r + d = R → d < n → wX_expand_4 post s (nI U) (nI R) (nI C) (nI cn) wl fc dj cl pm asg rk ra rt rp rn wr wa la ds pv ar fs n (zx_ex cl s r) (nI r) := by
    intro d
    induction d with
    | zero =>
      intro r n hr hn
      obtain ⟨n, rfl⟩ : ∃ m, n = m + 1 := ⟨n - 1, by omega⟩
      have e : r = R := by omega
      subst e
      exact pk_le r r (fun _ => h) (fun z => absurd z (by omega))
    | succ d ih =>
      intro r n hr hn
      obtain ⟨n, rfl⟩ : ∃ m, n = m + 1 := ⟨n - 1, by omega⟩
      have i := ih (r + 1) n (by omega) (by omega)
      refine pk_le R r (fun z => absurd z (by omega)) (fun _ => ?_)
      by_cases hb : bt s r = true
      · have e : zx_ex cl s (r + 1) = zx_ex cl s r ||| cl r := if_pos hb
        rw [e] at i
        refine br_f (fun z => by rw [(zb_con s (by omega)).mp z] at hb; exact absurd hb (by decide)) ⟨pk_in r 8 (by omega), ?_⟩
        exact nm_r (by rw [nI_clamp (by omega)]) (nm_r (nI_1 r) i)
      · have e : zx_ex cl s (r + 1) = zx_ex cl s r := if_neg hb
        rw [e] at i
        exact br_t ((zb_con s (by omega)).mpr (zb_nt hb)) (nm_r (nI_1 r) i)
  exact ⟨R + 1, H R 0 (R + 1) (by omega) (by omega)⟩
theorem zx_may {post : Int32 → Prop} {v i a : Nat} (hR : R ≤ 8) (hv : v < 8) (hi : i < 16) (ha : a < 32) (e : ra i = nI a) (h : post (zb_i (bt (zx_ex cl (asg v) R) a))) : wpX_mayAdminister post (nI U, nI R, nI C, nI cn, wl, fc, dj, cl, pm, asg, rk, ra, rt, rp, rn, wr, wa, la, ds, pv, ar, fs) (nI v) (nI i) := by
  refine ⟨pk_in v 8 hv, ?_⟩
  rw [nI_clamp (show v < 2 ^ 31 by omega), nI_clamp (show i < 2 ^ 31 by omega), e]
  exact zx_expand hR ⟨pk_in i 16 hi, zx_con ha ⟨zb_nar _, h⟩⟩
theorem zx_meets {post : Int32 → Prop} {i : Nat} {x : Int32} (hi : i < 16) (h : post (zb_i (decide ((x &&& rp i) = rp i ∧ (x &&& rn i) = 0)))) : wpX_meetsPreconditions post (nI U, nI R, nI C, nI cn, wl, fc, dj, cl, pm, asg, rk, ra, rt, rp, rn, wr, wa, la, ds, pv, ar, fs) (nI i) x := by
  refine ⟨pk_in i 16 hi, ?_⟩
  rw [nI_clamp (show i < 2 ^ 31 by omega)]
  refine nm_e (br_c (fun h1 => ⟨pk_in i 16 hi, br_c (fun h2 => ?_) (fun h2 => ?_)⟩) (fun h1 => ?_))
  · rw [decide_eq_true ⟨h1, h2⟩] at h
    exact h
  · rw [decide_eq_false (fun z => h2 z.2)] at h
    exact h
  · rw [decide_eq_false (fun z => h1 z.1)] at h
    exact h
theorem zx_makes {post : Int32 → Prop} {i t : Nat} {x : Int32} (hi : i < 16) (ht : t < 32) (e : rt i = nI t) (h : post (zb_i (decide (bt x t = decide (¬ rk i = 1))))) : wpX_makesChange post (nI U, nI R, nI C, nI cn, wl, fc, dj, cl, pm, asg, rk, ra, rt, rp, rn, wr, wa, la, ds, pv, ar, fs) (nI i) x := by
  refine ⟨pk_in i 16 hi, ?_⟩
  rw [nI_clamp (show i < 2 ^ 31 by omega), e]
  refine zx_con ht ⟨pk_in i 16 hi, br_c (fun h1 => ?_) (fun h1 => ?_)⟩
  · rw [show decide (¬ rk i = 1) = false from decide_eq_false (fun z => z h1)] at h
    refine zb_br _ (fun hb => ?_) (fun hb => ?_)
    · rw [hb] at h
      exact h
    · rw [hb] at h
      exact h
  · rw [decide_eq_true h1] at h
    refine ⟨zb_nar _, ?_⟩
    cases hb : bt x t
    · rw [hb] at h
      exact h
    · rw [hb] at h
      exact h
theorem zx_res {post : Int32 → Prop} {i : Nat} {x : Int32} (hi : i < 16) (h : post (zr_x rk rt x i)) : wpX_resultOf post (nI U, nI R, nI C, nI cn, wl, fc, dj, cl, pm, asg, rk, ra, rt, rp, rn, wr, wa, la, ds, pv, ar, fs) (nI i) x := by
  refine ⟨pk_in i 16 hi, pk_in i 16 hi, ?_⟩
  rw [nI_clamp (show i < 2 ^ 31 by omega)]
  unfold zr_x at h
  refine br_c (fun h1 => ?_) (fun h1 => ?_)
  · rw [if_pos h1] at h
    exact br_f (by decide) h
  · rw [if_neg h1] at h
    exact br_t rfl h
theorem zx_reb1 {post : St2 → Prop} (hR : R ≤ 8) (hd : zi_dj R dj) (h : ∀ cl', zi_cl R dj cl' → post (nI U, nI R, nI C, nI cn, wl, fc, dj, cl', pm, asg, rk, ra, rt, rp, rn, wr, wa, la, ds, pv, ar, fs)) : ∀ d rnd n : Nat, ∀ cl' : Nat → Int32, rnd + d = R → d < n → zk_c R (rnd + 1) dj cl' 0 → wX_rebuildClosures_34 post (nI U) (nI R) (nI C) (nI cn) wl fc n (nI rnd) dj cl' pm asg rk ra rt rp rn wr wa la ds pv ar fs := by
  intro d
  induction d with
  | zero =>
    intro rnd n cl' hr hn hc
    obtain ⟨n, rfl⟩ : ∃ m, n = m + 1 := ⟨n - 1, by omega⟩
    have e : rnd = R := by omega
    subst e
    exact pk_le rnd rnd (fun _ => h cl' (zk_ok hR hd (by omega) hc)) (fun z => absurd z (by omega))
  | succ d ih =>
    intro rnd n cl' hr hn hc
    obtain ⟨n, rfl⟩ : ∃ m, n = m + 1 := ⟨n - 1, by omega⟩
    refine pk_le R rnd (fun z => absurd z (by omega)) (fun _ => ?_)
    have H : ∀ f role m : Nat, ∀ c : Nat → Int32, role + f = R → f < m → zk_c R (rnd + 1) dj c role → wX_rebuildClosures_44 post (wX_rebuildClosures_34 post (nI U) (nI R) (nI C) (nI cn) wl fc n) (nI rnd) (nI U) (nI R) (nI C) (nI cn) wl fc m (nI role) dj c pm asg rk ra rt rp rn wr wa la ds pv ar fs := by
      intro f
      induction f with
      | zero =>
        intro role m c hr2 hm hz
        obtain ⟨m, rfl⟩ : ∃ k, m = k + 1 := ⟨m - 1, by omega⟩
        have e : role = R := by omega
        subst e
        refine pk_le role role (fun _ => nm_r (nI_1 rnd) ?_) (fun z => absurd z (by omega))
        exact ih (rnd + 1) n c (by omega) (by omega) (zk_rd hz)
      | succ f ih2 =>
        intro role m c hr2 hm hz
        obtain ⟨m, rfl⟩ : ∃ k, m = k + 1 := ⟨m - 1, by omega⟩
        refine pk_le R role (fun z => absurd z (by omega)) (fun _ => ⟨pk_in role 8 (by omega), ?_⟩)
        rw [nI_clamp (show role < 2 ^ 31 by omega)]
        refine zx_expand hR ⟨pk_in role 8 (by omega), nm_e (nm_r (nI_1 role) ?_)⟩
        exact ih2 (role + 1) m _ (by omega) (by omega) (zk_in hR hd (by omega) (by omega) hz)
    exact ⟨R + 1, H R 0 (R + 1) cl' (by omega) (by omega) hc⟩
theorem zx_reb {post : St2 → Prop} (hR : R ≤ 8) (hd : zi_dj R dj) (h : ∀ cl', zi_cl R dj cl' → post (nI U, nI R, nI C, nI cn, wl, fc, dj, cl', pm, asg, rk, ra, rt, rp, rn, wr, wa, la, ds, pv, ar, fs)) : wpX_rebuildClosures post (nI U, nI R, nI C, nI cn, wl, fc, dj, cl, pm, asg, rk, ra, rt, rp, rn, wr, wa, la, ds, pv, ar, fs) := by
  have H : ∀ d role n : Nat, ∀ c : Nat → Int32, role + d = R → d < n → (∀ r, r < role → c r = dj r ||| ((1 : Int32) <<< (nI r &&& 31))) → wX_rebuildClosures_2 post (nI U) (nI R) (nI C) (nI cn) wl fc n (nI role) dj c pm asg rk ra rt rp rn wr wa la ds pv ar fs := by
    intro d
    induction d with
    | zero =>
      intro role n c hr hn hc
      obtain ⟨n, rfl⟩ : ∃ m, n = m + 1 := ⟨n - 1, by omega⟩
      have e : role = R := by omega
      subst e
      exact pk_le role role (fun _ => ⟨role + 1, zx_reb1 hR hd h role 0 (role + 1) c (by omega) (by omega) (zk_st hR hc)⟩) (fun z => absurd z (by omega))
    | succ d ih =>
      intro role n c hr hn hc
      obtain ⟨n, rfl⟩ : ∃ m, n = m + 1 := ⟨n - 1, by omega⟩
      refine pk_le R role (fun z => absurd z (by omega)) (fun _ => ⟨pk_in role 8 (by omega), pk_in role 8 (by omega), nm_e (nm_r (nI_1 role) ?_)⟩)
      rw [nI_clamp (show role < 2 ^ 31 by omega)]
      refine ih (role + 1) n _ (by omega) (by omega) (fun r hr2 => ?_)
      by_cases e : r = role
      · rw [e, pk_us]
      · rw [pk_un e]
        exact hc r (by omega)
  exact ⟨R + 1, H R 0 (R + 1) cl (by omega) (by omega) (fun r hr => absurd hr (Nat.not_lt_zero r))⟩
end
