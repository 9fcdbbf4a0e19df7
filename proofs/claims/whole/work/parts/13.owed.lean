/-! the owed statements -/
def i_Rel (_ : Nat) (u : SX) (v : SY) : Prop := ∃ (n : Nat) (rc : Int32) (o w a b wt rd cm nx bh sd kp mk tg fa nt : Nat → Int32), u = ((nI n), rc, o, a, b, wt, rd, cm, nx, bh, sd, kp, mk, tg, fa, nt) ∧ v = ((nI n), o, w, a, b) ∧ rl_X n rc o w a b wt rd cm nx bh
theorem rl_i {j n : Nat} {rc : Int32} {o w a b wt rd cm nx bh sd kp mk tg fa nt : Nat → Int32} (rel : rl_X n rc o w a b wt rd cm nx bh) : i_Rel j ((nI n), rc, o, a, b, wt, rd, cm, nx, bh, sd, kp, mk, tg, fa, nt) ((nI n), o, w, a, b) := ⟨n, rc, o, w, a, b, wt, rd, cm, nx, bh, sd, kp, mk, tg, fa, nt, rfl, rfl, rel⟩
theorem rl_q {n p q : Nat} {x : Int32} (hn : n ≤ 20) (hp : p < n) (hq : q < n) (ep : x = nI p) (eq : x = nI q) : q = p := by
  rw [ep] at eq
  exact ((nI_eq (by omega) (by omega)).mp eq).symm
theorem i_up {k : Nat} {u : SX} {v : SY} (h : i_Rel k u v) : i_Rel (k + 5) u v := h
theorem i_vc0 : wpX_init (fun u => wpY_init (fun v => i_Rel 0 u v)) := by
  refine ⟨0, 0, fun _ => 0, fun _ => 0, fun _ => 0, fun _ => 0, fun _ => 0, fun _ => 0, fun _ => 0, fun _ => 0, fun _ => 0, fun _ => 0, fun _ => 0, fun _ => 0, fun _ => 0, fun _ => 0, fun _ => 0, rfl, rfl, ?_⟩
  refine ⟨⟨by omega, fun p hp => by omega⟩, ?_, fun p hp => by omega, fun p hp => by omega, fun p hp => by omega, fun p hp => by omega, fun p hp => by omega⟩
  exact (se_z.mpr (fun i _ z => by have := z.2; omega)).symm
theorem i_vc_emit {k : Nat} {u : SX} {v : SY} (I : i_Rel k u v) (hk : k + 5 ≤ 2560) (v1 : Int32) (v2 : Int32) (v3 : Int32) (v4 : Int32) : wpX_emit (fun r u' => wpY_emit (fun r' v' => r' = r ∧ i_Rel (k + 5) u' v') v v1 v2 v3 v4) u v1 v2 v3 v4 := by
  obtain ⟨n, rc, o, w, a, b, wt, rd, cm, nx, bh, sd, kp, mk, tg, fa, nt, rfl, rfl, rel⟩ := I
  have hn := rel.1.1
  refine fx_emit (fun hV => ?_) (fun hV => fy_emit (fun h => absurd h hV) (fun _ => ⟨rfl, rl_i rel⟩))
  by_cases hlt : n < 20
  · refine fx_e85 rel hV hlt (fun rc' wt' rd' cm' nx' bh' rel' => fy_emit (fun _ => ?_) (fun h => absurd hV h))
    have hi : vp_in (nI n) 20 := ix_in hlt
    unfold wY_emit_83
    rw [ix_cl hlt]
    refine br_f (by decide) (br_t (nI_lt (b := 20) hlt (by omega)) ⟨hi, nm_e ⟨hi, nm_e ⟨hi, nm_e ⟨hi, nm_e (nm_r (nI_1 n) ⟨?_, rl_i rel'⟩)⟩⟩⟩⟩)
    exact nI_pred n
  · have hge : ¬ nI n < 20 := nI_nlt (b := 20) (by omega) (by omega)
    refine br_f hge (fy_emit (fun _ => ?_) (fun h => absurd hV h))
    exact br_f (by decide) (br_f hge ⟨rfl, rl_i rel⟩)
theorem rl_drop {n : Nat} {rc : Int32} {o w a b wt rd cm nx bh nx' bh' : Nat → Int32} (rel : rl_X (n + 1) rc o w a b wt rd cm nx bh) (h1 : ∀ p, p < n → nx' p = se_S (cd_G n o b p)) (h2 : ∀ p, p < n → bh' p = se_S (fun i => fl_R n o b i ∧ fl_Bf n o b p i)) : rl_X n (se_S (fl_R n o b)) o w a b wt rd cm nx' bh' := by
  obtain ⟨ok, hR, hW, hRd, hC, hN, hB⟩ := rel
  exact ⟨⟨by have := ok.1; omega, fun p hp => ok.2 p (by omega)⟩, rfl, fun p hp => hW p (by omega), fun p hp => hRd p (by omega), fun p hp => hC p (by omega), h1, h2⟩
theorem i_vc_drop {k : Nat} {u : SX} {v : SY} (I : i_Rel k u v) (hk : k + 5 ≤ 2560) : wpX_drop (fun r u' => wpY_drop (fun r' v' => r' = r ∧ i_Rel (k + 5) u' v') v) u := by
  obtain ⟨n, rc, o, w, a, b, wt, rd, cm, nx, bh, sd, kp, mk, tg, fa, nt, rfl, rfl, rel⟩ := I
  have hn := rel.1.1
  cases n with
  | zero => exact br_t nI_0 (br_t nI_0 ⟨rfl, rl_i rel⟩)
  | succ m =>
    have hne : ¬ nI (m + 1) = 0 := nI_ne0 (by omega) (by omega)
    have ok' : cd_Ok m o w a b := ⟨by omega, fun p hp => rel.1.2 p (by omega)⟩
    refine br_f hne (nm_r (nI_pred m) (fx_survey ok' (fun nx' bh' h1 h2 => ?_)))
    exact br_f hne (nm_r (nI_pred m) ⟨rfl, rl_i (rl_drop rel h1 h2)⟩)
theorem i_vc_length {k : Nat} {u : SX} {v : SY} (I : i_Rel k u v) (hk : k + 5 ≤ 2560) : wpX_length (fun r => wpY_length (fun r' => r' = r ∧ i_Rel (k + 5) u v) v) u := by
  obtain ⟨n, rc, o, w, a, b, wt, rd, cm, nx, bh, sd, kp, mk, tg, fa, nt, rfl, rfl, rel⟩ := I
  exact ⟨rfl, rl_i rel⟩
theorem i_vc_reachable {k : Nat} {u : SX} {v : SY} (I : i_Rel k u v) (hk : k + 5 ≤ 2560) : wpX_reachable (fun r => wpY_reachable (fun r' => r' = r ∧ i_Rel (k + 5) u v) v) u := by
  obtain ⟨n, rc, o, w, a, b, wt, rd, cm, nx, bh, sd, kp, mk, tg, fa, nt, rfl, rfl, rel⟩ := I
  unfold wpX_reachable
  dsimp only
  exact fy_reachable rel.1 ⟨rel.2.1.symm, rl_i rel⟩
theorem i_vc_reaching {k : Nat} {u : SX} {v : SY} (I : i_Rel k u v) (hk : k + 5 ≤ 2560) (v1 : Int32) (v2 : Int32) : wpX_reaching (fun r u' => wpY_reaching (fun r' => r' = r ∧ i_Rel (k + 5) u' v) v v1 v2) u v1 v2 := by
  obtain ⟨n, rc, o, w, a, b, wt, rd, cm, nx, bh, sd, kp, mk, tg, fa, nt, rfl, rfl, rel⟩ := I
  have ok := rel.1
  refine fx_reaching rel (fun he p hp ep hR sd' kp' mk' tg' fa' => fy_reaching ok (fun _ q hq eq _ => ⟨?_, rl_i rel⟩) (fun hz => absurd ⟨he, p, hp, ep, hR⟩ hz)) (fun hz => fy_reaching ok (fun he q hq eq hR => absurd ⟨he, q, hq, eq, hR⟩ hz) (fun _ => ⟨rfl, rl_i rel⟩))
  rw [rl_q ok.1 hp hq ep eq]
  exact se_ext (fun i _ => (ma_0 ok hp).symm)
theorem i_vc_live {k : Nat} {u : SX} {v : SY} (I : i_Rel k u v) (hk : k + 5 ≤ 2560) (v1 : Int32) (v2 : Int32) : wpX_live (fun r u' => wpY_live (fun r' => r' = r ∧ i_Rel (k + 5) u' v) v v1 v2) u v1 v2 := by
  obtain ⟨n, rc, o, w, a, b, wt, rd, cm, nx, bh, sd, kp, mk, tg, fa, nt, rfl, rfl, rel⟩ := I
  have ok := rel.1
  refine fx_live rel (fun he p hp ep sd' kp' mk' tg' fa' => fy_live ok (fun _ q hq eq => ⟨?_, rl_i rel⟩) (fun hz => absurd ⟨he, p, hp, ep⟩ hz)) (fun hz => fy_live ok (fun he q hq eq => absurd ⟨he, q, hq, eq⟩ hz) (fun _ => ⟨rfl, rl_i rel⟩))
  rw [rl_q ok.1 hp hq ep eq]
  exact se_ext (fun i hi => (ma_1 ok hp hi).symm)
theorem i_vc_available {k : Nat} {u : SX} {v : SY} (I : i_Rel k u v) (hk : k + 5 ≤ 2560) (v1 : Int32) (v2 : Int32) : wpX_available (fun r u' => wpY_available (fun r' => r' = r ∧ i_Rel (k + 5) u' v) v v1 v2) u v1 v2 := by
  obtain ⟨n, rc, o, w, a, b, wt, rd, cm, nx, bh, sd, kp, mk, tg, fa, nt, rfl, rfl, rel⟩ := I
  have ok := rel.1
  refine fx_available rel (fun he p hp ep hR sd' kp' mk' tg' fa' => fy_available ok (fun _ q hq eq _ => ⟨?_, rl_i rel⟩) (fun hz => absurd ⟨he, p, hp, ep, hR⟩ hz)) (fun hz => fy_available ok (fun he q hq eq hR => absurd ⟨he, q, hq, eq, hR⟩ hz) (fun _ => ⟨rfl, rl_i rel⟩))
  rw [rl_q ok.1 hp hq ep eq]
  exact se_ext (fun i _ => (ma_2 ok hp).symm)
theorem i_vc_busy {k : Nat} {u : SX} {v : SY} (I : i_Rel k u v) (hk : k + 5 ≤ 2560) (v1 : Int32) (v2 : Int32) : wpX_busy (fun r u' => wpY_busy (fun r' => r' = r ∧ i_Rel (k + 5) u' v) v v1 v2) u v1 v2 := by
  obtain ⟨n, rc, o, w, a, b, wt, rd, cm, nx, bh, sd, kp, mk, tg, fa, nt, rfl, rfl, rel⟩ := I
  have ok := rel.1
  refine fx_busy rel (fun he p hp ep sd' kp' mk' tg' fa' => fy_busy ok (fun _ q hq eq => ⟨?_, rl_i rel⟩) (fun hz => absurd ⟨he, p, hp, ep⟩ hz)) (fun hz => fy_busy ok (fun he q hq eq => absurd ⟨he, q, hq, eq⟩ hz) (fun _ => ⟨rfl, rl_i rel⟩))
  rw [rl_q ok.1 hp hq ep eq]
  exact se_ext (fun i _ => (ma_3 ok hp).symm)
theorem i_vc_agree {k : Nat} {u : SX} {v : SY} (I : i_Rel k u v) (hk : k + 5 ≤ 2560) (v1 : Int32) (v2 : Int32) : wpX_agree (fun r u' => wpY_agree (fun r' => r' = r ∧ i_Rel (k + 5) u' v) v v1 v2) u v1 v2 := by
  obtain ⟨n, rc, o, w, a, b, wt, rd, cm, nx, bh, sd, kp, mk, tg, fa, nt, rfl, rfl, rel⟩ := I
  exact fx_agree rel (fun he hf sd' kp' mk' tg' fa' nt' => fy_agree (fun _ _ => ⟨rfl, rl_i rel⟩) (fun hz => absurd ⟨he, hf⟩ hz)) (fun hz => fy_agree (fun he hf => absurd ⟨he, hf⟩ hz) (fun _ => ⟨rfl, rl_i rel⟩))
theorem i_vc_before {k : Nat} {u : SX} {v : SY} (I : i_Rel k u v) (hk : k + 5 ≤ 2560) (v1 : Int32) : wpX_before (fun r => wpY_before (fun r' => r' = r ∧ i_Rel (k + 5) u v) v v1) u v1 := by
  obtain ⟨n, rc, o, w, a, b, wt, rd, cm, nx, bh, sd, kp, mk, tg, fa, nt, rfl, rfl, rel⟩ := I
  have ok := rel.1
  refine fx_before rel (fun p hp ep hR => fy_before ok (fun q hq eq _ => ⟨?_, rl_i rel⟩) (fun hz => absurd ⟨p, hp, ep, hR⟩ hz)) (fun hz => fy_before ok (fun q hq eq hR => absurd ⟨q, hq, eq, hR⟩ hz) (fun _ => ⟨rfl, rl_i rel⟩))
  rw [rl_q ok.1 hp hq ep eq]
theorem i_vc_after {k : Nat} {u : SX} {v : SY} (I : i_Rel k u v) (hk : k + 5 ≤ 2560) (v1 : Int32) : wpX_after (fun r => wpY_after (fun r' => r' = r ∧ i_Rel (k + 5) u v) v v1) u v1 := by
  obtain ⟨n, rc, o, w, a, b, wt, rd, cm, nx, bh, sd, kp, mk, tg, fa, nt, rfl, rfl, rel⟩ := I
  have ok := rel.1
  refine fx_after rel (fun p hp ep hR => fy_after ok (fun q hq eq _ => ⟨?_, rl_i rel⟩) (fun hz => absurd ⟨p, hp, ep, hR⟩ hz)) (fun hz => fy_after ok (fun q hq eq hR => absurd ⟨q, hq, eq, hR⟩ hz) (fun _ => ⟨rfl, rl_i rel⟩))
  rw [rl_q ok.1 hp hq ep eq]
theorem i_vc_frontier {k : Nat} {u : SX} {v : SY} (I : i_Rel k u v) (hk : k + 5 ≤ 2560) (v1 : Int32) : wpX_frontier (fun r => wpY_frontier (fun r' => r' = r ∧ i_Rel (k + 5) u v) v v1) u v1 := by
  obtain ⟨n, rc, o, w, a, b, wt, rd, cm, nx, bh, sd, kp, mk, tg, fa, nt, rfl, rfl, rel⟩ := I
  have ok := rel.1
  refine fx_frontier rel (fun p hp ep hR => fy_frontier ok (fun q hq eq _ => ⟨?_, rl_i rel⟩) (fun hz => absurd ⟨p, hp, ep, hR⟩ hz)) (fun hz => fy_frontier ok (fun q hq eq hR => absurd ⟨q, hq, eq, hR⟩ hz) (fun _ => ⟨rfl, rl_i rel⟩))
  rw [rl_q ok.1 hp hq ep eq]
theorem i_vc_joins {k : Nat} {u : SX} {v : SY} (I : i_Rel k u v) (hk : k + 5 ≤ 2560) (v1 : Int32) : wpX_joins (fun r => wpY_joins (fun r' => r' = r ∧ i_Rel (k + 5) u v) v v1) u v1 := by
  obtain ⟨n, rc, o, w, a, b, wt, rd, cm, nx, bh, sd, kp, mk, tg, fa, nt, rfl, rfl, rel⟩ := I
  have ok := rel.1
  exact fx_joins rel (fun g1 g2 => fy_joins ok (fun _ _ => ⟨rfl, rl_i rel⟩) (fun hz => absurd ⟨g1, g2⟩ hz)) (fun hz => fy_joins ok (fun g1 g2 => absurd ⟨g1, g2⟩ hz) (fun _ => ⟨rfl, rl_i rel⟩))
theorem i_vc_loop {k : Nat} {u : SX} {v : SY} (I : i_Rel k u v) (hk : k + 5 ≤ 2560) (v1 : Int32) : wpX_loop (fun r => wpY_loop (fun r' => r' = r ∧ i_Rel (k + 5) u v) v v1) u v1 := by
  obtain ⟨n, rc, o, w, a, b, wt, rd, cm, nx, bh, sd, kp, mk, tg, fa, nt, rfl, rfl, rel⟩ := I
  have ok := rel.1
  refine fx_loop rel (fun p hp ep hR => fy_loop ok (fun q hq eq _ => ⟨?_, rl_i rel⟩) (fun hz => absurd ⟨p, hp, ep, hR⟩ hz)) (fun hz => fy_loop ok (fun q hq eq hR => absurd ⟨q, hq, eq, hR⟩ hz) (fun _ => ⟨rfl, rl_i rel⟩))
  rw [rl_q ok.1 hp hq ep eq]
theorem i_vc_unset {k : Nat} {u : SX} {v : SY} (I : i_Rel k u v) (hk : k + 5 ≤ 2560) (v1 : Int32) : wpX_unset (fun r u' => wpY_unset (fun r' => r' = r ∧ i_Rel (k + 5) u' v) v v1) u v1 := by
  obtain ⟨n, rc, o, w, a, b, wt, rd, cm, nx, bh, sd, kp, mk, tg, fa, nt, rfl, rfl, rel⟩ := I
  have ok := rel.1
  refine fx_unset rel (fun p hp ep hR sd' kp' mk' tg' fa' => fy_unset ok (fun q hq eq _ => ⟨?_, rl_i rel⟩) (fun hz => absurd ⟨p, hp, ep, hR⟩ hz)) (fun hz => fy_unset ok (fun q hq eq hR => absurd ⟨q, hq, eq, hR⟩ hz) (fun _ => ⟨rfl, rl_i rel⟩))
  rw [rl_q ok.1 hp hq ep eq]
  exact se_ext (fun i _ => (ma_4 ok hp).symm)
theorem i_vc_dead {k : Nat} {u : SX} {v : SY} (I : i_Rel k u v) (hk : k + 5 ≤ 2560) : wpX_dead (fun r u' => wpY_dead (fun r' => r' = r ∧ i_Rel (k + 5) u' v) v) u := by
  obtain ⟨n, rc, o, w, a, b, wt, rd, cm, nx, bh, sd, kp, mk, tg, fa, nt, rfl, rfl, rel⟩ := I
  exact fx_dead rel (fun sd' kp' mk' tg' fa' => fy_dead rel.1 ⟨rfl, rl_i rel⟩)
