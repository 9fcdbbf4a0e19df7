/-! the component's methods -/
section
variable {n : Nat} {rc : Int32} {o v a b wt rd cm nx bh sd kp mk tg fa nt : Nat → Int32}
theorem fx_reaching {post : Int32 → SX → Prop} (rel : rl_X n rc o v a b wt rd cm nx bh) {x1 x2 : Int32} (h1 : cd_Eg x1 → ∀ p, p < n → x2 = nI p → fl_R n o b p → ∀ sd' kp' mk' tg' fa', post (se_S (qs_An n o v a b 0 p)) ((nI n), rc, o, a, b, wt, rd, cm, nx, bh, sd', kp', mk', tg', fa', nt)) (h0 : ¬ (cd_Eg x1 ∧ ∃ p, p < n ∧ x2 = nI p ∧ fl_R n o b p) → post (-1) ((nI n), rc, o, a, b, wt, rd, cm, nx, bh, sd, kp, mk, tg, fa, nt)) : wpX_reaching post ((nI n), rc, o, a, b, wt, rd, cm, nx, bh, sd, kp, mk, tg, fa, nt) x1 x2 := by
  have hn := rel.1.1
  unfold wpX_reaching
  dsimp only
  refine fx_isEngine (fun he => br_f (by decide) (fx_isReachable hn rel.2.1 (fun p hp ep hR => br_f (by decide) ?_) (fun hz => br_t rfl (h0 (fun z => hz z.2))))) (fun he => br_t rfl (h0 (fun z => he z.1)))
  subst ep
  refine fx_find rel (Q := 0) (by omega) (fun sd' kp' mk' tg' fa' H hfa => ?_)
  dsimp only
  exact fx_answerAt rel (Q := 0) (by omega) H hfa hp (h1 he p hp rfl hR _ _ _ _ _)
theorem fx_live {post : Int32 → SX → Prop} (rel : rl_X n rc o v a b wt rd cm nx bh) {x1 x2 : Int32} (h1 : cd_Eg x1 → ∀ p, p < n → x2 = nI p → ∀ sd' kp' mk' tg' fa', post (se_S (qs_An n o v a b 1 p)) ((nI n), rc, o, a, b, wt, rd, cm, nx, bh, sd', kp', mk', tg', fa', nt)) (h0 : ¬ (cd_Eg x1 ∧ ∃ p, p < n ∧ x2 = nI p) → post (-1) ((nI n), rc, o, a, b, wt, rd, cm, nx, bh, sd, kp, mk, tg, fa, nt)) : wpX_live post ((nI n), rc, o, a, b, wt, rd, cm, nx, bh, sd, kp, mk, tg, fa, nt) x1 x2 := by
  have hn := rel.1.1
  unfold wpX_live
  dsimp only
  refine fx_isEngine (fun he => br_f (by decide) (fx_isInCode hn (fun p hp ep => br_f (by decide) ?_) (fun hz => br_t rfl (h0 (fun z => z.2.elim (fun q hq => hz q hq.1 hq.2)))))) (fun he => br_t rfl (h0 (fun z => he z.1)))
  subst ep
  refine fx_find rel (Q := 1) (by omega) (fun sd' kp' mk' tg' fa' H hfa => ?_)
  dsimp only
  exact fx_answerAt rel (Q := 1) (by omega) H hfa hp (h1 he p hp rfl _ _ _ _ _)
theorem fx_available {post : Int32 → SX → Prop} (rel : rl_X n rc o v a b wt rd cm nx bh) {x1 x2 : Int32} (h1 : cd_Eg x1 → ∀ p, p < n → x2 = nI p → fl_R n o b p → ∀ sd' kp' mk' tg' fa', post (se_S (qs_An n o v a b 2 p)) ((nI n), rc, o, a, b, wt, rd, cm, nx, bh, sd', kp', mk', tg', fa', nt)) (h0 : ¬ (cd_Eg x1 ∧ ∃ p, p < n ∧ x2 = nI p ∧ fl_R n o b p) → post (-1) ((nI n), rc, o, a, b, wt, rd, cm, nx, bh, sd, kp, mk, tg, fa, nt)) : wpX_available post ((nI n), rc, o, a, b, wt, rd, cm, nx, bh, sd, kp, mk, tg, fa, nt) x1 x2 := by
  have hn := rel.1.1
  unfold wpX_available
  dsimp only
  refine fx_isEngine (fun he => br_f (by decide) (fx_isReachable hn rel.2.1 (fun p hp ep hR => br_f (by decide) ?_) (fun hz => br_t rfl (h0 (fun z => hz z.2))))) (fun he => br_t rfl (h0 (fun z => he z.1)))
  subst ep
  refine fx_find rel (Q := 2) (by omega) (fun sd' kp' mk' tg' fa' H hfa => ?_)
  dsimp only
  exact fx_answerAt rel (Q := 2) (by omega) H hfa hp (h1 he p hp rfl hR _ _ _ _ _)
theorem fx_busy {post : Int32 → SX → Prop} (rel : rl_X n rc o v a b wt rd cm nx bh) {x1 x2 : Int32} (h1 : cd_Eg x1 → ∀ p, p < n → x2 = nI p → ∀ sd' kp' mk' tg' fa', post (se_S (qs_An n o v a b 3 p)) ((nI n), rc, o, a, b, wt, rd, cm, nx, bh, sd', kp', mk', tg', fa', nt)) (h0 : ¬ (cd_Eg x1 ∧ ∃ p, p < n ∧ x2 = nI p) → post (-1) ((nI n), rc, o, a, b, wt, rd, cm, nx, bh, sd, kp, mk, tg, fa, nt)) : wpX_busy post ((nI n), rc, o, a, b, wt, rd, cm, nx, bh, sd, kp, mk, tg, fa, nt) x1 x2 := by
  have hn := rel.1.1
  unfold wpX_busy
  dsimp only
  refine fx_isEngine (fun he => br_f (by decide) (fx_isInCode hn (fun p hp ep => br_f (by decide) ?_) (fun hz => br_t rfl (h0 (fun z => z.2.elim (fun q hq => hz q hq.1 hq.2)))))) (fun he => br_t rfl (h0 (fun z => he z.1)))
  subst ep
  refine fx_find rel (Q := 3) (by omega) (fun sd' kp' mk' tg' fa' H hfa => ?_)
  dsimp only
  exact fx_answerAt rel (Q := 3) (by omega) H hfa hp (h1 he p hp rfl _ _ _ _ _)
theorem fx_unset {post : Int32 → SX → Prop} (rel : rl_X n rc o v a b wt rd cm nx bh) {x : Int32} (h1 : ∀ p, p < n → x = nI p → fl_R n o b p → ∀ sd' kp' mk' tg' fa', post (se_S (qs_An n o v a b 4 p)) ((nI n), rc, o, a, b, wt, rd, cm, nx, bh, sd', kp', mk', tg', fa', nt)) (h0 : ¬ (∃ p, p < n ∧ x = nI p ∧ fl_R n o b p) → post (-1) ((nI n), rc, o, a, b, wt, rd, cm, nx, bh, sd, kp, mk, tg, fa, nt)) : wpX_unset post ((nI n), rc, o, a, b, wt, rd, cm, nx, bh, sd, kp, mk, tg, fa, nt) x := by
  have hn := rel.1.1
  unfold wpX_unset
  dsimp only
  refine fx_isReachable hn rel.2.1 (fun p hp ep hR => br_f (by decide) ?_) (fun hz => br_t rfl (h0 hz))
  subst ep
  refine fx_find rel (Q := 4) (by omega) (fun sd' kp' mk' tg' fa' H hfa => ?_)
  dsimp only
  exact fx_answerAt rel (Q := 4) (by omega) H hfa hp (h1 p hp rfl hR _ _ _ _ _)
theorem fx_note {post : SX → Prop} (rel : rl_X n rc o v a b wt rd cm nx bh) {Q : Nat} (hQ : Q < 5) (H : en_H n sd kp mk tg (qs_S n o a b Q) (qs_K n o v a b Q) (qs_M n o v a b Q) (qs_T n o b Q)) (hfa : ∀ p, p < n → fa p = se_S (fun f => qs_L n o v a b Q f p)) (h : ∀ nt', (∀ p, p < n → nt' p = se_S (qs_An n o v a b Q p)) → post ((nI n), rc, o, a, b, wt, rd, cm, nx, bh, sd, kp, mk, tg, fa, nt')) : wpX_noteAnswers post ((nI n), rc, o, a, b, wt, rd, cm, nx, bh, sd, kp, mk, tg, fa, nt) (nI Q) := by
  have hn := rel.1.1
  have key : ∀ d k nt', k + d = n → (∀ p, p < k → nt' p = se_S (qs_An n o v a b Q p)) → wX_noteAnswers_2 post (nI Q) (nI n) rc (d + 1) (nI k) o a b wt rd cm nx bh sd kp mk tg fa nt' := by
    intro d
    induction d with
    | zero =>
      intro k nt' hk hh
      have e : k = n := by omega
      subst e
      exact br_t (nI_le (Nat.le_refl _) (by omega)) (h nt' hh)
    | succ d ih =>
      intro k nt' hk hh
      refine br_f (nI_ge (by omega) (by omega)) (fx_answerAt rel hQ H hfa (by omega) ⟨ix_in (by omega), ?_⟩)
      rw [ix_cl (by omega : k < 20)]
      refine nm_e (gl_i (ih (k + 1) _ (by omega) (fun p hp => ?_)))
      by_cases e : p = k
      · subst e; exact pk_us
      · rw [pk_un e]; exact hh p (by omega)
  exact ⟨_, key n 0 nt (by omega) (fun p hp => by omega)⟩
theorem fx_asNoted {post : Int32 → Prop} (rel : rl_X n rc o v a b wt rd cm nx bh) {Q : Nat} (hQ : Q < 5) (H : en_H n sd kp mk tg (qs_S n o a b Q) (qs_K n o v a b Q) (qs_M n o v a b Q) (qs_T n o b Q)) (hfa : ∀ p, p < n → fa p = se_S (fun f => qs_L n o v a b Q f p)) (hnt : ∀ p, p < n → nt p = se_S (qs_An n o v a b Q p)) (h : post 1) : wpX_answersAreAsNoted post ((nI n), rc, o, a, b, wt, rd, cm, nx, bh, sd, kp, mk, tg, fa, nt) (nI Q) := by
  have hn := rel.1.1
  have key : ∀ d k, k + d = n → wX_answersAreAsNoted_2 post (nI Q) (nI n) rc o a b wt rd cm nx bh sd kp mk tg fa nt (d + 1) (nI k) := by
    intro d
    induction d with
    | zero =>
      intro k hk
      have e : k = n := by omega
      subst e
      exact br_t (nI_le (Nat.le_refl _) (by omega)) h
    | succ d ih =>
      intro k hk
      refine br_f (nI_ge (by omega) (by omega)) (fx_answerAt rel hQ H hfa (by omega) ⟨ix_in (by omega), ?_⟩)
      rw [ix_cl (by omega : k < 20)]
      exact br_t (hnt k (by omega)).symm (gl_i (ih (k + 1) (by omega)))
  exact ⟨_, key n 0 (by omega)⟩
theorem fx_agree {post : Int32 → SX → Prop} (rel : rl_X n rc o v a b wt rd cm nx bh) {x1 x2 : Int32} (h1 : cd_Eg x1 → cd_Eg x2 → ∀ sd' kp' mk' tg' fa' nt', post 1 ((nI n), rc, o, a, b, wt, rd, cm, nx, bh, sd', kp', mk', tg', fa', nt')) (h0 : ¬ (cd_Eg x1 ∧ cd_Eg x2) → post 0 ((nI n), rc, o, a, b, wt, rd, cm, nx, bh, sd, kp, mk, tg, fa, nt)) : wpX_agree post ((nI n), rc, o, a, b, wt, rd, cm, nx, bh, sd, kp, mk, tg, fa, nt) x1 x2 := by
  unfold wpX_agree
  dsimp only
  refine fx_isEngine (fun he => br_f (by decide) (fx_isEngine (fun hf => br_f (by decide) ?_) (fun hf => br_t rfl (h0 (fun z => hf z.2))))) (fun he => br_t rfl (h0 (fun z => he z.1)))
  have key : ∀ d k sd' kp' mk' tg' fa' nt', k + d = 4 → wX_agree_20 post x1 x2 (d + 1) (nI k) (nI n) rc o a b wt rd cm nx bh sd' kp' mk' tg' fa' nt' := by
    intro d
    induction d with
    | zero =>
      intro k sd' kp' mk' tg' fa' nt' hk
      have e : k = 4 := by omega
      subst e
      exact br_t (nI_lt (a := 3) (b := 4) (by omega) (by omega)) (h1 he hf _ _ _ _ _ _)
    | succ d ih =>
      intro k sd' kp' mk' tg' fa' nt' hk
      refine br_f (nI_nlt (a := 3) (by omega) (by omega)) (fx_find rel (Q := k) (by omega) (fun sd1 kp1 mk1 tg1 fa1 H1 hfa1 => ?_))
      dsimp only
      refine fx_note rel (by omega) H1 hfa1 (fun nt1 hnt1 => ?_)
      dsimp only
      refine fx_find rel (Q := k) (by omega) (fun sd2 kp2 mk2 tg2 fa2 H2 hfa2 => ?_)
      dsimp only
      exact fx_asNoted rel (by omega) H2 hfa2 hnt1 (br_f (by decide) (gl_i (ih (k + 1) _ _ _ _ _ _ (by omega))))
  exact ⟨_, key 4 0 sd kp mk tg fa nt (by omega)⟩
theorem fx_before {post : Int32 → Prop} (rel : rl_X n rc o v a b wt rd cm nx bh) {x : Int32} (h1 : ∀ p, p < n → x = nI p → fl_R n o b p → post (se_S (fun q => q < n ∧ fl_Bf n o b q p))) (h0 : ¬ (∃ p, p < n ∧ x = nI p ∧ fl_R n o b p) → post (-1)) : wpX_before post ((nI n), rc, o, a, b, wt, rd, cm, nx, bh, sd, kp, mk, tg, fa, nt) x := by
  have hn := rel.1.1
  have hB := rel.2.2.2.2.2.2
  unfold wpX_before
  dsimp only
  refine fx_isReachable hn rel.2.1 (fun p hp ep hR => br_f (by decide) ?_) (fun hz => br_t rfl (h0 hz))
  subst ep
  refine gl_pick (fun f x y => wX_before_14 post (nI p) (nI n) rc o a b wt rd cm nx bh sd kp mk tg fa nt f x y) n (fun q => fl_Bf n o b q p) post (by omega) ?_ ?_ (h1 p hp rfl hR)
  · intro f x h
    exact br_t (nI_le (Nat.le_refl _) (by omega)) h
  · intro f k y hk h0 h1
    refine br_f (nI_ge hk (by omega)) ⟨ix_in (by omega), ?_⟩
    rw [ix_cl (by omega : k < 20)]
    exact fx_has (by omega) (hB k hk) (fun hb => br_f (by decide) (nm_e (gl_i (h1 hb.2)))) (fun hb => br_t rfl (gl_i (h0 (fun z => hb ⟨hR, z⟩))))
theorem fx_canEnd {post : Int32 → Prop} (rel : rl_X n rc o v a b wt rd cm nx bh) {p : Nat} (hp : p < n) {y : Int32} {C : Nat → Prop} (hC : y = se_S C) (h1 : fl_End n o b C p → post 1) (h0 : ¬ fl_End n o b C p → post 0) : wpX_canEnd post ((nI n), rc, o, a, b, wt, rd, cm, nx, bh, sd, kp, mk, tg, fa, nt) (nI p) y := by
  have hn := rel.1.1
  have hN := rel.2.2.2.2.2.1
  unfold wpX_canEnd
  dsimp only
  refine fx_ways hn hN rfl (by omega) hC ?_
  rw [cd_spi hp]
  exact fx_has (p := 20) (by omega) rfl (fun z => ⟨nb_1, h1 z⟩) (fun z => ⟨nb_0, h0 z⟩)
theorem fx_after {post : Int32 → Prop} (rel : rl_X n rc o v a b wt rd cm nx bh) {x : Int32} (h1 : ∀ p, p < n → x = nI p → fl_End n o b (fun _ => False) p → post (se_S (fun q => q < n ∧ ¬ fl_End n o b (fun j => j = q) p))) (h0 : ¬ (∃ p, p < n ∧ x = nI p ∧ fl_End n o b (fun _ => False) p) → post (-1)) : wpX_after post ((nI n), rc, o, a, b, wt, rd, cm, nx, bh, sd, kp, mk, tg, fa, nt) x := by
  have hn := rel.1.1
  unfold wpX_after
  dsimp only
  refine fx_isInCode hn (fun p hp ep => br_f (by decide) ?_) (fun hz => br_t rfl (h0 (fun z => z.elim (fun q hq => hz q hq.1 hq.2.1))))
  subst ep
  refine fx_canEnd rel hp se_0 (fun hE => br_f (by decide) ?_) (fun hE => br_t rfl (h0 ?_))
  · refine gl_pick (fun f x y => wX_after_23 post (nI p) (nI n) rc o a b wt rd cm nx bh sd kp mk tg fa nt f x y) n (fun q => ¬ fl_End n o b (fun j => j = q) p) post (by omega) ?_ ?_ (h1 p hp rfl hE)
    · intro f x h
      exact br_t (nI_le (Nat.le_refl _) (by omega)) h
    · intro f k y hk h0 h1
      exact br_f (nI_ge hk (by omega)) (fx_canEnd rel hp (se_shl (by omega)) (fun hK => br_f (by decide) (gl_i (h0 (fun z => z hK)))) (fun hK => br_t rfl (nm_e (gl_i (h1 hK)))))
  · rintro ⟨q, hq, e, z⟩
    have := (nI_eq (by omega) (by omega)).mp e
    subst this
    exact hE z
theorem fx_frontierOf {post : Int32 → Prop} (rel : rl_X n rc o v a b wt rd cm nx bh) {p : Nat} (hp : p < n) (h : post (se_S (fl_Fr n o b p))) : wpX_frontierOf post ((nI n), rc, o, a, b, wt, rd, cm, nx, bh, sd, kp, mk, tg, fa, nt) (nI p) := by
  obtain ⟨ok, hR, hW, hRd, hC, hN, hB⟩ := rel
  have hn := ok.1
  have hi : vp_in (nI p) 20 := ix_in (by omega)
  unfold wpX_frontierOf
  dsimp only
  rw [ix_cl (by omega : p < 20)]
  refine ⟨hi, fx_onward hn hN (hB p hp) ⟨hi, ?_⟩⟩
  have e : se_S (fun i => ∃ r, r < n ∧ (fl_R n o b r ∧ fl_Bf n o b p r) ∧ cd_G n o b r i) &&& rc &&& ((bh p ^^^ (-1)) ||| ((1 : Int32) <<< (nI p &&& 31))) = se_S (fl_Fr n o b p) := by
    rw [hB p hp, hR, se_not, se_shl (by omega), se_or, se_and, se_and]
    refine se_ext (fun i _ => ⟨fun z => ⟨z.1.1, fun w => ?_, z.1.2⟩, fun z => ⟨⟨z.1, z.2.2⟩, ?_⟩⟩)
    · exact z.2.elim (fun y => y ⟨z.1.2, w.2.2⟩) (fun y => w.2.1 y)
    · by_cases e : i = p
      · exact Or.inr e
      · exact Or.inl (fun w => z.2.1 ⟨z.2.2.2, e, w.2⟩)
  rw [e]; exact h
theorem fx_frontier {post : Int32 → Prop} (rel : rl_X n rc o v a b wt rd cm nx bh) {x : Int32} (h1 : ∀ p, p < n → x = nI p → fl_R n o b p → post (se_S (fl_Fr n o b p))) (h0 : ¬ (∃ p, p < n ∧ x = nI p ∧ fl_R n o b p) → post (-1)) : wpX_frontier post ((nI n), rc, o, a, b, wt, rd, cm, nx, bh, sd, kp, mk, tg, fa, nt) x := by
  have hn := rel.1.1
  unfold wpX_frontier
  dsimp only
  refine fx_isReachable hn rel.2.1 (fun p hp ep hR => br_f (by decide) ?_) (fun hz => br_t rfl (h0 hz))
  subst ep
  exact fx_frontierOf rel hp (h1 p hp rfl hR)
theorem fx_frontiersOf {post : Int32 → Prop} (rel : rl_X n rc o v a b wt rd cm nx bh) {x : Int32} {P : Nat → Prop} (hx : x = se_S P) (h : post (se_S (fun i => ∃ p, p < n ∧ P p ∧ fl_Fr n o b p i))) : wpX_frontiersOf post ((nI n), rc, o, a, b, wt, rd, cm, nx, bh, sd, kp, mk, tg, fa, nt) x := by
  have hn := rel.1.1
  unfold wpX_frontiersOf
  dsimp only
  refine gl_un (fun f y z => wX_frontiersOf_4 post x (nI n) rc o a b wt rd cm nx bh sd kp mk tg fa nt f y z) n P (fun p => fl_Fr n o b p) post ?_ ?_ h
  · intro f x h
    exact br_t (nI_le (Nat.le_refl _) (by omega)) h
  · intro f k y hk h0 h1
    exact br_f (nI_ge hk (by omega)) (fx_has (by omega) hx (fun hc => br_f (by decide) (fx_frontierOf rel hk (fun z ez => gl_i (h1 hc z ez)))) (fun hc => br_t rfl (gl_i (h0 hc))))
theorem fx_joins {post : Int32 → Prop} (rel : rl_X n rc o v a b wt rd cm nx bh) {x : Int32} (h1 : ¬ x < 0 → ¬ 5 < x → post (se_S (lf_L (fl_JE n o b) (fl_JA n o v b x)))) (h0 : ¬ (¬ x < 0 ∧ ¬ 5 < x) → post (-1)) : wpX_joins post ((nI n), rc, o, a, b, wt, rd, cm, nx, bh, sd, kp, mk, tg, fa, nt) x := by
  have ok := rel.1
  have hn := ok.1
  unfold wpX_joins
  dsimp only
  refine fx_isVariable (fun g1 g2 => br_f (by decide) ?_) (fun g => br_t rfl (h0 (fun z => g ⟨z.1, ix_56.mpr z.2⟩)))
  have g2' := ix_56.mp g2
  have hh := h1 g1 g2'
  obtain ⟨t, ht, et⟩ := ix_v5 ⟨g1, g2'⟩
  refine fx_writersOf hn rel.2.2.1 (V := fun i => i = t) (by rw [et, se_shl (by omega)]) (nm_r (e' := se_S (fl_JB n o v b x)) ?_ ?_)
  · rw [se_1, rel.2.1, se_or, se_and]
    refine se_ext (fun p _ => ⟨fun z => ⟨z.1.imp (fun w => ?_) (fun w => ⟨fl_Rn z.2, w⟩), z.2⟩, fun z => ⟨z.1.imp (fun w => ?_) (fun w => w.2), z.2⟩⟩)
    · obtain ⟨hp, i, hi, hw, ei⟩ := w
      subst ei
      exact ⟨hp, hw.1, hw.2.trans et.symm⟩
    · exact ⟨w.1, t, by omega, ⟨w.2.1, w.2.2.trans et⟩, rfl⟩
  · have hg := gl_clo (fun f y z => wX_joins_30 post (se_S (fl_JB n o v b x)) (nI n) rc o a b wt rd cm nx bh sd kp mk tg fa nt f y z) (fl_JE n o b) (fl_JA n o v b x) post (fun _ => False) ?_ (fun i z => z.elim) ?_ ?_ hh
    · rw [← se_0] at hg
      exact hg
    · intro i z
      have := (fl_JR z).2
      omega
    · intro g x h
      exact br_t (nI_lt (a := 20) (b := 21) (by omega) (by omega)) h
    · intro g j P hj hP h0P hh
      refine br_f (nI_nlt (a := 20) (by omega) (by omega)) (fx_frontiersOf rel (se_or _ _) (nm_r (e' := se_S (fun i => P i ∨ fl_JA n o v b x i ∨ ∃ q, P q ∧ fl_JE n o b q i)) ?_ ?_))
      · rw [se_or]
        refine se_ext (fun i _ => or_congr Iff.rfl ⟨?_, ?_⟩)
        · rintro ⟨p, hp, z | z, w⟩
          · exact Or.inl ⟨p, hp, z, w⟩
          · exact Or.inr ⟨p, z, hp, w⟩
        · rintro (⟨p, hp, z, w⟩ | ⟨p, z, hp, w⟩)
          · exact ⟨p, hp, Or.inl z, w⟩
          · exact ⟨p, hp, Or.inr z, w⟩
      · have g := hh _ rfl
        exact ⟨g.1, fun z => gl_i (g.2 z)⟩
theorem fx_loop {post : Int32 → Prop} (rel : rl_X n rc o v a b wt rd cm nx bh) {x : Int32} (h1 : ∀ p, p < n → x = nI p → fl_R n o b p → post (se_S (fl_Lp n o b p))) (h0 : ¬ (∃ p, p < n ∧ x = nI p ∧ fl_R n o b p) → post (-1)) : wpX_loop post ((nI n), rc, o, a, b, wt, rd, cm, nx, bh, sd, kp, mk, tg, fa, nt) x := by
  have ok := rel.1
  have hn := ok.1
  have hR0 := rel.2.1
  have hN := rel.2.2.2.2.2.1
  have hB := rel.2.2.2.2.2.2
  unfold wpX_loop
  dsimp only
  refine fx_isReachable hn rel.2.1 (fun p hp ep hR => br_f (by decide) ⟨?_, ?_⟩) (fun hz => br_t rfl (h0 hz))
  · rw [ep]; exact ix_in (by omega)
  subst ep
  have hh := h1 p hp rfl hR
  rw [ix_cl (by omega : p < 20)]
  refine fx_goingOnAt hn hN (by omega) (nm_r (e' := se_S (fl_Bk n o b p)) ?_ ?_)
  · rw [hB p hp, se_and]
    exact se_ext (fun r _ => ⟨fun z => ⟨z.2.1, z.1.1, z.2.2, z.1.2⟩, fun z => ⟨⟨z.2.1, z.2.2.2⟩, z.1, z.2.2.1⟩⟩)
  · by_cases hBk : ∃ r, fl_Bk n o b p r
    · have hnz : ¬ se_S (fl_Bk n o b p) = 0 := se_nz.mpr (hBk.elim (fun r hr => ⟨r, by have := hr.1; omega, hr⟩))
      refine br_f hnz (nm_r (se_shl (by omega)) ?_)
      refine gl_col (fun f x y => wX_loop_36 post (nI p) (se_S (fl_Bk n o b p)) (nI n) rc o a b wt rd cm nx bh sd kp mk tg fa nt f x y) n (fun q i => (fl_R n o b q ∧ ∃ r, fl_F n o b (fun j => j = q) (fun _ => False) (fun j => j = p) r ∧ fl_Bk n o b p r) ∧ i = q) post (fun i => i = p) ?_ ?_ ?_
      · intro f x h
        exact br_t (nI_le (Nat.le_refl _) (by omega)) h
      · intro f k y hk h
        refine br_f (nI_ge hk (by omega)) (fx_ways hn hN rfl (by omega) (se_shl (by omega)) ?_)
        rw [cd_spi hk]
        refine fx_has (by omega) hR0 (fun hRk => br_f (by decide) ?_) (fun hRk => br_t rfl (gl_i (h y (se_n (fun i z => hRk z.1.1)))))
        have hb : ∀ i, fl_F n o b (fun j => j = k) (fun _ => False) (fun j => j = p) i → fl_Bk n o b p i → i < 32 := fun i _ z => by have := z.1; omega
        by_cases hm : ∃ r, fl_F n o b (fun j => j = k) (fun _ => False) (fun j => j = p) r ∧ fl_Bk n o b p r
        · exact br_f (fun z => (se_mt hb).mp z hm) (nm_e (gl_i (h _ (se_own (by omega) ⟨hRk, hm⟩))))
        · exact br_t ((se_mt hb).mpr hm) (gl_i (h y (se_n (fun i z => hm z.1.2))))
      · have e : se_S (fl_Lp n o b p) = se_S (fun i => i = p ∨ ∃ q, q < n ∧ (fl_R n o b q ∧ ∃ r, fl_F n o b (fun j => j = q) (fun _ => False) (fun j => j = p) r ∧ fl_Bk n o b p r) ∧ i = q) := by
          refine se_ext (fun i _ => ⟨fun z => z.2.imp id (fun w => ⟨i, w.1, w.2, rfl⟩), fun z => ⟨hBk, z.imp id (fun ⟨q, h1, h2, h3⟩ => ?_)⟩⟩)
          subst h3; exact ⟨h1, h2⟩
        rw [← e]; exact hh
    · have hz : se_S (fl_Bk n o b p) = 0 := se_z.mpr (fun i _ z => hBk ⟨i, z⟩)
      have e : se_S (fl_Lp n o b p) = 0 := se_z.mpr (fun i _ z => hBk z.1)
      rw [e] at hh
      exact br_t hz hh
theorem fx_needed {post : Int32 → Prop} (rel : rl_X n rc o v a b wt rd cm nx bh) (H : en_H n sd kp mk tg (qs_S n o a b 1) (qs_K n o v a b 1) (qs_M n o v a b 1) (qs_T n o b 1)) (hfa : ∀ p, p < n → fa p = se_S (fun f => qs_L n o v a b 1 f p)) {p : Nat} (hp : p < n) (h : post (se_S (fun i => ∃ q, q < n ∧ cd_G n o b p q ∧ qs_An n o v a b 1 q i))) : wpX_neededBehind post ((nI n), rc, o, a, b, wt, rd, cm, nx, bh, sd, kp, mk, tg, fa, nt) (nI p) := by
  have hn := rel.1.1
  have hN := rel.2.2.2.2.2.1
  unfold wpX_neededBehind
  dsimp only
  refine gl_un (fun f y z => wX_neededBehind_4 post (nI p) (nI n) rc o a b wt rd cm nx bh sd kp mk tg fa nt f y z) n (fun q => cd_G n o b p q) (fun q => qs_An n o v a b 1 q) post ?_ ?_ h
  · intro f x h
    exact br_t (nI_le (Nat.le_refl _) (by omega)) h
  · intro f k y hk h0 h1
    refine br_f (nI_ge hk (by omega)) ⟨ix_in (by omega), ?_⟩
    rw [ix_cl (by omega : p < 20)]
    exact fx_has (by omega) (hN p hp) (fun hc => br_f (by decide) (fx_answerAt rel (Q := 1) (by omega) H hfa hk (fun z ez => gl_i (h1 hc z ez)))) (fun hc => br_t rfl (gl_i (h0 hc)))
theorem fx_dead {post : Int32 → SX → Prop} (rel : rl_X n rc o v a b wt rd cm nx bh) (h : ∀ sd' kp' mk' tg' fa', post (se_S (fun d => d < n ∧ (cd_Wr o d ∧ ¬ fl_Us n o v a b d) ∧ fl_R n o b d)) ((nI n), rc, o, a, b, wt, rd, cm, nx, bh, sd', kp', mk', tg', fa', nt)) : wpX_dead post ((nI n), rc, o, a, b, wt, rd, cm, nx, bh, sd, kp, mk, tg, fa, nt) := by
  have ok := rel.1
  have hn := ok.1
  have hR := rel.2.1
  have hW := rel.2.2.1
  unfold wpX_dead
  dsimp only
  refine fx_find rel (Q := 1) (by omega) (fun sd' kp' mk' tg' fa' H hfa => ?_)
  dsimp only
  refine gl_pick (fun f x y => wX_dead_10 post (nI n) rc o a b wt rd cm nx bh sd' kp' mk' tg' fa' nt f x y) n (fun d => (cd_Wr o d ∧ ¬ fl_Us n o v a b d) ∧ fl_R n o b d) (fun r => post r ((nI n), rc, o, a, b, wt, rd, cm, nx, bh, sd', kp', mk', tg', fa', nt)) (by omega) ?_ ?_ (h _ _ _ _ _)
  · intro f x h
    exact br_t (nI_le (Nat.le_refl _) (by omega)) h
  · intro f k y hk h0 h1
    refine br_f (nI_ge hk (by omega)) (fx_needed rel H hfa hk (fx_has (by omega) hR (fun hRk => br_f (by decide) ⟨ix_in (by omega), ?_⟩) (fun hRk => br_t rfl (gl_i (h0 (fun z => hRk z.2))))))
    rw [ix_cl (by omega : k < 20), hW k hk]
    refine br_c (fun hz => gl_i (h0 (fun z => ?_))) (fun hz => ⟨ix_in (by omega), ?_⟩)
    · obtain ⟨i, hi, w⟩ := (cd_w2 ok hk).mpr z.1.1
      exact se_z.mp hz i hi w
    · have hw : cd_Wr o k := (cd_w2 ok hk).mp (se_nz.mp hz)
      have hu : (∃ i, i < 32 ∧ (∃ q, q < n ∧ cd_G n o b k q ∧ qs_An n o v a b 1 q i) ∧ cd_Wt o v k i) ↔ fl_Us n o v a b k := by
        constructor
        · rintro ⟨i, hi, ⟨q, hq, hG, hA⟩, hwt⟩
          obtain ⟨h6, hl⟩ := (ma_1 ok hq hi).mp hA
          exact ⟨q, hq, hG, i, h6, hwt.2, hl⟩
        · rintro ⟨q, hq, hG, i, h6, ev, hl⟩
          exact ⟨i, by omega, ⟨q, hq, hG, (ma_1 ok hq (by omega)).mpr ⟨h6, hl⟩⟩, hw, ev⟩
      refine br_c (fun hm => nm_e (gl_i (h1 ⟨⟨hw, fun z => se_m32.mp hm (hu.mpr z)⟩, hRk⟩))) (fun hm => gl_i (h0 (fun z => z.1.2 (hu.mp (Classical.byContradiction fun w => hm (se_m32.mpr w))))))
end
