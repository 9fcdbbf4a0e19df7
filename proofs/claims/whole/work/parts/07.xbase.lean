/-! the component's small methods, ways, survey -/
theorem pk_us {f : Nat → Int32} {k : Nat} {x : Int32} : upd f k x k = x := if_pos rfl
theorem pk_un {f : Nat → Int32} {k j : Nat} {x : Int32} (h : j ≠ k) : upd f k x j = f j := if_neg h
theorem fl_nC {n : Nat} {o b : Nat → Int32} {A B C : Nat → Prop} {q : Nat} (h : fl_F n o b A B C q) : ¬ C q :=
  h (fun q => ¬ C q) (fun _ z => z.2) (fun _ _ _ e => e.2.2)
theorem fl_A {n : Nat} {o b : Nat → Int32} {A A' B C : Nat → Prop} {q : Nat} (hA : ∀ i, A i → A' i) (h : fl_F n o b A B C q) : fl_F n o b A' B C q :=
  h (fl_F n o b A' B C) (fun i z => lf_i ⟨hA i z.1, z.2⟩) (fun _ _ z e => lf_s z e)
theorem fl_sp {n : Nat} {o b : Nat → Int32} {B C : Nat → Prop} {q : Nat} (hn : 0 < n) : fl_F n o b (fun i => i = cd_sp n 0) B C q ↔ fl_F n o b (fl_st n) B C q := by
  have e : cd_sp n 0 = 0 := cd_spi hn
  rw [e]
  exact ⟨fl_A (fun i z => ⟨hn, z⟩), fl_A (fun i z => z.2)⟩
theorem fl_Rn {n : Nat} {o b : Nat → Int32} {q : Nat} (h : fl_R n o b q) : 0 < n := by have := h.2; omega
section
variable {n : Nat} {rc : Int32} {o v a b wt rd cm nx bh sd kp mk tg fa nt : Nat → Int32} {post : Int32 → Prop}
theorem fx_hasV {u : SX} {x : Int32} (h1 : ¬ 3 < x → post 1) (h0 : 3 < x → post 0) : wpX_hasV post u x := by
  obtain ⟨_, _, _, _, _, _, _, _, _, _, _, _, _, _, _, _⟩ := u
  exact br_c h0 h1
theorem fx_isVariable {u : SX} {x : Int32} (h1 : ¬ x < 0 → ¬ 6 ≤ x → post 1) (h0 : ¬ (¬ x < 0 ∧ ¬ 6 ≤ x) → post 0) : wpX_isVariable post u x := by
  obtain ⟨_, _, _, _, _, _, _, _, _, _, _, _, _, _, _, _⟩ := u
  exact br_c (fun h => h0 (fun z => z.1 h)) (fun h => br_c (fun g => h0 (fun z => z.2 g)) (fun g => h1 h g))
theorem fx_hasA {u : SX} {x : Int32} (h1 : (¬ x = 0 ∧ ¬ x = 5) → post 1) (h0 : ¬ (¬ x = 0 ∧ ¬ x = 5) → post 0) : wpX_hasA post u x := by
  obtain ⟨_, _, _, _, _, _, _, _, _, _, _, _, _, _, _, _⟩ := u
  exact br_c (fun h => h0 (fun z => z.1 h)) (fun h => br_c (fun g => h0 (fun z => z.2 g)) (fun g => h1 ⟨h, g⟩))
theorem fx_computes {u : SX} {x : Int32} (h1 : x = 2 ∨ x = 3 → post 1) (h0 : ¬ (x = 2 ∨ x = 3) → post 0) : wpX_computes post u x := by
  obtain ⟨_, _, _, _, _, _, _, _, _, _, _, _, _, _, _, _⟩ := u
  exact br_c (fun h => h1 (Or.inl h)) (fun h => br_c (fun g => h1 (Or.inr g)) (fun g => h0 (fun z => z.elim h g)))
theorem fx_jumps {u : SX} {x : Int32} (h1 : x = 5 ∨ x = 6 → post 1) (h0 : ¬ (x = 5 ∨ x = 6) → post 0) : wpX_jumps post u x := by
  obtain ⟨_, _, _, _, _, _, _, _, _, _, _, _, _, _, _, _⟩ := u
  exact br_c (fun h => h1 (Or.inl h)) (fun h => br_c (fun g => h1 (Or.inr g)) (fun g => h0 (fun z => z.elim h g)))
theorem fx_isEngine {u : SX} {x : Int32} (h1 : cd_Eg x → post 1) (h0 : ¬ cd_Eg x → post 0) : wpX_isEngine post u x := by
  obtain ⟨_, _, _, _, _, _, _, _, _, _, _, _, _, _, _, _⟩ := u
  exact br_c (fun h => h0 (fun z => z.1 h)) (fun h => br_c (fun g => h0 (fun z => z.2 g)) (fun g => h1 ⟨h, g⟩))
theorem fx_asks {u : SX} {x : Int32} (h1 : x = 2 ∨ x = 3 → post 1) (h0 : ¬ (x = 2 ∨ x = 3) → post 0) : wpX_asksWhatFails post u x := by
  obtain ⟨_, _, _, _, _, _, _, _, _, _, _, _, _, _, _, _⟩ := u
  exact br_c (fun h => h1 (Or.inl h)) (fun h => br_c (fun g => h1 (Or.inr g)) (fun g => h0 (fun z => z.elim h g)))
theorem fx_looks {u : SX} {x : Int32} (h1 : x = 0 ∨ x = 2 ∨ x = 4 → post 1) (h0 : ¬ (x = 0 ∨ x = 2 ∨ x = 4) → post 0) : wpX_looksBack post u x := by
  obtain ⟨_, _, _, _, _, _, _, _, _, _, _, _, _, _, _, _⟩ := u
  exact br_c (fun h => h1 (Or.inl h)) (fun h => br_c (fun g => h1 (Or.inr (Or.inl g))) (fun g => br_c (fun k => h1 (Or.inr (Or.inr k))) (fun k => h0 (fun z => z.elim h (fun w => w.elim g k)))))
theorem fx_has {u : SX} {x : Int32} {P : Nat → Prop} {p : Nat} (hp : p < 32) (hx : x = se_S P) (h1 : P p → post 1) (h0 : ¬ P p → post 0) : wpX_has post u x (nI p) := by
  obtain ⟨_, _, _, _, _, _, _, _, _, _, _, _, _, _, _, _⟩ := u
  subst hx
  exact br_c (fun h => h0 ((se_h0 hp).mp h)) (fun h => h1 (Classical.byContradiction fun z => h ((se_h0 hp).mpr z)))
theorem fx_spot {x : Int32} {t : Nat} (hn : n ≤ 20) (ht : t ≤ 20) (hx : x = nI t) (h : post (se_S (fun i => i = cd_sp n t))) : wpX_spot post ((nI n), rc, o, a, b, wt, rd, cm, nx, bh, sd, kp, mk, tg, fa, nt) x := by
  subst hx
  by_cases g : t < n
  · refine br_f (nI_ge g (by omega)) ?_
    rw [se_shl (by omega)]
    rw [cd_spi g] at h
    exact h
  · refine br_t (nI_le (by omega) (by omega)) ?_
    have e : ((1 : Int32) <<< ((20 : Int32) &&& 31)) = se_S (fun i => i = 20) := se_shl (p := 20) (by omega)
    rw [e]
    unfold cd_sp at h
    rw [if_neg g] at h
    exact h
theorem fx_wholeCode (hn : n ≤ 20) (h : post (se_S (fun i => i < n))) : wpX_wholeCode post ((nI n), rc, o, a, b, wt, rd, cm, nx, bh, sd, kp, mk, tg, fa, nt) := by
  unfold wpX_wholeCode
  dsimp only
  rw [se_all hn]; exact h
theorem fx_isInCode (hn : n ≤ 20) {x : Int32} (h1 : ∀ p, p < n → x = nI p → post 1) (h0 : (∀ p, p < n → x ≠ nI p) → post 0) : wpX_isInCode post ((nI n), rc, o, a, b, wt, rd, cm, nx, bh, sd, kp, mk, tg, fa, nt) x := by
  rcases ix_c x hn with ⟨p, hp, e⟩ | ⟨h, g⟩
  · subst e
    exact br_f (nI_pos (by omega)) (br_f (nI_ge hp (by omega)) (h1 p hp rfl))
  · rcases h with h | h
    · exact br_t h (h0 g)
    · exact br_f h.1 (br_t h.2 (h0 g))
theorem fx_isReachable (hn : n ≤ 20) {R : Nat → Prop} (hR : rc = se_S R) {x : Int32} (h1 : ∀ p, p < n → x = nI p → R p → post 1) (h0 : ¬ (∃ p, p < n ∧ x = nI p ∧ R p) → post 0) : wpX_isReachable post ((nI n), rc, o, a, b, wt, rd, cm, nx, bh, sd, kp, mk, tg, fa, nt) x := by
  unfold wpX_isReachable
  dsimp only
  refine fx_isInCode hn (fun p hp e => br_f (by decide) ?_) (fun g => br_t rfl (h0 (fun ⟨p, hp, e, _⟩ => g p hp e)))
  subst e
  refine fx_has (by omega) hR (fun z => br_f (by decide) (h1 p hp rfl z)) (fun z => br_t rfl (h0 ?_))
  rintro ⟨q, hq, e, w⟩
  have := (nI_eq (by omega) (by omega)).mp e
  subst this
  exact z w
theorem fx_onward (hn : n ≤ 20) {N : Nat → Nat → Prop} (hN : ∀ p, p < n → nx p = se_S (N p)) {x : Int32} {P : Nat → Prop} (hx : x = se_S P) (h : post (se_S (fun i => ∃ p, p < n ∧ P p ∧ N p i))) : wpX_onwardFrom post ((nI n), rc, o, a, b, wt, rd, cm, nx, bh, sd, kp, mk, tg, fa, nt) x := by
  unfold wpX_onwardFrom
  dsimp only
  refine gl_un (fun f y z => wX_onwardFrom_4 post x (nI n) rc o a b wt rd cm nx bh sd kp mk tg fa nt f y z) n P N post ?_ ?_ h
  · intro f x h
    exact br_t (nI_le (Nat.le_refl _) (by omega)) h
  · intro f k y hk h0 h1
    refine br_f (nI_ge hk (by omega)) (fx_has (by omega) hx (fun hc => br_f (by decide) ⟨ix_in (by omega), ?_⟩) (fun hc => br_t rfl (gl_i (h0 hc))))
    rw [ix_cl (by omega : k < 20)]
    exact fun z ez => gl_i (h1 hc z (by rw [ez, hN k hk]))
theorem fx_goingOnAt (hn : n ≤ 20) {N : Nat → Nat → Prop} (hN : ∀ p, p < n → nx p = se_S (N p)) {q : Nat} (hq : q < 32) (h : post (se_S (fun i => i < n ∧ N i q))) : wpX_goingOnAt post ((nI n), rc, o, a, b, wt, rd, cm, nx, bh, sd, kp, mk, tg, fa, nt) (nI q) := by
  unfold wpX_goingOnAt
  dsimp only
  refine gl_pick (fun f y z => wX_goingOnAt_4 post (nI q) (nI n) rc o a b wt rd cm nx bh sd kp mk tg fa nt f y z) n (fun i => N i q) post (by omega) ?_ ?_ h
  · intro f x h
    exact br_t (nI_le (Nat.le_refl _) (by omega)) h
  · intro f k y hk h0 h1
    refine br_f (nI_ge hk (by omega)) ⟨ix_in (by omega), ?_⟩
    rw [ix_cl (by omega : k < 20)]
    exact fx_has hq (hN k hk) (fun hc => br_f (by decide) (nm_e (gl_i (h1 hc)))) (fun hc => br_t rfl (gl_i (h0 hc)))
theorem fx_ways (hn : n ≤ 20) (hN : ∀ p, p < n → nx p = se_S (cd_G n o b p)) {x y : Int32} {p : Nat} {C : Nat → Prop} (hx : x = nI p) (hp : p ≤ 20) (hC : y = se_S C) (h : post (se_S (fl_F n o b (fun i => i = cd_sp n p) (fun _ => False) C))) : wpX_waysFrom post ((nI n), rc, o, a, b, wt, rd, cm, nx, bh, sd, kp, mk, tg, fa, nt) x y := by
  subst hC
  unfold wpX_waysFrom
  dsimp only
  refine fx_spot hn hp hx (nm_r (e' := se_S (fun i => i = cd_sp n p ∧ ¬ C i)) (by rw [se_not, se_and]) ?_)
  refine gl_clo (fun f y z => wX_waysFrom_13 post (se_S C) (nI n) rc o a b wt rd cm nx bh sd kp mk tg fa nt f y z) (fl_E n o b (fun _ => False) C) (fun i => i = cd_sp n p ∧ ¬ C i) post _ ?_ (fun i z => lf_i z) ?_ ?_ h
  · intro i z
    have := fl_Fl (A := fun i => i = cd_sp n p) hn (fun i z => by rw [z]; exact cd_spl hn) z
    omega
  · intro f x h
    exact br_t (nI_lt (a := 20) (b := 21) (by omega) (by omega)) h
  · intro f k P hk hP h0P hh
    refine br_f (nI_nlt (a := 20) (by omega) (by omega)) (fx_onward hn hN rfl (nm_r (e' := se_S (fun i => P i ∨ (i = cd_sp n p ∧ ¬ C i) ∨ ∃ q, P q ∧ fl_E n o b (fun _ => False) C q i)) ?_ ?_))
    · rw [se_or, se_not, se_and]
      refine se_ext (fun i _ => ⟨?_, ?_⟩)
      · rintro ⟨z | ⟨q, h1, h2, h3⟩, w⟩
        · exact Or.inl z
        · exact Or.inr (Or.inr ⟨q, h2, h3, fun z => z, w⟩)
      · rintro (z | z | ⟨q, h1, h2⟩)
        · exact ⟨Or.inl z, fl_nC (hP i z)⟩
        · exact ⟨Or.inl (h0P i z), z.2⟩
        · exact ⟨Or.inr ⟨q, h2.1.1, h1, h2.1⟩, h2.2.2⟩
    · have g := hh _ rfl
      exact ⟨g.1, fun z => gl_i (g.2 z)⟩
end
section
variable {n : Nat} {rc : Int32} {o v a b wt rd cm nx bh sd kp mk tg fa nt : Nat → Int32}
theorem fx_survey3 {post : SX → Prop} (hn : n ≤ 20) (hN : ∀ p, p < n → nx p = se_S (cd_G n o b p)) (hR : rc = se_S (fl_R n o b)) (h : ∀ bh', (∀ p, p < n → bh' p = se_S (fun i => fl_R n o b i ∧ fl_Bf n o b p i)) → post ((nI n), rc, o, a, b, wt, rd, cm, nx, bh', sd, kp, mk, tg, fa, nt)) : ∃ f, wX_survey_96 post (nI n) rc f 0 o a b wt rd cm nx bh sd kp mk tg fa nt := by
  have key : ∀ d k bh', k + d = n → (∀ p, p < k → bh' p = se_S (fun i => fl_R n o b i ∧ fl_Bf n o b p i)) → wX_survey_96 post (nI n) rc (d + 1) (nI k) o a b wt rd cm nx bh' sd kp mk tg fa nt := by
    intro d
    induction d with
    | zero =>
      intro k bh' hk hb
      have e : k = n := by omega
      subst e
      exact br_t (nI_le (Nat.le_refl _) (by omega)) (h bh' hb)
    | succ d ih =>
      intro k bh' hk hb
      refine br_f (nI_ge (by omega) (by omega)) (fx_ways hn hN (p := 0) nI_0.symm (by omega) (se_shl (by omega)) ⟨ix_in (by omega), ?_⟩)
      rw [ix_cl (by omega : k < 20)]
      refine nm_r (e' := upd bh' k (se_S (fun i => fl_R n o b i ∧ fl_Bf n o b k i))) ?_ (gl_i (ih (k + 1) _ (by omega) ?_))
      · rw [hR, se_not, se_and]
        refine congrArg _ (se_ext (fun i _ => ⟨fun z => ⟨z.1, fun w => z.2 ?_⟩, fun z => ⟨z.1, fun w => z.2 ?_⟩⟩))
        · exact (fl_sp (by omega)).mpr w
        · exact (fl_sp (by omega)).mp w
      · intro p hp
        by_cases e : p = k
        · subst e; exact pk_us
        · rw [pk_un e]; exact hb p (by omega)
  exact ⟨_, key n 0 bh (by omega) (fun p hp => by omega)⟩
theorem fx_survey {post : SX → Prop} (ok : cd_Ok n o v a b) (h : ∀ nx' bh', (∀ p, p < n → nx' p = se_S (cd_G n o b p)) → (∀ p, p < n → bh' p = se_S (fun i => fl_R n o b i ∧ fl_Bf n o b p i)) → post ((nI n), se_S (fl_R n o b), o, a, b, wt, rd, cm, nx', bh', sd, kp, mk, tg, fa, nt)) : wpX_survey post ((nI n), rc, o, a, b, wt, rd, cm, nx, bh, sd, kp, mk, tg, fa, nt) := by
  have hn := ok.1
  have key : ∀ d k nx', k + d = n → (∀ p, p < k → nx' p = se_S (cd_G n o b p)) → wX_survey_2 post (nI n) rc (d + 1) (nI k) o a b wt rd cm nx' bh sd kp mk tg fa nt := by
    intro d
    induction d with
    | zero =>
      intro k nx' hk hb
      have e : k = n := by omega
      subst e
      refine br_t (nI_le (Nat.le_refl _) (by omega)) (fx_ways hn hb (p := 0) nI_0.symm (by omega) se_0 (fx_wholeCode hn (nm_r (e' := se_S (fl_R k o b)) ?_ (fx_survey3 hn hb rfl (fun bh' hbh => h nx' bh' hb hbh)))))
      rw [se_and]
      refine se_ext (fun i _ => ⟨fun z => ⟨(fl_sp (by have := z.2; omega)).mp z.1, z.2⟩, fun z => ⟨(fl_sp (by have := z.2; omega)).mpr z.1, z.2⟩⟩)
    | succ d ih =>
      intro k nx' hk hb
      have hi : vp_in (nI k) 20 := ix_in (by omega)
      have hkn : k < n := by omega
      obtain ⟨_, _, _, _, hj⟩ := ok.2 k hkn
      refine br_f (nI_ge (by omega) (by omega)) ⟨hi, ?_⟩
      have H36 : ∀ z0 : Int32, (z0 = se_S (fun i => ¬ o k = 5 ∧ i = cd_sp n (k + 1))) → wX_survey_36 post (wX_survey_2 post (nI n) rc (d + 1)) (nI k) z0 (nI k) (nI n) rc o a b wt rd cm nx' bh sd kp mk tg fa nt := by
        intro z0 hz0
        unfold wX_survey_36
        rw [ix_cl (by omega : k < 20)]
        refine ⟨hi, nm_e ⟨hi, hi, ?_⟩⟩
        refine fx_jumps (fun hj5 => br_f (by decide) ⟨hi, ?_⟩) (fun hj5 => br_t rfl ⟨hi, nm_e (gl_i (ih (k + 1) _ (by omega) ?_))⟩)
        · obtain ⟨t, ht, et⟩ := hj hj5
          refine fx_spot hn ht et ⟨hi, nm_e (gl_i (ih (k + 1) _ (by omega) ?_))⟩
          intro p hp
          by_cases e : p = k
          · subst e
            rw [pk_us, pk_us, hz0, se_or]
            refine se_ext (fun i _ => ?_)
            unfold cd_G
            rw [et, nI_clamp (by omega)]
            exact ⟨fun z => ⟨hkn, z.imp id (fun w => ⟨hj5, w⟩)⟩, fun z => z.2.imp id (fun w => w.2)⟩
          · rw [pk_un e, pk_un e]; exact hb p (by omega)
        · intro p hp
          by_cases e : p = k
          · subst e
            rw [pk_us, pk_us, se_or0, hz0]
            refine se_ext (fun i _ => ?_)
            exact ⟨fun z => ⟨hkn, Or.inl z⟩, fun z => z.2.elim id (fun w => absurd w.1 hj5)⟩
          · rw [pk_un e, pk_un e]; exact hb p (by omega)
      rw [ix_cl (by omega : k < 20)]
      refine br_c (fun h5 => H36 0 ?_) (fun h5 => fx_spot hn (t := k + 1) (by omega) (nI_1 k) (H36 _ ?_))
      · rw [se_0]; exact se_ext (fun i _ => ⟨fun z => z.elim, fun z => z.1 h5⟩)
      · exact se_ext (fun i _ => ⟨fun z => ⟨h5, z⟩, fun z => z.2⟩)
  exact ⟨_, key n 0 nx (by omega) (fun p hp => by omega)⟩
end
