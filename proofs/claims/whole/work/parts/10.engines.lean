/-! the three engines: each finds, at each position, the facts f of which the position lies in the least set en_L f -/
theorem se_Nor {P Q : Nat → Prop} : ∀ k, se_N (fun i => P i ∨ Q i) k ≤ se_N P k + se_N Q k := by
  intro k
  induction k with
  | zero => exact Nat.le_refl _
  | succ k ih =>
    rw [se_N, se_N, se_N]
    by_cases hp : P k
    · rw [if_pos hp, if_pos (Or.inl hp)]; omega
    · by_cases hq : Q k
      · rw [if_neg hp, if_pos hq, if_pos (Or.inr hq)]; omega
      · rw [if_neg hp, if_neg hq, if_neg (fun z => z.elim hp hq)]; omega
theorem se_Nsg (c : Nat) : ∀ k, se_N (fun i => i = c) k ≤ (if c < k then 1 else 0) := by
  intro k
  induction k with
  | zero => exact Nat.zero_le _
  | succ k ih =>
    rw [se_N]
    by_cases e : k = c
    · subst e
      rw [if_neg (by omega)] at ih
      rw [if_pos rfl, if_pos (by omega)]
      omega
    · rw [if_neg e]
      by_cases h : c < k
      · rw [if_pos h] at ih
        rw [if_pos (by omega)]
        omega
      · rw [if_neg h] at ih
        omega
theorem se_Nins {P : Nat → Prop} {c k : Nat} : se_N (fun i => P i ∨ i = c) k ≤ se_N P k + 1 := by
  have h1 := se_Nor (P := P) (Q := fun i => i = c) k
  have h2 := se_Nsg c k
  split at h2 <;> omega
def en_E (n : Nat) (K T : Nat → Nat → Prop) (f r q : Nat) : Prop := r < n ∧ T r q ∧ K r f
def en_A (n : Nat) (S M T : Nat → Nat → Prop) (f q : Nat) : Prop := (q < n ∧ S q f) ∨ ∃ r, r < n ∧ T r q ∧ M r f
def en_L (n : Nat) (S K M T : Nat → Nat → Prop) (f q : Nat) : Prop := lf_L (en_E n K T f) (en_A n S M T f) q
def en_H (n : Nat) (sd kp mk tg : Nat → Int32) (S K M T : Nat → Nat → Prop) : Prop := n ≤ 20 ∧ (∀ p, p < n → sd p = se_S (S p)) ∧ (∀ p, p < n → kp p = se_S (K p)) ∧ (∀ p, p < n → mk p = se_S (M p)) ∧ (∀ p, p < n → tg p = se_S (T p)) ∧ (∀ p f, p < n → f < 32 → S p f → f < 20) ∧ (∀ p f, p < n → f < 32 → M p f → f < 20) ∧ (∀ p q, p < n → T p q → q < n)
def en_F (fa : Nat → Int32) (p f : Nat) : Prop := f < 32 ∧ bt (fa p) f = true
def en_P (K M : Nat → Nat → Prop) (fa : Nat → Int32) (p f : Nat) : Prop := (en_F fa p f ∧ K p f) ∨ M p f
def en_I (n : Nat) (S K M T : Nat → Nat → Prop) (fa : Nat → Int32) : Prop := (∀ p f, p < n → f < 32 → S p f → en_F fa p f) ∧ (∀ p f, p < n → en_F fa p f → en_L n S K M T f p)
noncomputable def en_N (fa : Nat → Int32) : Nat := se_N (fun j => en_F fa (j / 20) (j % 20)) 400
theorem en_Fe {fa : Nat → Int32} (p : Nat) : fa p = se_S (en_F fa p) := se_of (fun _ hi => ⟨fun z => ⟨hi, z⟩, fun z => z.2⟩)
theorem en_Fs {fa : Nat → Int32} {p f : Nat} {P : Nat → Prop} (h : fa p = se_S P) : en_F fa p f ↔ f < 32 ∧ P f := by
  unfold en_F
  rw [h]
  exact ⟨fun z => ⟨z.1, (se_b z.1).mp z.2⟩, fun z => ⟨z.1, (se_b z.1).mpr z.2⟩⟩
theorem en_Fus {fa : Nat → Int32} {k f : Nat} {P : Nat → Prop} : en_F (upd fa k (se_S P)) k f ↔ f < 32 ∧ P f := en_Fs pk_us
theorem en_Fun {fa : Nat → Int32} {k p f : Nat} {x : Int32} (h : p ≠ k) : en_F (upd fa k x) p f ↔ en_F fa p f := by
  unfold en_F; rw [pk_un h]
theorem en_grow {fa : Nat → Int32} {k : Nat} {P : Nat → Prop} (hk : k < 20) (hs : ∀ f, en_F fa k f → P f) (hn : ∃ f, f < 20 ∧ P f ∧ ¬ en_F fa k f) : en_N fa + 1 ≤ en_N (upd fa k (se_S P)) := by
  refine se_Nlt 400 (fun j hj z => ?_) ?_
  · by_cases e : j / 20 = k
    · rw [e] at z ⊢
      exact en_Fus.mpr ⟨z.1, hs _ z⟩
    · exact (en_Fun e).mpr z
  · obtain ⟨f, hf, h1, h2⟩ := hn
    have e1 : (20 * k + f) / 20 = k := by omega
    have e2 : (20 * k + f) % 20 = f := by omega
    refine ⟨20 * k + f, by omega, ?_, ?_⟩
    · rw [e1, e2]; exact en_Fus.mpr ⟨by omega, h1⟩
    · rw [e1, e2]; exact h2
section
variable {n : Nat} {rc : Int32} {o v a b wt rd cm nx bh sd kp mk tg fa nt : Nat → Int32} {S K M T : Nat → Nat → Prop}
theorem en_b (H : en_H n sd kp mk tg S K M T) {f q : Nat} (hf : f < 32) (h : en_L n S K M T f q) : f < 20 := by
  obtain ⟨hn, _, _, _, _, hS, hM, hT⟩ := H
  exact h (fun _ => f < 20) (fun a z => z.elim (fun w => hS a f w.1 hf w.2) (fun ⟨r, h1, h2, h3⟩ => hM r f h1 hf h3)) (fun _ _ z _ => z)
theorem en_Pl (hI : en_I n S K M T fa) {f r q : Nat} (hr : r < n) (hT : T r q) (h : en_P K M fa r f) : en_L n S K M T f q := by
  rcases h with h | h
  · exact lf_s (hI.2 r f hr h.1) ⟨hr, hT, h.2⟩
  · exact lf_i (Or.inr ⟨r, hr, hT, h⟩)
theorem en_fin (H : en_H n sd kp mk tg S K M T) (hI : en_I n S K M T fa) (hc : ∀ f r q, r < n → q < n → T r q → f < 32 → en_P K M fa r f → en_F fa q f) : ∀ p, p < n → fa p = se_S (fun f => en_L n S K M T f p) := by
  obtain ⟨hn, _, _, _, _, hS, hM, hT⟩ := H
  intro p hp
  rw [en_Fe (fa := fa) p]
  refine se_ext (fun f hf => ⟨fun z => hI.2 p f hp z, fun z => ?_⟩)
  refine (z (fun q => q < n ∧ en_F fa q f) (fun q w => ?_) (fun x y w e => ?_)).2
  · rcases w with w | ⟨r, h1, h2, h3⟩
    · exact ⟨w.1, hI.1 q f w.1 hf w.2⟩
    · have hq := hT r q h1 h2
      exact ⟨hq, hc f r q h1 hq h2 hf (Or.inr h3)⟩
  · have hy := hT x y e.1 e.2.1
    exact ⟨hy, hc f x y e.1 hy e.2.1 hf (Or.inl ⟨w.2, e.2.2⟩)⟩
theorem fx_passedOn {post : Int32 → Prop} (H : en_H n sd kp mk tg S K M T) {p : Nat} (hp : p < n) (h : post (se_S (en_P K M fa p))) : wpX_passedOn post ((nI n), rc, o, a, b, wt, rd, cm, nx, bh, sd, kp, mk, tg, fa, nt) (nI p) := by
  obtain ⟨hn, _, hK, hM, _⟩ := H
  have hi : vp_in (nI p) 20 := ix_in (by omega)
  unfold wpX_passedOn
  dsimp only
  rw [ix_cl (by omega : p < 20), hK p hp, hM p hp, en_Fe (fa := fa) p, se_and, se_or]
  exact ⟨hi, hi, hi, h⟩
theorem fx_gatheredAt {post : Int32 → Prop} (H : en_H n sd kp mk tg S K M T) {q : Nat} (hq : q < n) (h : post (se_S (fun f => ∃ r, r < n ∧ T r q ∧ en_P K M fa r f))) : wpX_gatheredAt post ((nI n), rc, o, a, b, wt, rd, cm, nx, bh, sd, kp, mk, tg, fa, nt) (nI q) := by
  have hn := H.1
  have hT := H.2.2.2.2.1
  unfold wpX_gatheredAt
  dsimp only
  refine gl_un (fun f y z => wX_gatheredAt_4 post (nI q) (nI n) rc o a b wt rd cm nx bh sd kp mk tg fa nt f y z) n (fun r => T r q) (fun r => en_P K M fa r) post ?_ ?_ h
  · intro f x h
    exact br_t (nI_le (Nat.le_refl _) (by omega)) h
  · intro f k y hk h0 h1
    refine br_f (nI_ge hk (by omega)) ⟨ix_in (by omega), ?_⟩
    rw [ix_cl (by omega : k < 20)]
    exact fx_has (by omega) (hT k hk) (fun hc => br_f (by decide) (fx_passedOn H hk (fun y ey => gl_i (h1 hc y ey)))) (fun hc => br_t rfl (gl_i (h0 hc)))
theorem fx_sweep {post : SX → Prop} (H : en_H n sd kp mk tg S K M T) (hI : en_I n S K M T fa) (h : ∀ fa', (∀ p, p < n → fa' p = se_S (fun f => en_L n S K M T f p)) → post ((nI n), rc, o, a, b, wt, rd, cm, nx, bh, sd, kp, mk, tg, fa', nt)) : wpX_sweep post ((nI n), rc, o, a, b, wt, rd, cm, nx, bh, sd, kp, mk, tg, fa, nt) := by
  have hn := H.1
  have key : ∀ d r fa, r + d = 420 → en_I n S K M T fa → r ≤ en_N fa → wX_sweep_2 post (nI n) rc (d + 1) (nI r) o a b wt rd cm nx bh sd kp mk tg fa nt := by
    intro d
    induction d with
    | zero =>
      intro r fa hr hI hc
      have := se_Nle (fun j => en_F fa (j / 20) (j % 20)) 400
      unfold en_N at hc
      omega
    | succ d ih =>
      intro r fa hr hI hc
      refine br_f (nI_ge (b := 420) (by omega) (by omega)) ?_
      have inner : ∀ dd k fa' x2, k + dd = n → en_I n S K M T fa' → ((x2 = 0 ∧ fa' = fa ∧ ∀ q f, q < k → f < 32 → (∃ r, r < n ∧ T r q ∧ en_P K M fa r f) → en_F fa q f) ∨ (x2 = 1 ∧ en_N fa + 1 ≤ en_N fa')) → wX_sweep_13 post (wX_sweep_2 post (nI n) rc (d + 1)) (nI r) (nI n) rc (dd + 1) x2 (nI k) o a b wt rd cm nx bh sd kp mk tg fa' nt := by
        intro dd
        induction dd with
        | zero =>
          intro k fa' x2 hk hI' hx
          have e : k = n := by omega
          subst e
          refine br_t (nI_le (Nat.le_refl _) (by omega)) ?_
          rcases hx with ⟨e2, e3, hc2⟩ | ⟨e2, hc2⟩
          · subst e2 e3
            exact br_t rfl (h fa' (en_fin H hI (fun f r q hr hq hT hf hP => hc2 q f hq hf ⟨r, hr, hT, hP⟩)))
          · subst e2
            exact br_f (by decide) (gl_i (ih (r + 1) fa' (by omega) hI' (by omega)))
        | succ dd ih2 =>
          intro k fa' x2 hk hI' hx
          have hkn : k < n := by omega
          have hi : vp_in (nI k) 20 := ix_in (by omega)
          refine br_f (nI_ge hkn (by omega)) ⟨hi, fx_gatheredAt H hkn ?_⟩
          rw [ix_cl (by omega : k < 20)]
          refine nm_r (e' := se_S (fun f => en_F fa' k f ∨ ∃ r, r < n ∧ T r k ∧ en_P K M fa' r f)) (by rw [en_Fe (fa := fa') k, se_or]) ⟨hi, ?_⟩
          refine br_c (fun heq => gl_i (ih2 (k + 1) fa' x2 (by omega) hI' ?_)) (fun hne => ⟨hi, nm_e (gl_i (ih2 (k + 1) _ 1 (by omega) ?_ (Or.inr ⟨rfl, ?_⟩)))⟩)
          · rcases hx with ⟨e2, e3, hc2⟩ | hx
            · subst e3
              refine Or.inl ⟨e2, rfl, fun q f hq hf hp => ?_⟩
              by_cases e : q = k
              · subst e
                rw [en_Fe (fa := fa') q] at heq
                exact (se_inj heq hf).mp (Or.inr hp)
              · exact hc2 q f (by omega) hf hp
            · exact Or.inr hx
          · refine ⟨fun p f hp hf hs => ?_, fun p f hp z => ?_⟩
            · by_cases e : p = k
              · subst e
                exact en_Fus.mpr ⟨hf, Or.inl (hI'.1 p f hp hf hs)⟩
              · exact (en_Fun e).mpr (hI'.1 p f hp hf hs)
            · by_cases e : p = k
              · subst e
                rcases (en_Fus.mp z).2 with w | ⟨r, h1, h2, h3⟩
                · exact hI'.2 p f hp w
                · exact en_Pl hI' h1 h2 h3
              · exact hI'.2 p f hp ((en_Fun e).mp z)
          · have hnew : ∃ f, f < 20 ∧ (en_F fa' k f ∨ ∃ r, r < n ∧ T r k ∧ en_P K M fa' r f) ∧ ¬ en_F fa' k f := by
              refine Classical.byContradiction fun z => hne ?_
              rw [en_Fe (fa := fa') k]
              refine se_ext (fun f hf => ⟨fun w => Classical.byContradiction fun w2 => ?_, Or.inl⟩)
              rcases w with w | w
              · exact w2 w
              · obtain ⟨r, h1, h2, h3⟩ := w
                exact z ⟨f, en_b H hf (en_Pl hI' h1 h2 h3), Or.inr ⟨r, h1, h2, h3⟩, w2⟩
            have g := en_grow (fa := fa') (k := k) (P := fun f => en_F fa' k f ∨ ∃ r, r < n ∧ T r k ∧ en_P K M fa' r f) (by omega) (fun f z => Or.inl z) hnew
            rcases hx with ⟨_, e3, _⟩ | ⟨_, hc2⟩
            · rw [e3] at g ⊢; exact g
            · omega
      exact ⟨_, inner n 0 fa 0 (by omega) hI (Or.inl ⟨rfl, rfl, fun q f hq => by omega⟩)⟩
  exact ⟨_, key 420 0 fa (by omega) hI (Nat.zero_le _)⟩
theorem fx_leastOf {post : Int32 → Prop} {P : Nat → Prop} (hx : ∃ p, p < 20 ∧ P p) (h : ∀ p, p < 20 → P p → post (nI p)) : wpX_leastOf post ((nI n), rc, o, a, b, wt, rd, cm, nx, bh, sd, kp, mk, tg, fa, nt) (se_S P) := by
  have key : ∀ d k, k + d = 19 → (∀ j, j < k → ¬ P j) → wX_leastOf_2 post (se_S P) (nI n) rc o a b wt rd cm nx bh sd kp mk tg fa nt (d + 1) (nI k) := by
    intro d
    induction d with
    | zero =>
      intro k hk hu
      have e : k = 19 := by omega
      subst e
      refine br_t (nI_le (a := 19) (b := 19) (by omega) (by omega)) (h 19 (by omega) ?_)
      obtain ⟨p, hp, z⟩ := hx
      by_cases e : p = 19
      · subst e; exact z
      · exact absurd z (hu p (by omega))
    | succ d ih =>
      intro k hk hu
      refine br_f (nI_ge (b := 19) (by omega) (by omega)) (fx_has (by omega) rfl (fun z => br_f (by decide) (h k (by omega) z)) (fun z => br_t rfl (gl_i (ih (k + 1) (by omega) (fun j hj => ?_)))))
      by_cases e : j = k
      · subst e; exact z
      · exact hu j (by omega)
  exact ⟨_, key 19 0 (by omega) (fun j hj => by omega)⟩
theorem fx_handOut {post : Int32 → SX → Prop} (H : en_H n sd kp mk tg S K M T) (hI : en_I n S K M T fa) {p : Nat} (hp : p < n)
    (h : ∀ fa' G, en_I n S K M T fa' → (∀ q, G q → q < n) → (∀ q f, en_F fa' q f ↔ en_F fa q f ∨ (G q ∧ f < 32 ∧ en_P K M fa p f)) → (∀ q f, q < n → T p q → f < 32 → en_P K M fa p f → en_F fa' q f) → en_N fa + se_N G 20 ≤ en_N fa' → post (se_S G) ((nI n), rc, o, a, b, wt, rd, cm, nx, bh, sd, kp, mk, tg, fa', nt)) : wpX_handOut post ((nI n), rc, o, a, b, wt, rd, cm, nx, bh, sd, kp, mk, tg, fa, nt) (nI p) := by
  have hn := H.1
  have hT := H.2.2.2.2.1
  unfold wpX_handOut
  dsimp only
  refine fx_passedOn H hp ?_
  have key : ∀ d k fa' G, k + d = n → en_I n S K M T fa' → (∀ q, G q → q < k) → (∀ q f, en_F fa' q f ↔ en_F fa q f ∨ (G q ∧ f < 32 ∧ en_P K M fa p f)) → (∀ q f, q < k → T p q → f < 32 → en_P K M fa p f → en_F fa' q f) → en_N fa + se_N G 20 ≤ en_N fa' → wX_handOut_11 post (nI p) (se_S (en_P K M fa p)) (nI n) rc (d + 1) (se_S G) (nI k) o a b wt rd cm nx bh sd kp mk tg fa' nt := by
    intro d
    induction d with
    | zero =>
      intro k fa' G hk h1 h2 h3 h4 h5
      have e : k = n := by omega
      subst e
      exact br_t (nI_le (Nat.le_refl _) (by omega)) (h fa' G h1 h2 h3 h4 h5)
    | succ d ih =>
      intro k fa' G hk h1 h2 h3 h4 h5
      have hkn : k < n := by omega
      have hi : vp_in (nI k) 20 := ix_in (by omega)
      have stay : (T p k → ∀ f, f < 32 → en_P K M fa p f → en_F fa' k f) → wX_handOut_11 post (nI p) (se_S (en_P K M fa p)) (nI n) rc (d + 1) (se_S G) (nI (k + 1)) o a b wt rd cm nx bh sd kp mk tg fa' nt := by
        intro hs
        refine ih (k + 1) fa' G (by omega) h1 (fun q z => by have := h2 q z; omega) h3 (fun q f hq ht hf hpp => ?_) h5
        by_cases e : q = k
        · subst e; exact hs ht f hf hpp
        · exact h4 q f (by omega) ht hf hpp
      refine br_f (nI_ge hkn (by omega)) ⟨ix_in (by omega), ?_⟩
      rw [ix_cl (by omega : p < 20)]
      refine fx_has (by omega) (hT p hp) (fun ht => br_f (by decide) ⟨hi, ?_⟩) (fun ht => br_t rfl (gl_i (stay (fun z => absurd z ht))))
      rw [ix_cl (by omega : k < 20), en_Fe (fa := fa') k, se_not]
      refine br_c (fun hz => gl_i (stay (fun _ f hf hpp => ?_))) (fun hz => ⟨hi, hi, ?_⟩)
      · refine Classical.byContradiction fun w => ?_
        exact se_m32.mp hz ⟨f, hf, hpp, w⟩
      · have hnew : ∃ i, i < 32 ∧ en_P K M fa p i ∧ ¬ en_F fa' k i := Classical.byContradiction fun w => hz (se_m32.mpr w)
        rw [se_or]
        refine nm_e (nm_r (e' := se_S (fun i => G i ∨ i = k)) (by rw [se_shl (by omega), se_or]) (gl_i (ih (k + 1) _ _ (by omega) ?_ ?_ ?_ ?_ ?_)))
        · refine ⟨fun q f hq hf hs => ?_, fun q f hq z => ?_⟩
          · by_cases e : q = k
            · subst e
              exact en_Fus.mpr ⟨hf, Or.inl (h1.1 q f hq hf hs)⟩
            · exact (en_Fun e).mpr (h1.1 q f hq hf hs)
          · by_cases e : q = k
            · subst e
              rcases (en_Fus.mp z).2 with w | w
              · exact h1.2 q f hq w
              · exact en_Pl hI hp ht w
            · exact h1.2 q f hq ((en_Fun e).mp z)
        · intro q z
          rcases z with z | z
          · have := h2 q z; omega
          · omega
        · intro q f
          by_cases e : q = k
          · subst e
            rw [en_Fus, h3 q f]
            constructor
            · rintro ⟨w, (z | z) | z⟩
              · exact Or.inl z
              · exact Or.inr ⟨Or.inl z.1, z.2⟩
              · exact Or.inr ⟨Or.inr rfl, w, z⟩
            · rintro (z | z)
              · exact ⟨z.1, Or.inl (Or.inl z)⟩
              · exact ⟨z.2.1, Or.inr z.2.2⟩
          · rw [en_Fun e, h3 q f]
            exact or_congr Iff.rfl (and_congr ⟨Or.inl, fun z => z.elim id (fun w => absurd w e)⟩ Iff.rfl)
        · intro q f hq htq hf hpp
          by_cases e : q = k
          · subst e
            exact en_Fus.mpr ⟨hf, Or.inr hpp⟩
          · exact (en_Fun e).mpr (h4 q f (by omega) htq hf hpp)
        · obtain ⟨i, hi32, hpi, hni⟩ := hnew
          have g := en_grow (fa := fa') (k := k) (P := fun f => en_F fa' k f ∨ en_P K M fa p f) (by omega) (fun f z => Or.inl z) ⟨i, en_b H hi32 (en_Pl hI hp ht hpi), Or.inr hpi, hni⟩
          have g2 := se_Nins (P := G) (c := k) (k := 20)
          omega
  have e0 : (0 : Int32) = se_S (fun _ => False) := se_0
  have k0 := key n 0 fa (fun _ => False) (by omega) hI (fun q z => z.elim) (fun q f => ⟨Or.inl, fun z => z.elim id (fun w => w.1.elim)⟩) (fun q f hq => by omega) (by
    have : se_N (fun _ => False) 20 ≤ 0 := by
      have := se_Nlt (P := fun _ => False) (Q := fun i => i = 0) 20 (fun _ _ z => z.elim) ⟨0, by omega, rfl, id⟩
      have := se_Nsg 0 20
      rw [if_pos (by omega)] at this
      omega
    omega)
  rw [← e0] at k0
  exact ⟨_, k0⟩
theorem fx_queue {post : SX → Prop} (H : en_H n sd kp mk tg S K M T) (hI : en_I n S K M T fa) (h : ∀ fa', (∀ p, p < n → fa' p = se_S (fun f => en_L n S K M T f p)) → post ((nI n), rc, o, a, b, wt, rd, cm, nx, bh, sd, kp, mk, tg, fa', nt)) : wpX_workOffQueue post ((nI n), rc, o, a, b, wt, rd, cm, nx, bh, sd, kp, mk, tg, fa, nt) := by
  have hn := H.1
  have key : ∀ d t P fa, t + d = 420 → en_I n S K M T fa → (∀ p, P p → p < n) → (∀ p q f, p < n → ¬ P p → q < n → T p q → f < 32 → en_P K M fa p f → en_F fa q f) → t + se_N P 20 ≤ 20 + en_N fa → wX_workOffQueue_7 post (d + 1) (se_S P) (nI t) (nI n) rc o a b wt rd cm nx bh sd kp mk tg fa nt := by
    intro d
    induction d with
    | zero =>
      intro t P fa ht hI hP hc hm
      have e : t = 420 := by omega
      subst e
      have hle := se_Nle (fun j => en_F fa (j / 20) (j % 20)) 400
      unfold en_N at hm
      have hno : ∀ p, ¬ P p := fun p z => by
        have hp20 : p < 20 := by have := hP p z; omega
        have := se_Npos (P := P) (k := 20) hp20 z
        omega
      exact br_t (nI_le (a := 420) (b := 420) (by omega) (by omega)) (h fa (en_fin H hI (fun f r q hr hq hT hf hp => hc r q f hr (hno r) hq hT hf hp)))
    | succ d ih =>
      intro t P fa ht hI hP hc hm
      refine br_f (nI_ge (b := 420) (by omega) (by omega)) ?_
      by_cases hex : ∃ p, P p
      · have hex20 : ∃ p, p < 20 ∧ P p := hex.elim (fun p z => ⟨p, by have := hP p z; omega, z⟩)
        refine br_f (se_nz.mpr (hex20.elim (fun p z => ⟨p, by omega, z.2⟩))) (fx_leastOf hex20 (fun p hp hPp => ?_))
        have hpn := hP p hPp
        refine nm_r (e' := se_S (fun i => P i ∧ ¬ i = p)) (by rw [se_shl (by omega), se_not, se_and]) (fx_handOut H hI hpn (fun fa' G g1 g2 g3 g4 g5 => ?_))
        dsimp only
        refine nm_r (e' := se_S (fun i => (P i ∧ ¬ i = p) ∨ G i)) (se_or _ _) (gl_i (ih (t + 1) _ fa' (by omega) g1 ?_ ?_ ?_))
        · exact fun q z => z.elim (fun w => hP q w.1) (g2 q)
        · intro r q f hr hnw hq hTr hf hpp
          have hnG : ¬ G r := fun z => hnw (Or.inr z)
          have same : ∀ f, en_F fa' r f ↔ en_F fa r f := fun f => (g3 r f).trans ⟨fun z => z.elim id (fun w => absurd w.1 hnG), Or.inl⟩
          have hpp' : en_P K M fa r f := hpp.imp (fun w => ⟨(same f).mp w.1, w.2⟩) id
          by_cases e : r = p
          · subst e
            exact g4 q f hq hTr hf hpp'
          · have hnP : ¬ P r := fun z => hnw (Or.inl ⟨z, e⟩)
            exact (g3 q f).mpr (Or.inl (hc r q f hr hnP hq hTr hf hpp'))
        · have c1 := se_Nor (P := fun i => P i ∧ ¬ i = p) (Q := G) 20
          have c2 := se_Nlt (P := fun i => P i ∧ ¬ i = p) (Q := P) 20 (fun i _ z => z.1) ⟨p, hp, hPp, fun z => z.2 rfl⟩
          omega
      · have hno : ∀ p, ¬ P p := fun p z => hex ⟨p, z⟩
        refine br_t (se_z.mpr (fun i _ => hno i)) (h fa (en_fin H hI (fun f r q hr hq hT hf hp => hc r q f hr (hno r) hq hT hf hp)))
  unfold wpX_workOffQueue
  dsimp only
  refine fx_wholeCode hn ⟨_, key 420 0 (fun i => i < n) fa (by omega) hI (fun _ z => z) (fun p q f hp hnp => absurd hp hnp) ?_⟩
  have := se_Nle (fun i => i < n) 20
  omega
theorem fx_targetsOf {post : Int32 → Prop} (H : en_H n sd kp mk tg S K M T) {x : Int32} {P : Nat → Prop} (hx : x = se_S P) (h : post (se_S (fun i => ∃ p, p < n ∧ P p ∧ T p i))) : wpX_targetsOf post ((nI n), rc, o, a, b, wt, rd, cm, nx, bh, sd, kp, mk, tg, fa, nt) x := by
  have hn := H.1
  have hT := H.2.2.2.2.1
  unfold wpX_targetsOf
  dsimp only
  refine gl_un (fun f y z => wX_targetsOf_4 post x (nI n) rc o a b wt rd cm nx bh sd kp mk tg fa nt f y z) n P T post ?_ ?_ h
  · intro f x h
    exact br_t (nI_le (Nat.le_refl _) (by omega)) h
  · intro f k y hk h0 h1
    refine br_f (nI_ge hk (by omega)) (fx_has (by omega) hx (fun hc => br_f (by decide) ⟨ix_in (by omega), ?_⟩) (fun hc => br_t rfl (gl_i (h0 hc))))
    rw [ix_cl (by omega : k < 20)]
    exact fun z ez => gl_i (h1 hc z (by rw [ez, hT k hk]))
theorem en_ln (H : en_H n sd kp mk tg S K M T) {f q : Nat} (h : en_L n S K M T f q) : q < n := by
  have hT := H.2.2.2.2.2.2.2
  exact h (fun q => q < n) (fun q z => z.elim (fun w => w.1) (fun ⟨r, h1, h2, _⟩ => hT r q h1 h2)) (fun x y _ e => hT x y e.1 e.2.1)
theorem fx_holdersOf {post : Int32 → Prop} (H : en_H n sd kp mk tg S K M T) {f : Nat} (hf : f < 32) (h : post (se_S (fun q => en_L n S K M T f q))) : wpX_holdersOf post ((nI n), rc, o, a, b, wt, rd, cm, nx, bh, sd, kp, mk, tg, fa, nt) (nI f) := by
  have hn := H.1
  have hS := H.2.1
  have hK := H.2.2.1
  have hM := H.2.2.2.1
  have hT := H.2.2.2.2.1
  have key : ∀ d k, k + d = n → wX_holdersOf_7 post (nI f) (nI n) rc o a b wt rd cm nx bh sd kp mk tg fa nt (d + 1) (se_S (fun q => (q < k ∧ S q f) ∨ ∃ r, r < k ∧ T r q ∧ M r f)) (se_S (fun r => r < k ∧ K r f)) (nI k) := by
    intro d
    induction d with
    | zero =>
      intro k hk
      have e : k = n := by omega
      subst e
      refine br_t (nI_le (Nat.le_refl _) (by omega)) ?_
      refine gl_clo (fun g y z => wX_holdersOf_106 post (se_S (fun r => r < k ∧ K r f)) (nI k) rc o a b wt rd cm nx bh sd kp mk tg fa nt g y z) (en_E k K T f) (en_A k S M T f) post (en_A k S M T f) ?_ (fun i z => lf_i z) ?_ ?_ h
      · intro i z
        have := en_ln H z
        omega
      · intro g x h
        exact br_t (nI_lt (a := 20) (b := 21) (by omega) (by omega)) h
      · intro g j P hj hP h0P hh
        refine br_f (nI_nlt (a := 20) (by omega) (by omega)) (fx_targetsOf H (se_and _ _) (nm_r (e' := se_S (fun i => P i ∨ en_A k S M T f i ∨ ∃ q, P q ∧ en_E k K T f q i)) ?_ ?_))
        · rw [se_or]
          refine se_ext (fun i _ => ⟨?_, ?_⟩)
          · rintro (z | ⟨q, h1, h2, h3⟩)
            · exact Or.inl z
            · exact Or.inr (Or.inr ⟨q, h2.1, h1, h3, h2.2.2⟩)
          · rintro (z | z | ⟨q, h1, h2⟩)
            · exact Or.inl z
            · exact Or.inl (h0P i z)
            · exact Or.inr ⟨q, h2.1, ⟨h1, h2.1, h2.2.2⟩, h2.2.1⟩
        · have g := hh _ rfl
          exact ⟨g.1, fun z => gl_i (g.2 z)⟩
    | succ d ih =>
      intro k hk
      have ih := ih (k + 1) (by omega)
      have hkn : k < n := by omega
      have hi : vp_in (nI k) 20 := ix_in (by omega)
      have ec : (nI k).toNatClampNeg = k := ix_cl (by omega)
      have H69 : ∀ z0 z1 : Int32, z1 ||| z0 = se_S (fun q => (q < k + 1 ∧ S q f) ∨ ∃ r, r < k + 1 ∧ T r q ∧ M r f) → wX_holdersOf_69 post (wX_holdersOf_7 post (nI f) (nI n) rc o a b wt rd cm nx bh sd kp mk tg fa nt (d + 1)) (nI f) (se_S (fun r => r < k ∧ K r f)) (nI k) z0 z1 (nI n) rc o a b wt rd cm nx bh sd kp mk tg fa nt := by
        intro z0 z1 hz
        unfold wX_holdersOf_69
        rw [ec]
        refine nm_r hz ⟨hi, fx_has hf (hK k hkn) (fun hc => br_f (by decide) (nm_r ?_ (gl_i ih))) (fun hc => br_t rfl (nm_r ?_ (gl_i ih)))⟩
        · rw [se_shl (by omega), se_or]
          refine se_ext (fun i _ => ⟨fun z => z.elim (fun w => ⟨by omega, w.2⟩) (fun w => ⟨by omega, by rw [w]; exact hc⟩), fun z => ?_⟩)
          by_cases e : i = k
          · exact Or.inr e
          · exact Or.inl ⟨by omega, z.2⟩
        · rw [se_or0]
          refine se_ext (fun i _ => ⟨fun w => ⟨by omega, w.2⟩, fun z => ?_⟩)
          by_cases e : i = k
          · subst e; exact absurd z.2 hc
          · exact ⟨by omega, z.2⟩
      have H40 : ∀ z0 z1 : Int32, z1 ||| z0 = se_S (fun q => (q < k + 1 ∧ S q f) ∨ ∃ r, r < k ∧ T r q ∧ M r f) → wX_holdersOf_40 post (wX_holdersOf_7 post (nI f) (nI n) rc o a b wt rd cm nx bh sd kp mk tg fa nt (d + 1)) (nI f) (se_S (fun r => r < k ∧ K r f)) (nI k) z0 z1 (nI n) rc o a b wt rd cm nx bh sd kp mk tg fa nt := by
        intro z0 z1 hz
        unfold wX_holdersOf_40
        rw [ec]
        refine nm_r hz ⟨hi, fx_has hf (hM k hkn) (fun hc => br_f (by decide) ⟨hi, H69 _ _ ?_⟩) (fun hc => br_t rfl (H69 _ _ ?_))⟩
        · rw [hT k hkn, se_or]
          refine se_ext (fun i _ => ⟨?_, ?_⟩)
          · rintro ((z | ⟨r, h1, h2⟩) | z)
            · exact Or.inl z
            · exact Or.inr ⟨r, by omega, h2⟩
            · exact Or.inr ⟨k, by omega, z, hc⟩
          · rintro (z | ⟨r, h1, h2⟩)
            · exact Or.inl (Or.inl z)
            · by_cases e : r = k
              · subst e; exact Or.inr h2.1
              · exact Or.inl (Or.inr ⟨r, by omega, h2⟩)
        · rw [se_or0]
          refine se_ext (fun i _ => or_congr Iff.rfl ⟨fun ⟨r, h1, h2⟩ => ⟨r, by omega, h2⟩, fun ⟨r, h1, h2⟩ => ?_⟩)
          by_cases e : r = k
          · subst e; exact absurd h2.2 hc
          · exact ⟨r, by omega, h2⟩
      refine br_f (nI_ge hkn (by omega)) ⟨hi, ?_⟩
      rw [ec]
      refine fx_has hf (hS k hkn) (fun hc => br_f (by decide) (H40 _ _ ?_)) (fun hc => br_t rfl (H40 _ _ ?_))
      · rw [se_shl (by omega), se_or]
        refine se_ext (fun i _ => ⟨?_, ?_⟩)
        · rintro ((z | z) | z)
          · exact Or.inl ⟨by omega, z.2⟩
          · exact Or.inr z
          · subst z; exact Or.inl ⟨by omega, hc⟩
        · rintro (z | z)
          · by_cases e : i = k
            · exact Or.inr e
            · exact Or.inl (Or.inl ⟨by omega, z.2⟩)
          · exact Or.inl (Or.inr z)
      · rw [se_or0]
        refine se_ext (fun i _ => or_congr ⟨fun z => ⟨by omega, z.2⟩, fun z => ?_⟩ Iff.rfl)
        by_cases e : i = k
        · subst e; exact absurd z.2 hc
        · exact ⟨by omega, z.2⟩
  unfold wpX_holdersOf
  dsimp only
  have k0 := key n 0 (by omega)
  have e1 : se_S (fun q => (q < 0 ∧ S q f) ∨ ∃ r, r < 0 ∧ T r q ∧ M r f) = 0 := se_z.mpr (fun i _ z => z.elim (fun w => by omega) (fun ⟨r, h1, _⟩ => by omega))
  have e2 : se_S (fun r => r < 0 ∧ K r f) = 0 := se_z.mpr (fun i _ z => by omega)
  rw [e1, e2] at k0
  exact ⟨_, k0⟩
theorem fx_spread {post : SX → Prop} (H : en_H n sd kp mk tg S K M T) (h0 : ∀ p, p < n → fa p = se_S (S p)) (h : ∀ fa', (∀ p, p < n → fa' p = se_S (fun f => en_L n S K M T f p)) → post ((nI n), rc, o, a, b, wt, rd, cm, nx, bh, sd, kp, mk, tg, fa', nt)) : wpX_spreadEachFact post ((nI n), rc, o, a, b, wt, rd, cm, nx, bh, sd, kp, mk, tg, fa, nt) := by
  have hn := H.1
  have key : ∀ d k fa, k + d = 20 → (∀ p, p < n → fa p = se_S (fun f => (f < k ∧ en_L n S K M T f p) ∨ S p f)) → wX_spreadEachFact_2 post (nI n) rc (d + 1) (nI k) o a b wt rd cm nx bh sd kp mk tg fa nt := by
    intro d
    induction d with
    | zero =>
      intro k fa hk hfa
      have e : k = 20 := by omega
      subst e
      refine br_t (nI_le (a := 20) (b := 20) (by omega) (by omega)) (h fa (fun p hp => ?_))
      rw [hfa p hp]
      exact se_ext (fun f hf => ⟨fun z => z.elim (fun w => w.2) (fun w => lf_i (Or.inl ⟨hp, w⟩)), fun z => Or.inl ⟨en_b H hf z, z⟩⟩)
    | succ d ih =>
      intro k fa hk hfa
      refine br_f (nI_ge (b := 20) (by omega) (by omega)) (fx_holdersOf H (by omega) ?_)
      have inner : ∀ dd j fa', j + dd = n → (∀ p, p < n → fa' p = se_S (fun f => ((f < k ∨ (f = k ∧ p < j)) ∧ en_L n S K M T f p) ∨ S p f)) → wX_spreadEachFact_16 post (wX_spreadEachFact_2 post (nI n) rc (d + 1)) (nI k) (se_S (fun q => en_L n S K M T k q)) (nI n) rc (dd + 1) (nI j) o a b wt rd cm nx bh sd kp mk tg fa' nt := by
        intro dd
        induction dd with
        | zero =>
          intro j fa' hj hfa'
          have e : j = n := by omega
          subst e
          refine br_t (nI_le (Nat.le_refl _) (by omega)) (gl_i (ih (k + 1) fa' (by omega) (fun p hp => ?_)))
          rw [hfa' p hp]
          refine se_ext (fun f _ => or_congr (and_congr ⟨fun z => ?_, fun z => ?_⟩ Iff.rfl) Iff.rfl)
          · omega
          · omega
        | succ dd ih2 =>
          intro j fa' hj hfa'
          have hjn : j < n := by omega
          have hi : vp_in (nI j) 20 := ix_in (by omega)
          have other : ∀ (x : Int32) p, p < n → p ≠ j → upd fa' j x p = se_S (fun f => ((f < k ∨ (f = k ∧ p < j + 1)) ∧ en_L n S K M T f p) ∨ S p f) := by
            intro x p hp e
            rw [pk_un e, hfa' p hp]
            refine se_ext (fun f _ => or_congr (and_congr ⟨fun z => ?_, fun z => ?_⟩ Iff.rfl) Iff.rfl)
            · omega
            · omega
          refine br_f (nI_ge hjn (by omega)) ⟨hi, fx_has (by omega) rfl (fun hc => br_f (by decide) ⟨hi, ?_⟩) (fun hc => br_t rfl ⟨hi, ?_⟩)⟩
          · rw [ix_cl (by omega : j < 20)]
            refine nm_e (gl_i (ih2 (j + 1) _ (by omega) (fun p hp => ?_)))
            by_cases e : p = j
            · subst e
              rw [pk_us, hfa' p hp, se_shl (by omega), se_or]
              refine se_ext (fun f _ => ⟨?_, ?_⟩)
              · rintro ((z | z) | z)
                · exact Or.inl ⟨by omega, z.2⟩
                · exact Or.inr z
                · subst z; exact Or.inl ⟨Or.inr ⟨rfl, by omega⟩, hc⟩
              · rintro (z | z)
                · by_cases e2 : f = k
                  · exact Or.inr e2
                  · exact Or.inl (Or.inl ⟨by omega, z.2⟩)
                · exact Or.inl (Or.inr z)
            · exact other _ p hp e
          · rw [ix_cl (by omega : j < 20)]
            refine nm_e (gl_i (ih2 (j + 1) _ (by omega) (fun p hp => ?_)))
            by_cases e : p = j
            · subst e
              rw [pk_us, hfa' p hp, se_or0]
              refine se_ext (fun f _ => or_congr ⟨fun z => ⟨by omega, z.2⟩, fun z => ?_⟩ Iff.rfl)
              by_cases e2 : f = k
              · subst e2; exact absurd z.2 hc
              · exact ⟨by omega, z.2⟩
            · exact other _ p hp e
      exact ⟨_, inner n 0 fa (by omega) (fun p hp => by
        rw [hfa p hp]
        refine se_ext (fun f _ => or_congr (and_congr ⟨Or.inl, fun z => ?_⟩ Iff.rfl) Iff.rfl)
        omega)⟩
  exact ⟨_, key 20 0 fa (by omega) (fun p hp => by
    rw [h0 p hp]
    exact se_ext (fun f _ => ⟨Or.inr, fun z => z.elim (fun w => by omega) id⟩))⟩
end
