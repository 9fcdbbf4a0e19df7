/-! loops, without any printed predicate -/
/-- one adds F k at each k below n -/
theorem gl_col (W : Nat → Int32 → Int32 → Prop) (n : Nat) (F : Nat → Nat → Prop) (post : Int32 → Prop) (P0 : Nat → Prop)
    (hx : ∀ f x, post x → W (f + 1) x (nI n))
    (hs : ∀ f k x, k < n → (∀ y, y = x ||| se_S (F k) → W f y (nI (k + 1))) → W (f + 1) x (nI k))
    (hp : post (se_S (fun i => P0 i ∨ ∃ p, p < n ∧ F p i))) : ∃ f, W f (se_S P0) 0 := by
  have key : ∀ d k P, k + d = n → post (se_S (fun i => P i ∨ ∃ p, k ≤ p ∧ p < n ∧ F p i)) → W (d + 1) (se_S P) (nI k) := by
    intro d
    induction d with
    | zero =>
      intro k P hk h
      have e : k = n := by omega
      subst e
      refine hx _ _ ?_
      have e2 : se_S P = se_S (fun i => P i ∨ ∃ p, k ≤ p ∧ p < k ∧ F p i) := se_ext (fun i _ => ⟨fun z => Or.inl z, fun z => z.elim id (fun ⟨p, h1, h2, _⟩ => by omega)⟩)
      rw [e2]; exact h
    | succ d ih =>
      intro k P hk h
      refine hs _ k _ (by omega) (fun y ey => ?_)
      rw [ey, se_or]
      refine ih (k + 1) _ (by omega) ?_
      have e2 : se_S (fun i => (P i ∨ F k i) ∨ ∃ p, k + 1 ≤ p ∧ p < n ∧ F p i) = se_S (fun i => P i ∨ ∃ p, k ≤ p ∧ p < n ∧ F p i) := by
        refine se_ext (fun i _ => ⟨?_, ?_⟩)
        · rintro ((z | z) | ⟨p, h1, h2, z⟩)
          · exact Or.inl z
          · exact Or.inr ⟨k, Nat.le_refl _, by omega, z⟩
          · exact Or.inr ⟨p, by omega, h2, z⟩
        · rintro (z | ⟨p, h1, h2, z⟩)
          · exact Or.inl (Or.inl z)
          · by_cases e : p = k
            · subst e; exact Or.inl (Or.inr z)
            · exact Or.inr ⟨p, by omega, h2, z⟩
      rw [e2]; exact h
  refine ⟨n + 1, key n 0 P0 (by omega) ?_⟩
  have e2 : se_S (fun i => P0 i ∨ ∃ p, 0 ≤ p ∧ p < n ∧ F p i) = se_S (fun i => P0 i ∨ ∃ p, p < n ∧ F p i) :=
    se_ext (fun i _ => ⟨fun z => z.imp id (fun ⟨p, _, h⟩ => ⟨p, h⟩), fun z => z.imp id (fun ⟨p, h⟩ => ⟨p, Nat.zero_le _, h⟩)⟩)
  rw [e2]; exact hp
theorem gl_col0 (W : Nat → Int32 → Int32 → Prop) (n : Nat) (F : Nat → Nat → Prop) (post : Int32 → Prop)
    (hx : ∀ f x, post x → W (f + 1) x (nI n))
    (hs : ∀ f k x, k < n → (∀ y, y = x ||| se_S (F k) → W f y (nI (k + 1))) → W (f + 1) x (nI k))
    (hp : post (se_S (fun i => ∃ p, p < n ∧ F p i))) : ∃ f, W f 0 0 := by
  have h := gl_col W n F post (fun _ => False) hx hs (by
    have e2 : se_S (fun i => False ∨ ∃ p, p < n ∧ F p i) = se_S (fun i => ∃ p, p < n ∧ F p i) := se_ext (fun i _ => ⟨fun z => z.elim False.elim id, Or.inr⟩)
    rw [e2]; exact hp)
  rw [← se_0] at h
  exact h
/-- rounds that widen a set until one finds nothing new, at most 21 -/
theorem gl_clo (W : Nat → Int32 → Int32 → Prop) (E : Nat → Nat → Prop) (A : Nat → Prop) (post : Int32 → Prop) (P0 : Nat → Prop)
    (hb : ∀ i, lf_L E A i → i < 21)
    (h0 : ∀ i, P0 i → lf_L E A i)
    (hx : ∀ f x, post x → W (f + 1) x (nI 21))
    (hs : ∀ f k P, k < 21 → (∀ i, P i → lf_L E A i) → (∀ i, P0 i → P i) → (∀ y, y = se_S (fun i => P i ∨ A i ∨ ∃ p, P p ∧ E p i) → (y = se_S P → post (se_S P)) ∧ (¬ y = se_S P → W f y (nI (k + 1)))) → W (f + 1) (se_S P) (nI k))
    (hp : post (se_S (lf_L E A))) : ∃ f, W f (se_S P0) 0 := by
  have key : ∀ d k P, k + d = 21 → (∀ i, P i → lf_L E A i) → (∀ i, P0 i → P i) → k ≤ se_N P 21 → W (d + 1) (se_S P) (nI k) := by
    intro d
    induction d with
    | zero =>
      intro k P hk hP h0P hc
      have e : k = 21 := by omega
      subst e
      refine hx _ _ ?_
      have e2 : se_S P = se_S (lf_L E A) := se_ext (fun i _ => ⟨hP i, fun z => se_Nfull hc i (hb i z)⟩)
      rw [e2]; exact hp
    | succ d ih =>
      intro k P hk hP h0P hc
      refine hs _ k P (by omega) hP h0P (fun y ey => ⟨fun e => ?_, fun e => ?_⟩)
      · rw [ey] at e
        have e2 : se_S P = se_S (lf_L E A) := by
          refine se_ext (fun i _ => ⟨hP i, fun z => z P (fun a ha => ?_) (fun x y hx hxy => ?_)⟩)
          · have := hb a (lf_i ha)
            exact (se_inj e (i := a) (by omega)).mp (Or.inr (Or.inl ha))
          · have := hb y (lf_s (hP x hx) hxy)
            exact (se_inj e (i := y) (by omega)).mp (Or.inr (Or.inr ⟨x, hx, hxy⟩))
        rw [e2]; exact hp
      · rw [ey] at e
        rw [ey]
        have hQ : ∀ i, (P i ∨ A i ∨ ∃ p, P p ∧ E p i) → lf_L E A i := by
          rintro i (z | z | ⟨p, z, e⟩)
          · exact hP i z
          · exact lf_i z
          · exact lf_s (hP p z) e
        refine ih (k + 1) _ (by omega) hQ (fun i z => Or.inl (h0P i z)) ?_
        have hn : ∃ i, i < 21 ∧ (P i ∨ A i ∨ ∃ p, P p ∧ E p i) ∧ ¬ P i := by
          refine Classical.byContradiction fun z => e (se_ext fun i _ => ⟨fun w => ?_, fun w => Or.inl w⟩)
          exact Classical.byContradiction fun w2 => z ⟨i, hb i (hQ i w), w, w2⟩
        have := se_Nlt (P := P) (Q := fun i => P i ∨ A i ∨ ∃ p, P p ∧ E p i) 21 (fun i _ z => Or.inl z) hn
        omega
  exact ⟨22, key 21 0 P0 (by omega) h0 (fun _ z => z) (Nat.zero_le _)⟩
/-- passes, R of them, over at most N sources -/
theorem gl_sat (W : Nat → (Nat → Prop) → Nat → Prop) (E : Nat → Nat → Prop) (A : Nat → Prop) (N R c : Nat) (hR : N < R + c)
    (hE : ∀ x y, E x y → x < N) (post : (Nat → Prop) → Prop)
    (hx : ∀ f P, post P → W (f + 1) P R)
    (hs : ∀ f r P, r < R → (∀ i, P i → lf_L E A i) → (∀ P', (∀ i, P i → P' i) → (∀ i, A i → P' i) → (∀ i, P' i → lf_L E A i) → (∀ x y, P x → E x y → P' y) → W f P' (r + 1)) → (∀ i, A i → P i) ∨ c = 0 → W (f + 1) P r)
    (hp : ∀ P, (∀ i, P i ↔ lf_L E A i) → post P)
    (P0 : Nat → Prop) (h0 : ∀ i, P0 i → lf_L E A i) (hA : (∀ i, A i → P0 i) ∨ c = 0) (hc : (∀ i, lf_L E A i → P0 i) ∨ c ≤ se_N P0 N) : ∃ f, W f P0 0 := by
  have key : ∀ d r P, r + d = R → (∀ i, P i → lf_L E A i) → ((∀ i, A i → P i) ∨ c = 0) → ((∀ i, lf_L E A i → P i) ∨ r + c ≤ se_N P N) → W (d + 1) P r := by
    intro d
    induction d with
    | zero =>
      intro r P hr hP hA hc
      have e : r = R := by omega
      subst e
      refine hx _ _ (hp P fun i => ⟨hP i, ?_⟩)
      rcases hc with hc | hc
      · exact hc i
      · have := se_Nle P N
        omega
    | succ d ih =>
      intro r P hr hP hA hc
      refine hs _ r P (by omega) hP (fun P' h1 h2 h3 h4 => ih (r + 1) P' (by omega) h3 (Or.inl h2) ?_) hA
      rcases hc with hc | hc
      · exact Or.inl (fun i z => h1 i (hc i z))
      · by_cases hn : ∃ x, x < N ∧ P' x ∧ ¬ P x
        · right
          have := se_Nlt (P := P) (Q := P') N (fun i _ z => h1 i z) hn
          omega
        · left
          intro i z
          refine z P' h2 (fun x y hx hxy => ?_)
          have hxN := hE x y hxy
          refine h4 x y ?_ hxy
          exact Classical.byContradiction fun w => hn ⟨x, hxN, hx, w⟩
  exact ⟨R + 1, key R 0 P0 (by omega) h0 hA (hc.imp id (fun z => by omega))⟩
/-- one pass: at each k below n what k owes is added, and nothing outside L -/
theorem gl_pass (W : Nat → (Nat → Prop) → Nat → Prop) (L : Nat → Prop) (C : Nat → Nat → Prop) (n : Nat) (P : Nat → Prop) (hP : ∀ i, P i → L i) (done : (Nat → Prop) → Prop)
    (hx : ∀ f Q, done Q → W (f + 1) Q n)
    (hs : ∀ f k Q, k < n → (∀ i, P i → Q i) → (∀ i, Q i → L i) → (∀ Q', (∀ i, Q i → Q' i) → (∀ i, Q' i → L i) → (∀ y, C k y → Q' y) → W f Q' (k + 1)) → W (f + 1) Q k)
    (hp : ∀ P', (∀ i, P i → P' i) → (∀ i, P' i → L i) → (∀ k y, k < n → C k y → P' y) → done P') : ∃ f, W f P 0 := by
  have key : ∀ d k Q, k + d = n → (∀ i, P i → Q i) → (∀ i, Q i → L i) → (∀ j y, j < k → C j y → Q y) → W (d + 1) Q k := by
    intro d
    induction d with
    | zero =>
      intro k Q hk h1 h2 h3
      have e : k = n := by omega
      subst e
      exact hx _ _ (hp Q h1 h2 h3)
    | succ d ih =>
      intro k Q hk h1 h2 h3
      refine hs _ k Q (by omega) h1 h2 (fun Q' g1 g2 g3 => ih (k + 1) Q' (by omega) (fun i z => g1 i (h1 i z)) g2 ?_)
      intro j y hj hc
      by_cases e : j = k
      · subst e; exact g3 y hc
      · exact g1 y (h3 j y (by omega) hc)
  exact ⟨n + 1, key n 0 P (by omega) (fun _ z => z) hP (fun j y hj _ => by omega)⟩
