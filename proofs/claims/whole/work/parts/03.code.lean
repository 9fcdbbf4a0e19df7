/-! the code, as both keep it: n, o (operation), v, a, b; ways; the reference's small methods -/
def cd_sp (n t : Nat) : Nat := if t < n then t else 20
def cd_Wr (o : Nat → Int32) (p : Nat) : Prop := ¬ (3 : Int32) < o p
def cd_Cp (o : Nat → Int32) (p : Nat) : Prop := o p = 2 ∨ o p = 3
def cd_Rf (o : Nat → Int32) (p : Nat) : Prop := ¬ o p = 0 ∧ ¬ o p = 5
def cd_G (n : Nat) (o b : Nat → Int32) (p q : Nat) : Prop := p < n ∧ ((¬ o p = 5 ∧ q = cd_sp n (p + 1)) ∨ ((o p = 5 ∨ o p = 6) ∧ q = cd_sp n (b p).toNatClampNeg))
def cd_Op (o v a b : Nat → Int32) (p : Nat) : Prop := (¬ o p < 0 ∧ o p ≤ 6) ∧ (cd_Wr o p → ∃ i, i < 6 ∧ v p = nI i) ∧ (cd_Rf o p → ∃ i, i < 6 ∧ a p = nI i) ∧ (cd_Cp o p → ∃ i, i < 6 ∧ b p = nI i) ∧ (o p = 5 ∨ o p = 6 → ∃ i, i ≤ 20 ∧ b p = nI i)
def cd_Ok (n : Nat) (o v a b : Nat → Int32) : Prop := n ≤ 20 ∧ ∀ p, p < n → cd_Op o v a b p
def cd_Wt (o v : Nat → Int32) (p i : Nat) : Prop := cd_Wr o p ∧ v p = nI i
def cd_Rd (o a b : Nat → Int32) (p i : Nat) : Prop := (cd_Rf o p ∧ a p = nI i) ∨ (cd_Cp o p ∧ b p = nI i)
def cd_Sm (o a b : Nat → Int32) (q p : Nat) : Prop := cd_Cp o q ∧ o q = o p ∧ a q = a p ∧ b q = b p
def cd_Nm (o a b : Nat → Int32) (e : Nat) : Prop := cd_Cp o e ∧ ∀ p, p < e → ¬ cd_Sm o a b p e
def cd_Sl (o v a b : Nat → Int32) (p e : Nat) : Prop := cd_Wr o p ∧ (v p = a e ∨ v p = b e)
def fl_E (n : Nat) (o b : Nat → Int32) (B C : Nat → Prop) (x y : Nat) : Prop := cd_G n o b x y ∧ ¬ B x ∧ ¬ C y
def fl_F (n : Nat) (o b : Nat → Int32) (A B C : Nat → Prop) (q : Nat) : Prop := lf_L (fl_E n o b B C) (fun i => A i ∧ ¬ C i) q
def fl_R (n : Nat) (o b : Nat → Int32) (q : Nat) : Prop := fl_F n o b (fun i => 0 < n ∧ i = 0) (fun _ => False) (fun _ => False) q ∧ q < n
def cd_Eg (x : Int32) : Prop := ¬ x < 0 ∧ ¬ 2 < x
theorem cd_spl {n t : Nat} (hn : n ≤ 20) : cd_sp n t ≤ 20 := by
  unfold cd_sp; split <;> omega
theorem cd_spi {n t : Nat} (h : t < n) : cd_sp n t = t := if_pos h
theorem cd_Gl {n : Nat} {o b : Nat → Int32} {p q : Nat} (hn : n ≤ 20) (h : cd_G n o b p q) : q ≤ 20 := by
  rcases h.2 with ⟨_, e⟩ | ⟨_, e⟩ <;> (rw [e]; exact cd_spl hn)
theorem fl_Fl {n : Nat} {o b : Nat → Int32} {A B C : Nat → Prop} {q : Nat} (hn : n ≤ 20) (hA : ∀ i, A i → i ≤ 20) (h : fl_F n o b A B C q) : q ≤ 20 :=
  h (fun q => q ≤ 20) (fun i z => hA i z.1) (fun _ _ _ e => cd_Gl hn e.1)
theorem ix_le {n k : Nat} (h : n ≤ k) (hk : k < 2 ^ 31) : nI n ≤ nI k := nI_le h hk
theorem ix_in {p : Nat} (h : p < 20) : vp_in (nI p) 20 := vp_in_nI h (by omega)
theorem ix_cl {p : Nat} (h : p < 20) : (nI p).toNatClampNeg = p := nI_clamp (by omega)
/-- a given position: within the code or not -/
theorem ix_c (x : Int32) {n : Nat} (hn : n ≤ 20) : (∃ p, p < n ∧ x = nI p) ∨ (x < 0 ∨ (¬ x < 0 ∧ nI n ≤ x)) ∧ ∀ p, p < n → x ≠ nI p := by
  by_cases h0 : x < 0
  · right
    refine ⟨Or.inl h0, fun p hp e => ?_⟩
    rw [e] at h0
    exact nI_pos (n := p) (by omega) h0
  · obtain ⟨j, hj, e⟩ := nI_of h0
    by_cases h : j < n
    · exact Or.inl ⟨j, h, e⟩
    · right
      refine ⟨Or.inr ⟨h0, by rw [e]; exact nI_le (by omega) hj⟩, fun p hp e2 => ?_⟩
      rw [e] at e2
      have := (nI_eq hj (by omega)).mp e2
      omega
theorem ix_20 : (1048576 : Int32) = se_S (fun i => i = 20) := by
  rw [← se_shl (p := 20) (by omega)]; decide +kernel
section
variable {n : Nat} {o v a b : Nat → Int32} {post : Int32 → Prop}
theorem fy_variable {u : SY} {x : Int32} (h1 : ¬ x < 0 → ¬ 5 < x → post 1) (h0 : ¬ (¬ x < 0 ∧ ¬ 5 < x) → post 0) : wpY_variable post u x := by
  obtain ⟨_, _, _, _, _⟩ := u
  exact br_c (fun h => h0 (fun z => z.1 h)) (fun h => br_c (fun g => h0 (fun z => z.2 g)) (fun g => h1 h g))
theorem fy_writes {u : SY} {x : Int32} (h1 : ¬ 3 < x → post 1) (h0 : 3 < x → post 0) : wpY_writes post u x := by
  obtain ⟨_, _, _, _, _⟩ := u
  exact br_c h0 h1
theorem fy_computes {u : SY} {x : Int32} (h1 : x = 2 ∨ x = 3 → post 1) (h0 : ¬ (x = 2 ∨ x = 3) → post 0) : wpY_computes post u x := by
  obtain ⟨_, _, _, _, _⟩ := u
  exact br_c (fun h => h1 (Or.inl h)) (fun h => br_c (fun g => h1 (Or.inr g)) (fun g => h0 (fun z => z.elim h g)))
theorem ix_07 {x : Int32} (h0 : ¬ x < 0) (h6 : x ≤ 6) : ∃ j : Nat, j ≤ 6 ∧ x = nI j := nI_of2 (by decide) h0 h6
theorem ix_rf : ∀ j, j < 7 → ((nI j < 1 → (nI j = 6 ↔ (¬ nI j = 0 ∧ ¬ nI j = 5))) ∧ (¬ nI j < 1 → nI j ≤ 4 → (¬ nI j = 0 ∧ ¬ nI j = 5)) ∧ (¬ nI j < 1 → ¬ nI j ≤ 4 → (nI j = 6 ↔ (¬ nI j = 0 ∧ ¬ nI j = 5)))) := by decide +kernel
theorem fy_readsFirst {u : SY} {x : Int32} (hx0 : ¬ x < 0) (hx6 : x ≤ 6) (h1 : (¬ x = 0 ∧ ¬ x = 5) → post 1) (h0 : ¬ (¬ x = 0 ∧ ¬ x = 5) → post 0) : wpY_readsFirst post u x := by
  obtain ⟨_, _, _, _, _⟩ := u
  obtain ⟨j, hj, rfl⟩ := ix_07 hx0 hx6
  obtain ⟨a1, a2, a3⟩ := ix_rf j (by omega)
  refine br_c (fun h => br_c (fun g => h1 ((a1 h).mp g)) (fun g => h0 (fun z => g ((a1 h).mpr z)))) (fun h => br_c (fun g => h1 (a2 h g)) (fun g => br_c (fun k => h1 ((a3 h g).mp k)) (fun k => h0 (fun z => k ((a3 h g).mpr z)))))
theorem fy_place {x : Int32} {t : Nat} (hn : n ≤ 20) (ht : t ≤ 20) (hx : x = nI t) (h : post (se_S (fun i => i = cd_sp n t))) : wpY_place post ((nI n), o, v, a, b) x := by
  subst hx
  by_cases g : t < n
  · refine br_f (nI_ge g (by omega)) ?_
    rw [se_shl (by omega)]
    rw [cd_spi g] at h
    exact h
  · refine br_t (nI_le (by omega) (by omega)) ?_
    rw [ix_20]
    unfold cd_sp at h
    rw [if_neg g] at h
    exact h
theorem fy_goingOn (ok : cd_Ok n o v a b) {p : Nat} (hp : p < n) (h : post (se_S (cd_G n o b p))) : wpY_goingOn post ((nI n), o, v, a, b) (nI p) := by
  have hn := ok.1
  have hi : vp_in (nI p) 20 := ix_in (by omega)
  have ec : (nI p).toNatClampNeg = p := ix_cl (by omega)
  obtain ⟨_, _, _, _, hj⟩ := ok.2 p hp
  unfold wpY_goingOn
  dsimp only
  rw [ec]
  refine ⟨hi, br_c (fun h5 => ⟨hi, ?_⟩) (fun h5 => ⟨hi, br_c (fun h6 => ⟨hi, ?_⟩) (fun h6 => ?_)⟩)⟩
  · obtain ⟨t, ht, et⟩ := hj (Or.inl h5)
    refine fy_place hn ht et ?_
    have e : se_S (cd_G n o b p) = se_S (fun i => i = cd_sp n t) := se_ext (fun i _ => by
      unfold cd_G
      rw [et, nI_clamp (by omega)]
      exact ⟨fun z => z.2.elim (fun w => absurd h5 w.1) (fun w => w.2), fun z => ⟨hp, Or.inr ⟨Or.inl h5, z⟩⟩⟩)
    rw [← e]; exact h
  · obtain ⟨t, ht, et⟩ := hj (Or.inr h6)
    refine fy_place hn ht et (fy_place hn (t := p + 1) (by omega) (nI_1 p) ?_)
    have e : se_S (cd_G n o b p) = se_S (fun i => i = cd_sp n t) ||| se_S (fun i => i = cd_sp n (p + 1)) := by
      rw [se_or]
      refine se_ext (fun i _ => ?_)
      unfold cd_G
      rw [et, nI_clamp (by omega)]
      exact ⟨fun z => z.2.elim (fun w => Or.inr w.2) (fun w => Or.inl w.2), fun z => ⟨hp, z.elim (fun w => Or.inr ⟨Or.inr h6, w⟩) (fun w => Or.inl ⟨h5, w⟩)⟩⟩
    rw [← e]; exact h
  · refine fy_place hn (t := p + 1) (by omega) (nI_1 p) ?_
    have e : se_S (cd_G n o b p) = se_S (fun i => i = cd_sp n (p + 1)) := se_ext (fun i _ => by
      unfold cd_G
      exact ⟨fun z => z.2.elim (fun w => w.2) (fun w => absurd w.1 (fun q => q.elim h5 h6)), fun z => ⟨hp, Or.inl ⟨h5, z⟩⟩⟩)
    rw [← e]; exact h
theorem fy_flow (ok : cd_Ok n o v a b) {A B C : Nat → Prop} (h : post (se_S (fl_F n o b A B C))) : wpY_flow post ((nI n), o, v, a, b) (se_S A) (se_S B) (se_S C) := by
  have hn := ok.1
  unfold wpY_flow
  dsimp only
  have e0 : se_S A &&& (se_S C ^^^ (-1)) = se_S (fun i => A i ∧ ¬ C i) := by rw [se_not, se_and]
  refine nm_r e0 ?_
  refine gl_sat (fun f P r => wY_flow_10 post (se_S B) (se_S C) (nI n) o v a b f (se_S P) (nI r)) (fl_E n o b B C) (fun i => A i ∧ ¬ C i) n 20 1 (by omega) (fun x y e => e.1.1) (fun P => post (se_S P)) ?_ ?_ ?_ _ (fun i z => lf_i z) (Or.inl fun _ z => z) ?_
  · intro f P h
    exact br_t (nI_le (a := 20) (b := 20) (by omega) (by omega)) h
  · intro f r P hr hP hk hA
    refine br_f (nI_ge (b := 20) hr (by omega)) ?_
    refine gl_pass (fun g Q k => wY_flow_20 post (wY_flow_10 post (se_S B) (se_S C) (nI n) o v a b f) (se_S B) (se_S C) (nI r) (nI n) o v a b g (se_S Q) (nI k)) (lf_L (fl_E n o b B C) (fun i => A i ∧ ¬ C i)) (fun k y => P k ∧ fl_E n o b B C k y) n P hP (fun Q => wY_flow_10 post (se_S B) (se_S C) (nI n) o v a b f (se_S Q) (nI (r + 1))) ?_ ?_ ?_
    · intro g Q hd
      exact br_t (nI_le (Nat.le_refl _) (by omega)) (gl_i hd)
    · intro g k Q hk1 h1 h2 hk2
      refine br_f (nI_ge hk1 (by omega)) ?_
      by_cases hQ : Q k
      · refine br_t ((se_h1 (by omega)).mpr hQ) ?_
        by_cases hB : B k
        · refine br_f (fun z => (se_h0 (by omega)).mp z hB) ?_
          exact br_t rfl (gl_i (hk2 Q (fun _ z => z) h2 (fun y hc => absurd hB hc.2.2.1)))
        · refine br_t ((se_h0 (by omega)).mpr hB) ?_
          refine br_f (by decide) (fy_goingOn ok hk1 ?_)
          have e : se_S Q ||| (se_S (cd_G n o b k) &&& (se_S C ^^^ (-1))) = se_S (fun i => Q i ∨ fl_E n o b B C k i) := by
            rw [se_not, se_and, se_or]
            exact se_ext (fun i _ => ⟨fun z => z.imp id (fun w => ⟨w.1, hB, w.2⟩), fun z => z.imp id (fun w => ⟨w.1, w.2.2⟩)⟩)
          refine nm_r e (gl_i (hk2 _ (fun _ z => Or.inl z) (fun i z => z.elim (h2 i) (fun w => lf_s (h2 k hQ) w)) (fun y hc => Or.inr hc.2)))
      · refine br_f (fun z => hQ ((se_h1 (by omega)).mp z)) ?_
        exact br_t rfl (gl_i (hk2 Q (fun _ z => z) h2 (fun y hc => absurd (h1 k hc.1) hQ)))
    · intro P' g1 g2 g3
      exact hk P' g1 (fun i z => g1 i (hA.elim (fun w => w i z) (fun w => absurd w (by decide)))) g2 (fun x y hx e => g3 x y e.1.1 ⟨hx, e⟩)
  · intro P hP
    have e : se_S P = se_S (fl_F n o b A B C) := se_ext (fun i _ => hP i)
    show post (se_S P)
    rw [e]; exact h
  · by_cases hz : ∃ i, i < n ∧ A i ∧ ¬ C i
    · right
      obtain ⟨i, hi, z⟩ := hz
      exact se_Npos (P := fun i => A i ∧ ¬ C i) hi z
    · left
      intro i z
      exact z (fun i => A i ∧ ¬ C i) (fun _ w => w) (fun x y hx e => absurd ⟨x, e.1.1, hx⟩ hz)
end
