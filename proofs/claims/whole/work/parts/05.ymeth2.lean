/-! the reference's methods, continued -/
theorem nb_0 : narrow .boolean (.int 0) = .int (0 : Int32) := lw_bz_n 0
theorem nb_1 : narrow .boolean (.int 1) = .int (1 : Int32) := lw_bz_n 1
/-- the two sets of 'without' as one: 2 * p for 'none', 2 * p + 1 for 'had' -/
def wo_E (n : Nat) (o v a b : Nat → Int32) (e x y : Nat) : Prop := cd_G n o b (x / 2) (y / 2) ∧ (y % 2 = 0 → (x % 2 = 0 ∧ ¬ (cd_Sm o a b (x / 2) e ∧ ¬ cd_Sl o v a b (x / 2) e)) ∨ (x % 2 = 1 ∧ cd_Sl o v a b (x / 2) e)) ∧ (y % 2 = 1 → (x % 2 = 0 ∧ (cd_Sm o a b (x / 2) e ∧ ¬ cd_Sl o v a b (x / 2) e)) ∨ (x % 2 = 1 ∧ ¬ cd_Sl o v a b (x / 2) e))
def wo_L (n : Nat) (o v a b : Nat → Int32) (e x : Nat) : Prop := lf_L (wo_E n o v a b e) (fl_st n) x
section
variable {n : Nat} {o v a b : Nat → Int32} {post : Int32 → Prop}
theorem fy_same {p q : Nat} (hp : p < 20) (hq : q < 20) (h1 : cd_Sm o a b p q → post 1) (h0 : ¬ cd_Sm o a b p q → post 0) : wpY_same post ((nI n), o, v, a, b) (nI p) (nI q) := by
  unfold wpY_same
  dsimp only
  rw [ix_cl hp, ix_cl hq]
  have ip := ix_in hp
  have iq := ix_in hq
  refine ⟨ip, fy_computes (fun hc => br_f (by decide) ⟨ip, iq, br_c (fun e1 => ⟨ip, iq, br_c (fun e2 => ⟨ip, iq, br_c (fun e3 => h1 ⟨hc, e1, e2, e3⟩) (fun e3 => h0 (fun z => e3 z.2.2.2))⟩) (fun e2 => h0 (fun z => e2 z.2.2.1))⟩) (fun e1 => h0 (fun z => e1 z.2.1))⟩) (fun hc => br_t rfl (h0 (fun z => hc z.1)))⟩
theorem fy_spoils {p q : Nat} (hp : p < 20) (hq : q < 20) (h1 : cd_Sl o v a b p q → post 1) (h0 : ¬ cd_Sl o v a b p q → post 0) : wpY_spoils post ((nI n), o, v, a, b) (nI p) (nI q) := by
  unfold wpY_spoils
  dsimp only
  rw [ix_cl hp, ix_cl hq]
  have ip := ix_in hp
  have iq := ix_in hq
  refine ⟨ip, fy_writes (fun hw => br_f (by decide) ⟨ip, iq, br_c (fun e1 => h1 ⟨hw, Or.inl e1⟩) (fun e1 => ⟨ip, iq, br_c (fun e2 => h1 ⟨hw, Or.inr e2⟩) (fun e2 => h0 (fun z => z.2.elim e1 e2))⟩)⟩) (fun hw => br_t rfl (h0 (fun z => z.1 hw)))⟩
theorem fy_isName {e : Nat} (he : e < 20) (h1 : cd_Nm o a b e → post 1) (h0 : ¬ cd_Nm o a b e → post 0) : wpY_isName post ((nI n), o, v, a, b) (nI e) := by
  have key : ∀ d k, k + d = e → ((cd_Cp o e ∧ ∀ p, p < k → ¬ cd_Sm o a b p e) → wY_isName_13 post (nI e) (nI n) o v a b (d + 1) 1 (nI k)) ∧ (¬ (cd_Cp o e ∧ ∀ p, p < k → ¬ cd_Sm o a b p e) → wY_isName_13 post (nI e) (nI n) o v a b (d + 1) 0 (nI k)) := by
    intro d
    induction d with
    | zero =>
      intro k hk
      have ek : k = e := by omega
      subst ek
      exact ⟨fun z => br_t (nI_le (Nat.le_refl _) (by omega)) ⟨nb_1, h1 z⟩, fun z => br_t (nI_le (Nat.le_refl _) (by omega)) ⟨nb_0, h0 z⟩⟩
    | succ d ih =>
      intro k hk
      obtain ⟨i1, i0⟩ := ih (k + 1) (by omega)
      constructor
      · intro z
        refine br_f (nI_ge (by omega) (by omega)) (br_f (by decide) (fy_same (by omega) he (fun hs => br_f (by decide) (gl_i (i0 (fun w => w.2 k (by omega) hs)))) (fun hs => br_t rfl (gl_i (i1 ⟨z.1, fun p hp => ?_⟩)))))
        by_cases ep : p = k
        · subst ep; exact hs
        · exact z.2 p (by omega)
      · intro z
        exact br_f (nI_ge (by omega) (by omega)) (br_t rfl (gl_i (i0 (fun w => z ⟨w.1, fun p hp => w.2 p (by omega)⟩))))
  unfold wpY_isName
  dsimp only
  rw [ix_cl he]
  obtain ⟨k1, k0⟩ := key e 0 (by omega)
  refine ⟨ix_in he, fy_computes (fun hc => ⟨e + 1, k1 ⟨hc, fun p hp => by omega⟩⟩) (fun hc => ⟨e + 1, k0 (fun z => hc z.1)⟩)⟩
theorem wo_end {J10 J20 : Int32 → Int32 → Int32 → Prop} {x1 x2 x3 x4 x6 x7 x8 x9 z0 : Int32} {k : Nat}
    (h : ∀ N H : Int32, N = (@ite _ ((¬ x9 = 0 ∧ x6 = 0) ∨ (¬ z0 = 0 ∧ ¬ x7 = 0)) (Classical.propDecidable _) (x2 ||| x8) x2) → H = (@ite _ ((¬ x9 = 0 ∧ ¬ x6 = 0) ∨ (¬ z0 = 0 ∧ x7 = 0)) (Classical.propDecidable _) (x3 ||| x8) x3) → J20 N H (nI (k + 1))) : wY_without_105 post J10 J20 x1 x2 x3 x4 (nI k) x6 x7 x8 x9 z0 (nI n) o v a b := by
  by_cases h9 : x9 = 0
  · by_cases hz : z0 = 0
    · have hh := h x2 x3 (by simp [h9, hz]) (by simp [h9, hz])
      exact br_t h9 (br_t hz (br_t h9 (br_t hz (gl_i hh))))
    · by_cases h7 : x7 = 0
      · have hh := h x2 (x3 ||| x8) (by simp [h9, hz, h7]) (by simp [h9, hz, h7])
        exact br_t h9 (br_f hz (br_t h7 (br_t h9 (br_f hz (br_t h7 (nm_e (gl_i hh)))))))
      · have hh := h (x2 ||| x8) x3 (by simp [h9, hz, h7]) (by simp [h9, hz, h7])
        exact br_t h9 (br_f hz (br_f h7 (br_t h9 (br_f hz (br_f h7 (gl_i hh))))))
  · by_cases h6 : x6 = 0
    · by_cases hz : z0 = 0
      · have hh := h (x2 ||| x8) x3 (by simp [h9, hz, h6]) (by simp [h9, hz, h6])
        exact br_f h9 (br_t h6 (br_f h9 (br_t h6 (br_t hz (gl_i hh)))))
      · by_cases h7 : x7 = 0
        · have hh := h (x2 ||| x8) (x3 ||| x8) (by simp [h9, hz, h6, h7]) (by simp [h9, hz, h6, h7])
          exact br_f h9 (br_t h6 (br_f h9 (br_t h6 (br_f hz (br_t h7 (nm_e (gl_i hh)))))))
        · have hh := h (x2 ||| x8) x3 (by simp [h9, hz, h6, h7]) (by simp [h9, hz, h6, h7])
          exact br_f h9 (br_t h6 (br_f h9 (br_t h6 (br_f hz (br_f h7 (gl_i hh))))))
    · by_cases hz : z0 = 0
      · have hh := h x2 (x3 ||| x8) (by simp [h9, hz, h6]) (by simp [h9, hz, h6])
        exact br_f h9 (br_f h6 (br_t hz (br_f h9 (br_f h6 (nm_e (gl_i hh))))))
      · by_cases h7 : x7 = 0
        · have hh := h x2 (x3 ||| x8) (by simp [h9, hz, h6, h7]) (by simp [h9, hz, h6, h7])
          exact br_f h9 (br_f h6 (br_f hz (br_t h7 (br_f h9 (br_f h6 (nm_e (gl_i hh)))))))
        · have hh := h (x2 ||| x8) (x3 ||| x8) (by simp [h9, hz, h6, h7]) (by simp [h9, hz, h6, h7])
          exact br_f h9 (br_f h6 (br_f hz (br_f h7 (br_f h9 (br_f h6 (nm_e (gl_i hh)))))))
theorem wo_if {c d : Prop} {x y : Int32} (e : c ↔ d) : (@ite _ c (Classical.propDecidable _) x y) = (@ite _ d (Classical.propDecidable _) x y) := by
  by_cases h : c
  · rw [if_pos h, if_pos (e.mp h)]
  · rw [if_neg h, if_neg (fun z => h (e.mpr z))]
theorem wo_88 {J10 J20 : Int32 → Int32 → Int32 → Prop} {x1 x2 x4 x6 x7 x8 x9 : Int32} {k : Nat} (hk : k < 32) {H2 : Nat → Prop}
    (h : ∀ N H : Int32, N = (@ite _ ((¬ x9 = 0 ∧ x6 = 0) ∨ (H2 k ∧ ¬ x7 = 0)) (Classical.propDecidable _) (x2 ||| x8) x2) → H = (@ite _ ((¬ x9 = 0 ∧ ¬ x6 = 0) ∨ (H2 k ∧ x7 = 0)) (Classical.propDecidable _) (se_S H2 ||| x8) (se_S H2)) → J20 N H (nI (k + 1))) : wY_without_88 post J10 J20 x1 x2 (se_S H2) x4 (nI k) x6 x7 x8 x9 (nI n) o v a b := by
  by_cases hh : H2 k
  · refine br_t ((se_h1 hk).mpr hh) (wo_end (fun N H eN eH => h N H (eN.trans ?_) (eH.trans ?_)))
    · have e : (¬ x9 = 0 ∧ x6 = 0 ∨ ¬ (1 : Int32) = 0 ∧ ¬ x7 = 0) ↔ (¬ x9 = 0 ∧ x6 = 0 ∨ H2 k ∧ ¬ x7 = 0) := by simp [hh]
      exact wo_if e
    · have e : (¬ x9 = 0 ∧ ¬ x6 = 0 ∨ ¬ (1 : Int32) = 0 ∧ x7 = 0) ↔ (¬ x9 = 0 ∧ ¬ x6 = 0 ∨ H2 k ∧ x7 = 0) := by simp [hh]
      exact wo_if e
  · refine br_f (fun z => hh ((se_h1 hk).mp z)) (wo_end (fun N H eN eH => h N H (eN.trans ?_) (eH.trans ?_)))
    · have e : (¬ x9 = 0 ∧ x6 = 0 ∨ ¬ (0 : Int32) = 0 ∧ ¬ x7 = 0) ↔ (¬ x9 = 0 ∧ x6 = 0 ∨ H2 k ∧ ¬ x7 = 0) := by simp [hh]
      exact wo_if e
    · have e : (¬ x9 = 0 ∧ ¬ x6 = 0 ∨ ¬ (0 : Int32) = 0 ∧ x7 = 0) ↔ (¬ x9 = 0 ∧ ¬ x6 = 0 ∨ H2 k ∧ x7 = 0) := by simp [hh]
      exact wo_if e
theorem wo_or {c : Prop} {P Q N : Nat → Prop} (h : ∀ i, (P i ∨ (c ∧ N i)) ↔ Q i) : (@ite _ c (Classical.propDecidable _) (se_S P ||| se_S N) (se_S P)) = se_S Q := by
  by_cases hc : c
  · rw [if_pos hc, se_or]
    exact se_ext (fun i _ => ⟨fun z => (h i).mp (z.imp id (fun w => ⟨hc, w⟩)), fun z => ((h i).mpr z).imp id (fun w => w.2)⟩)
  · rw [if_neg hc]
    exact se_ext (fun i _ => ⟨fun z => (h i).mp (Or.inl z), fun z => ((h i).mpr z).elim id (fun w => absurd w.1 hc)⟩)
theorem wo_54 (ok : cd_Ok n o v a b) {J10 J20 : Int32 → Int32 → Int32 → Prop} {x4 z0 : Int32} {k e : Nat} (hk : k < n) (he : e < n) {Q : Nat → Prop}
    (hz : ¬ z0 = 0 ↔ (cd_Sm o a b k e ∧ ¬ cd_Sl o v a b k e))
    (h : ∀ Q' : Nat → Prop, (∀ i, Q' i ↔ Q i ∨ (Q (2 * k) ∧ wo_E n o v a b e (2 * k) i) ∨ (Q (2 * k + 1) ∧ wo_E n o v a b e (2 * k + 1) i)) → J20 (se_S (fun p => Q' (2 * p))) (se_S (fun p => Q' (2 * p + 1))) (nI (k + 1))) : wY_without_54 post J10 J20 (nI e) (se_S (fun p => Q (2 * p))) (se_S (fun p => Q (2 * p + 1))) x4 (nI k) z0 (nI n) o v a b := by
  have hn := ok.1
  have hzz : z0 = 0 ↔ ¬ (cd_Sm o a b k e ∧ ¬ cd_Sl o v a b k e) := by rw [← hz, Classical.not_not]
  have hh := h _ (fun i => Iff.rfl)
  have m1 : (2 * k) / 2 = k := by omega
  have m2 : (2 * k + 1) / 2 = k := by omega
  have m3 : (2 * k) % 2 = 0 := by omega
  have m4 : (2 * k + 1) % 2 = 1 := by omega
  have main : ∀ x7 x9 : Int32, (¬ x7 = 0 ↔ cd_Sl o v a b k e) → (¬ x9 = 0 ↔ Q (2 * k)) → wY_without_88 post J10 J20 (nI e) (se_S (fun p => Q (2 * p))) (se_S (fun p => Q (2 * p + 1))) x4 (nI k) z0 x7 (se_S (cd_G n o b k)) x9 (nI n) o v a b := by
    intro x7 x9 h7 h9
    have h77 : x7 = 0 ↔ ¬ cd_Sl o v a b k e := by rw [← h7, Classical.not_not]
    refine wo_88 (by omega) (fun N H eN eH => ?_)
    rw [eN, eH]
    rw [wo_or (Q := fun p => Q (2 * p) ∨ (Q (2 * k) ∧ wo_E n o v a b e (2 * k) (2 * p)) ∨ (Q (2 * k + 1) ∧ wo_E n o v a b e (2 * k + 1) (2 * p))),
      wo_or (Q := fun p => Q (2 * p + 1) ∨ (Q (2 * k) ∧ wo_E n o v a b e (2 * k) (2 * p + 1)) ∨ (Q (2 * k + 1) ∧ wo_E n o v a b e (2 * k + 1) (2 * p + 1)))]
    · exact hh
    · intro i
      have j1 : (2 * i + 1) / 2 = i := by omega
      have j2 : (2 * i + 1) % 2 = 1 := by omega
      unfold wo_E
      rw [h9, hz, h77, m1, m2, m3, m4, j1, j2]
      simp only [Nat.zero_ne_one, Nat.one_ne_zero, true_and, false_and, or_false, false_or, false_implies, true_implies, and_true]
      constructor
      · rintro (z | ⟨z | z, g⟩)
        · exact Or.inl z
        · exact Or.inr (Or.inl ⟨z.1, g, z.2⟩)
        · exact Or.inr (Or.inr ⟨z.1, g, z.2⟩)
      · rintro (z | z | z)
        · exact Or.inl z
        · exact Or.inr ⟨Or.inl ⟨z.1, z.2.2⟩, z.2.1⟩
        · exact Or.inr ⟨Or.inr ⟨z.1, z.2.2⟩, z.2.1⟩
    · intro i
      have j1 : (2 * i) / 2 = i := by omega
      have j2 : (2 * i) % 2 = 0 := by omega
      unfold wo_E
      rw [h9, hzz, h7, m1, m2, m3, m4, j1, j2]
      simp only [Nat.zero_ne_one, Nat.one_ne_zero, true_and, false_and, or_false, false_or, false_implies, true_implies, and_true]
      constructor
      · rintro (z | ⟨z | z, g⟩)
        · exact Or.inl z
        · exact Or.inr (Or.inl ⟨z.1, g, z.2⟩)
        · exact Or.inr (Or.inr ⟨z.1, g, z.2⟩)
      · rintro (z | z | z)
        · exact Or.inl z
        · exact Or.inr ⟨Or.inl ⟨z.1, z.2.2⟩, z.2.1⟩
        · exact Or.inr ⟨Or.inr ⟨z.1, z.2.2⟩, z.2.1⟩
  have main2 : ∀ x7 : Int32, (¬ x7 = 0 ↔ cd_Sl o v a b k e) → ((((se_S (fun p => Q (2 * p)) >>> (nI k &&& 31)) &&& 1) = 1 → wY_without_88 post J10 J20 (nI e) (se_S (fun p => Q (2 * p))) (se_S (fun p => Q (2 * p + 1))) x4 (nI k) z0 x7 (se_S (cd_G n o b k)) 1 (nI n) o v a b) ∧ (¬ ((se_S (fun p => Q (2 * p)) >>> (nI k &&& 31)) &&& 1) = 1 → wY_without_88 post J10 J20 (nI e) (se_S (fun p => Q (2 * p))) (se_S (fun p => Q (2 * p + 1))) x4 (nI k) z0 x7 (se_S (cd_G n o b k)) 0 (nI n) o v a b)) := by
    intro x7 h7
    refine ⟨fun hq => main x7 1 h7 ?_, fun hq => main x7 0 h7 ?_⟩
    · have hq := (se_h1 (by omega)).mp hq
      exact ⟨fun _ => hq, fun _ => by decide⟩
    · have hq : ¬ Q (2 * k) := fun z => hq ((se_h1 (by omega)).mpr z)
      exact ⟨fun z => absurd rfl z, fun z => absurd z hq⟩
  unfold wY_without_54
  refine fy_spoils (by omega) (by omega) (fun hs => fy_goingOn ok hk ?_) (fun hs => fy_goingOn ok hk ?_)
  · exact main2 1 ⟨fun _ => hs, fun _ => by decide⟩
  · exact main2 0 ⟨fun z => absurd rfl z, fun z => absurd z hs⟩
theorem fy_without (ok : cd_Ok n o v a b) {e : Nat} (he : e < n) (h : post (se_S (fun p => wo_L n o v a b e (2 * p)))) : wpY_without post ((nI n), o, v, a, b) (nI e) := by
  have hn := ok.1
  unfold wpY_without
  dsimp only
  refine fy_start ?_ hn
  have e0 : se_S (fl_st n) = se_S (fun p => fl_st n (2 * p)) := se_ext (fun i _ => ⟨fun z => ⟨z.1, by have := z.2; omega⟩, fun z => ⟨z.1, by have := z.2; omega⟩⟩)
  have e1 : (0 : Int32) = se_S (fun p => fl_st n (2 * p + 1)) := by
    rw [se_0]; exact se_ext (fun i _ => ⟨fun z => z.elim, fun z => by have := z.2; omega⟩)
  rw [e0]
  have hg := gl_sat (fun f P r => wY_without_10 post (nI e) (nI n) o v a b f (se_S (fun p => P (2 * p))) (se_S (fun p => P (2 * p + 1))) (nI r)) (wo_E n o v a b e) (fl_st n) (2 * n) 40 1 (by omega) (fun x y z => by have := z.1.1; omega) (fun P => post (se_S (fun p => P (2 * p)))) ?_ ?_ ?_ (fl_st n) (fun i z => lf_i z) (Or.inl fun _ z => z) ?_
  · obtain ⟨f, hf⟩ := hg
    refine ⟨f, ?_⟩
    rw [← e1] at hf
    exact hf
  · intro f P h
    exact br_t (nI_le (a := 40) (b := 40) (by omega) (by omega)) h
  · intro f r P hr hP hk hA
    refine br_f (nI_ge (b := 40) hr (by omega)) ?_
    refine gl_pass (fun g Q k => wY_without_20 post (wY_without_10 post (nI e) (nI n) o v a b f) (nI e) (nI r) (nI n) o v a b g (se_S (fun p => Q (2 * p))) (se_S (fun p => Q (2 * p + 1))) (nI k)) (lf_L (wo_E n o v a b e) (fl_st n)) (fun k y => (P (2 * k) ∧ wo_E n o v a b e (2 * k) y) ∨ (P (2 * k + 1) ∧ wo_E n o v a b e (2 * k + 1) y)) n P hP (fun Q => wY_without_10 post (nI e) (nI n) o v a b f (se_S (fun p => Q (2 * p))) (se_S (fun p => Q (2 * p + 1))) (nI (r + 1))) ?_ ?_ ?_
    · intro g Q hd
      exact br_t (nI_le (Nat.le_refl _) (by omega)) (gl_i hd)
    · intro g k Q hk1 h1 h2 hk2
      refine br_f (nI_ge hk1 (by omega)) ?_
      have fin : ∀ Q' : Nat → Prop, (∀ i, Q' i ↔ Q i ∨ (Q (2 * k) ∧ wo_E n o v a b e (2 * k) i) ∨ (Q (2 * k + 1) ∧ wo_E n o v a b e (2 * k + 1) i)) → wY_without_20 post (wY_without_10 post (nI e) (nI n) o v a b f) (nI e) (nI r) (nI n) o v a b g (se_S (fun p => Q' (2 * p))) (se_S (fun p => Q' (2 * p + 1))) (nI (k + 1)) := by
        intro Q' hQ'
        refine hk2 Q' (fun i z => (hQ' i).mpr (Or.inl z)) (fun i z => ?_) (fun y hc => (hQ' y).mpr (Or.inr ?_))
        · rcases (hQ' i).mp z with w | w | w
          · exact h2 i w
          · exact lf_s (h2 _ w.1) w.2
          · exact lf_s (h2 _ w.1) w.2
        · exact hc.imp (fun w => ⟨h1 _ w.1, w.2⟩) (fun w => ⟨h1 _ w.1, w.2⟩)
      refine fy_same (by omega) (by omega) (fun hs => br_f (by decide) (fy_spoils (by omega) (by omega) (fun hl => br_f (by decide) ?_) (fun hl => br_t rfl ?_))) (fun hs => br_t rfl ?_)
      · exact wo_54 ok hk1 he ⟨fun z => absurd rfl z, fun z => absurd hl z.2⟩ fin
      · exact wo_54 ok hk1 he ⟨fun _ => ⟨hs, hl⟩, fun _ => by decide⟩ fin
      · exact wo_54 ok hk1 he ⟨fun z => absurd rfl z, fun z => absurd z.1 hs⟩ fin
    · intro P' g1 g2 g3
      refine hk P' g1 (fun i z => g1 i (hA.elim (fun w => w i z) (fun w => absurd w (by decide)))) g2 (fun x y hx hxy => g3 (x / 2) y hxy.1.1 ?_)
      rcases Nat.mod_two_eq_zero_or_one x with m | m
      · have ex : 2 * (x / 2) = x := by omega
        left; rw [ex]; exact ⟨hx, hxy⟩
      · have ex : 2 * (x / 2) + 1 = x := by omega
        right; rw [ex]; exact ⟨hx, hxy⟩
  · intro P hP
    have e : se_S (fun p => P (2 * p)) = se_S (fun p => wo_L n o v a b e (2 * p)) := se_ext (fun i _ => hP (2 * i))
    show post (se_S (fun p => P (2 * p)))
    rw [e]; exact h
  · by_cases hz : 0 < n
    · right
      exact se_Npos (P := fl_st n) (i := 0) (by omega) ⟨hz, rfl⟩
    · left
      intro i z
      exact z (fl_st n) (fun _ w => w) (fun x y hx e => absurd hx.1 hz)
end
