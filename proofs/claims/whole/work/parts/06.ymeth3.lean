/-! the reference's methods, continued: busy, available, before, after, frontier, joins, loop, unset, dead -/
theorem se_up1 {D c : Nat → Prop} {k : Nat} (hk : k < 32) (hc : c k) : se_S (fun q => D q ∨ (q < k ∧ c q)) ||| ((1 : Int32) <<< (nI k &&& 31)) = se_S (fun q => D q ∨ (q < k + 1 ∧ c q)) := by
  rw [se_shl hk, se_or]
  refine se_ext (fun i _ => ⟨?_, ?_⟩)
  · rintro ((z | z) | z)
    · exact Or.inl z
    · exact Or.inr ⟨by omega, z.2⟩
    · subst z; exact Or.inr ⟨by omega, hc⟩
  · rintro (z | z)
    · exact Or.inl (Or.inl z)
    · by_cases e : i = k
      · exact Or.inr e
      · exact Or.inl (Or.inr ⟨by omega, z.2⟩)
theorem se_up0 {D c : Nat → Prop} {k : Nat} (hc : ¬ c k) : se_S (fun q => D q ∨ (q < k ∧ c q)) = se_S (fun q => D q ∨ (q < k + 1 ∧ c q)) := by
  refine se_ext (fun i _ => ⟨?_, ?_⟩)
  · rintro (z | z)
    · exact Or.inl z
    · exact Or.inr ⟨by omega, z.2⟩
  · rintro (z | z)
    · exact Or.inl z
    · by_cases e : i = k
      · subst e; exact absurd z.2 hc
      · exact Or.inr ⟨by omega, z.2⟩
def fl_Lp (n : Nat) (o b : Nat → Int32) (h i : Nat) : Prop := (∃ r, fl_Bk n o b h r) ∧ (i = h ∨ (i < n ∧ (fl_R n o b i ∧ ∃ r, fl_F n o b (fun j => j = i) (fun _ => False) (fun j => j = h) r ∧ fl_Bk n o b h r)))
def fl_JE (n : Nat) (o b : Nat → Int32) (x y : Nat) : Prop := x < n ∧ fl_Fr n o b x y
def fl_JB (n : Nat) (o v b : Nat → Int32) (x : Int32) (p : Nat) : Prop := (fl_W n o v x p ∨ fl_st n p) ∧ fl_R n o b p
def fl_JA (n : Nat) (o v b : Nat → Int32) (x : Int32) (y : Nat) : Prop := ∃ k, k < n ∧ fl_JB n o v b x k ∧ fl_Fr n o b k y
def fl_Us (n : Nat) (o v a b : Nat → Int32) (d : Nat) : Prop := ∃ p, p < n ∧ cd_G n o b d p ∧ ∃ i, i < 6 ∧ v d = nI i ∧ fl_Live n o v a b p i
section
variable {n : Nat} {o v a b : Nat → Int32} {post : Int32 → Prop}
theorem fy_available (ok : cd_Ok n o v a b) {x1 x2 : Int32} (h1 : cd_Eg x1 → ∀ p, p < n → x2 = nI p → fl_R n o b p → post (se_S (fun e => e < n ∧ cd_Nm o a b e ∧ ¬ wo_L n o v a b e (2 * p)))) (h0 : ¬ (cd_Eg x1 ∧ ∃ p, p < n ∧ x2 = nI p ∧ fl_R n o b p) → post (-1)) : wpY_available post ((nI n), o, v, a, b) x1 x2 := by
  have hn := ok.1
  unfold wpY_available
  dsimp only
  refine fy_engine (fun he => br_f (by decide) (fy_canReach ok (fun p hp ep hR => br_f (by decide) ?_) (fun hz => br_t rfl (h0 (fun z => hz z.2))))) (fun he => br_t rfl (h0 (fun z => he z.1)))
  subst ep
  have hh := h1 he p hp rfl hR
  refine gl_pick (fun f x y => wY_available_23 post (nI p) (nI n) o v a b f x y) n (fun e => cd_Nm o a b e ∧ ¬ wo_L n o v a b e (2 * p)) post (by omega) ?_ ?_ hh
  · intro f x h
    exact br_t (nI_le (Nat.le_refl _) (by omega)) h
  · intro f k y hk h0 h1
    refine br_f (nI_ge hk (by omega)) (fy_isName (by omega) (fun hN => br_f (by decide) (fy_without ok hk ?_)) (fun hN => br_t rfl (gl_i (h0 (fun z => hN z.1)))))
    by_cases hw : wo_L n o v a b k (2 * p)
    · exact br_f (fun z => (se_h0 (P := fun p => wo_L n o v a b k (2 * p)) (by omega)).mp z hw) (gl_i (h0 (fun z => z.2 hw)))
    · exact br_t ((se_h0 (P := fun p => wo_L n o v a b k (2 * p)) (by omega)).mpr hw) (nm_e (gl_i (h1 ⟨hN, hw⟩)))
theorem fy_missed (ok : cd_Ok n o v a b) {p e : Nat} (hp : p < n) (he : e < n) (h1 : fl_Miss n o v a b p e → post 1) (h0 : ¬ fl_Miss n o v a b p e → post 0) : wpY_missed post ((nI n), o, v, a, b) (nI p) (nI e) := by
  have hn := ok.1
  have key : ∀ d k, k + d = n → wY_missed_9 post (nI p) (nI e) (nI n) o v a b (d + 1) (se_S (fun q => False ∨ (q < k ∧ cd_Sm o a b q e))) (se_S (fun q => q = 20 ∨ (q < k ∧ (¬ cd_Sm o a b q e ∧ cd_Sl o v a b q e)))) (nI k) := by
    intro d
    induction d with
    | zero =>
      intro k hk
      have ek : k = n := by omega
      subst ek
      refine br_t (nI_le (Nat.le_refl _) (by omega)) (fy_flowE ok (A := fun j => j = p) (B := fun q => q < k ∧ cd_Sm o a b q e) (se_shl (by omega)) (se_ext (fun i _ => ⟨fun z => z.elim False.elim id, Or.inr⟩)) se_0 ?_)
      have hb : ∀ i, fl_F k o b (fun j => j = p) (fun q => q < k ∧ cd_Sm o a b q e) (fun _ => False) i → (i = 20 ∨ (i < k ∧ (¬ cd_Sm o a b i e ∧ cd_Sl o v a b i e))) → i < 32 := by
        intro i _ z
        rcases z with z | z
        · omega
        · omega
      by_cases hm : fl_Miss k o v a b p e
      · exact br_f (fun z => (se_mt hb).mp z hm) (h1 hm)
      · exact br_t ((se_mt hb).mpr hm) (h0 hm)
    | succ d ih =>
      intro k hk
      have ih := ih (k + 1) (by omega)
      refine br_f (nI_ge (by omega) (by omega)) (fy_same (by omega) (by omega) (fun hs => br_f (by decide) (br_f (by decide) (gl_i ?_))) (fun hs => br_t rfl (br_t rfl (fy_spoils (by omega) (by omega) (fun hl => br_f (by decide) (nm_e (gl_i ?_))) (fun hl => br_t rfl (gl_i ?_))))))
      · have s1 : se_S (fun q => False ∨ (q < k ∧ cd_Sm o a b q e)) ||| ((1 : Int32) <<< (nI k &&& 31)) = se_S (fun q => False ∨ (q < k + 1 ∧ cd_Sm o a b q e)) := se_up1 (c := fun q => cd_Sm o a b q e) (by omega) hs
        have s2 : se_S (fun q => q = 20 ∨ (q < k ∧ (¬ cd_Sm o a b q e ∧ cd_Sl o v a b q e))) = se_S (fun q => q = 20 ∨ (q < k + 1 ∧ (¬ cd_Sm o a b q e ∧ cd_Sl o v a b q e))) := se_up0 (c := fun q => ¬ cd_Sm o a b q e ∧ cd_Sl o v a b q e) (fun z => z.1 hs)
        rw [← s1, ← s2] at ih
        exact ih
      · have s1 : se_S (fun q => False ∨ (q < k ∧ cd_Sm o a b q e)) = se_S (fun q => False ∨ (q < k + 1 ∧ cd_Sm o a b q e)) := se_up0 (c := fun q => cd_Sm o a b q e) hs
        have s2 : se_S (fun q => q = 20 ∨ (q < k ∧ (¬ cd_Sm o a b q e ∧ cd_Sl o v a b q e))) ||| ((1 : Int32) <<< (nI k &&& 31)) = se_S (fun q => q = 20 ∨ (q < k + 1 ∧ (¬ cd_Sm o a b q e ∧ cd_Sl o v a b q e))) := se_up1 (c := fun q => ¬ cd_Sm o a b q e ∧ cd_Sl o v a b q e) (by omega) ⟨hs, hl⟩
        rw [← s1, ← s2] at ih
        exact ih
      · have s1 : se_S (fun q => False ∨ (q < k ∧ cd_Sm o a b q e)) = se_S (fun q => False ∨ (q < k + 1 ∧ cd_Sm o a b q e)) := se_up0 (c := fun q => cd_Sm o a b q e) hs
        have s2 : se_S (fun q => q = 20 ∨ (q < k ∧ (¬ cd_Sm o a b q e ∧ cd_Sl o v a b q e))) = se_S (fun q => q = 20 ∨ (q < k + 1 ∧ (¬ cd_Sm o a b q e ∧ cd_Sl o v a b q e))) := se_up0 (c := fun q => ¬ cd_Sm o a b q e ∧ cd_Sl o v a b q e) (fun z => hl z.2)
        rw [← s1, ← s2] at ih
        exact ih
  unfold wpY_missed
  dsimp only
  have k0 := key n 0 (by omega)
  have e1 : se_S (fun q => False ∨ (q < 0 ∧ cd_Sm o a b q e)) = 0 := se_z.mpr (fun i _ z => z.elim id (fun w => by omega))
  have e2 : se_S (fun q => q = 20 ∨ (q < 0 ∧ (¬ cd_Sm o a b q e ∧ cd_Sl o v a b q e))) = 1048576 := by
    rw [ix_20]
    exact se_ext (fun i _ => ⟨fun z => z.elim id (fun w => by omega), Or.inl⟩)
  rw [e1, e2] at k0
  exact ⟨_, k0⟩
theorem fy_busy (ok : cd_Ok n o v a b) {x1 x2 : Int32} (h1 : cd_Eg x1 → ∀ p, p < n → x2 = nI p → post (se_S (fun e => e < n ∧ cd_Nm o a b e ∧ ¬ fl_Miss n o v a b p e))) (h0 : ¬ (cd_Eg x1 ∧ ∃ p, p < n ∧ x2 = nI p) → post (-1)) : wpY_busy post ((nI n), o, v, a, b) x1 x2 := by
  have hn := ok.1
  unfold wpY_busy
  dsimp only
  refine fy_engine (fun he => br_f (by decide) (fy_in hn (fun p hp ep => br_f (by decide) ?_) (fun hz => br_t rfl (h0 (fun z => z.2.elim (fun q hq => hz q hq.1 hq.2)))))) (fun he => br_t rfl (h0 (fun z => he z.1)))
  subst ep
  have hh := h1 he p hp rfl
  refine gl_pick (fun f x y => wY_busy_23 post (nI p) (nI n) o v a b f x y) n (fun e => cd_Nm o a b e ∧ ¬ fl_Miss n o v a b p e) post (by omega) ?_ ?_ hh
  · intro f x h
    exact br_t (nI_le (Nat.le_refl _) (by omega)) h
  · intro f k y hk h0 h1
    exact br_f (nI_ge hk (by omega)) (fy_isName (by omega) (fun hN => br_f (by decide) (fy_missed ok hp hk (fun hm => br_f (by decide) (gl_i (h0 (fun z => z.2 hm)))) (fun hm => br_t rfl (nm_e (gl_i (h1 ⟨hN, hm⟩)))))) (fun hN => br_t rfl (gl_i (h0 (fun z => hN z.1)))))
theorem fy_agree {u : SY} {x1 x2 : Int32} (h1 : cd_Eg x1 → cd_Eg x2 → post 1) (h0 : ¬ (cd_Eg x1 ∧ cd_Eg x2) → post 0) : wpY_agree post u x1 x2 := by
  obtain ⟨_, _, _, _, _⟩ := u
  unfold wpY_agree
  dsimp only
  exact fy_engine (fun he => br_f (by decide) (fy_engine (fun hf => br_f (by decide) (h1 he hf)) (fun hf => br_t rfl (h0 (fun z => hf z.2))))) (fun he => br_t rfl (h0 (fun z => he z.1)))
theorem fy_isBefore (ok : cd_Ok n o v a b) {q p : Nat} (hq : q < n) (hp : p < n) (h1 : fl_Bf n o b q p → post 1) (h0 : ¬ fl_Bf n o b q p → post 0) : wpY_isBefore post ((nI n), o, v, a, b) (nI q) (nI p) := by
  have hn := ok.1
  unfold wpY_isBefore
  dsimp only
  refine fy_start (fy_flowE ok rfl se_0 (se_shl (by omega)) ?_) hn
  by_cases hb : fl_Bf n o b q p
  · exact br_t ((se_h0 (by omega)).mpr hb) (h1 hb)
  · exact br_f (fun z => hb ((se_h0 (by omega)).mp z)) (h0 hb)
theorem fy_before (ok : cd_Ok n o v a b) {x : Int32} (h1 : ∀ p, p < n → x = nI p → fl_R n o b p → post (se_S (fun q => q < n ∧ fl_Bf n o b q p))) (h0 : ¬ (∃ p, p < n ∧ x = nI p ∧ fl_R n o b p) → post (-1)) : wpY_before post ((nI n), o, v, a, b) x := by
  have hn := ok.1
  unfold wpY_before
  dsimp only
  refine fy_canReach ok (fun p hp ep hR => br_f (by decide) ?_) (fun hz => br_t rfl (h0 hz))
  subst ep
  refine gl_pick (fun f x y => wY_before_14 post (nI p) (nI n) o v a b f x y) n (fun q => fl_Bf n o b q p) post (by omega) ?_ ?_ (h1 p hp rfl hR)
  · intro f x h
    exact br_t (nI_le (Nat.le_refl _) (by omega)) h
  · intro f k y hk h0 h1
    exact br_f (nI_ge hk (by omega)) (fy_isBefore ok hk hp (fun hb => br_f (by decide) (nm_e (gl_i (h1 hb)))) (fun hb => br_t rfl (gl_i (h0 hb))))
theorem fl_F32 {A B C : Nat → Prop} (hn : n ≤ 20) {p : Nat} (hp : p < n) (hA : ∀ i, A i → i = p) : ∀ i, i < 32 → fl_F n o b A B C i → i ≤ 20 :=
  fun _ _ z => fl_Fl hn (fun j hj => by have := hA j hj; omega) z
theorem fy_after (ok : cd_Ok n o v a b) {x : Int32} (h1 : ∀ p, p < n → x = nI p → fl_End n o b (fun _ => False) p → post (se_S (fun q => q < n ∧ ¬ fl_End n o b (fun j => j = q) p))) (h0 : ¬ (∃ p, p < n ∧ x = nI p ∧ fl_End n o b (fun _ => False) p) → post (-1)) : wpY_after post ((nI n), o, v, a, b) x := by
  have hn := ok.1
  unfold wpY_after
  dsimp only
  refine fy_in hn (fun p hp ep => br_f (by decide) ?_) (fun hz => br_t rfl (h0 (fun z => z.elim (fun q hq => hz q hq.1 hq.2.1))))
  subst ep
  refine fy_flowE ok (se_shl (by omega)) se_0 se_0 ?_
  by_cases hE : fl_End n o b (fun _ => False) p
  · refine br_f (fun z => (se_s20 (fl_F32 hn hp (fun _ z => z))).mp z hE) ?_
    refine gl_pick (fun f x y => wY_after_29 post (nI p) (nI n) o v a b f x y) n (fun q => ¬ fl_End n o b (fun j => j = q) p) post (by omega) ?_ ?_ (h1 p hp rfl hE)
    · intro f x h
      exact br_t (nI_le (Nat.le_refl _) (by omega)) h
    · intro f k y hk h0 h1
      refine br_f (nI_ge hk (by omega)) (fy_flowE ok (se_shl (by omega)) se_0 (se_shl (by omega)) ?_)
      by_cases hK : fl_End n o b (fun j => j = k) p
      · exact br_f (fun z => (se_s20 (fl_F32 hn hp (fun _ z => z))).mp z hK) (gl_i (h0 (fun z => z hK)))
      · exact br_t ((se_s20 (fl_F32 hn hp (fun _ z => z))).mpr hK) (nm_e (gl_i (h1 hK)))
  · refine br_t ((se_s20 (fl_F32 hn hp (fun _ z => z))).mpr hE) (h0 ?_)
    rintro ⟨q, hq, e, z⟩
    have := (nI_eq (by omega) (by omega)).mp e
    subst this
    exact hE z
theorem fy_frontier (ok : cd_Ok n o v a b) {x : Int32} (h1 : ∀ p, p < n → x = nI p → fl_R n o b p → post (se_S (fl_Fr n o b p))) (h0 : ¬ (∃ p, p < n ∧ x = nI p ∧ fl_R n o b p) → post (-1)) : wpY_frontier post ((nI n), o, v, a, b) x := by
  have hn := ok.1
  unfold wpY_frontier
  dsimp only
  refine fy_canReach ok (fun p hp ep hR => br_f (by decide) ?_) (fun hz => br_t rfl (h0 hz))
  subst ep
  have hh := h1 p hp rfl hR
  refine gl_un (fun f x y => wY_frontier_14 post (nI p) (nI n) o v a b f x y) n (fun r => fl_R n o b r ∧ fl_Bf n o b p r) (fun r => cd_G n o b r) (fun x => ∃ n55 : Nat, wY_frontier_55 post (nI p) (nI n) o v a b n55 x 0) ?_ ?_ ?_
  · intro f x h
    exact br_t (nI_le (Nat.le_refl _) (by omega)) h
  · intro f k y hk h0 h1
    refine br_f (nI_ge hk (by omega)) (fy_canReachN ok hk (fun hR => br_f (by decide) (fy_isBefore ok hp hk (fun hb => br_f (by decide) (fy_goingOn ok hk (nm_e (gl_i (h1 ⟨hR, hb⟩ _ rfl))))) (fun hb => br_t rfl (gl_i (h0 (fun z => hb z.2)))))) (fun hR => br_t rfl (gl_i (h0 (fun z => hR z.1)))))
  · have key : ∀ d k, k + d = n → wY_frontier_55 post (nI p) (nI n) o v a b (d + 1) (se_S (fun i => (∃ r, r < n ∧ (fl_R n o b r ∧ fl_Bf n o b p r) ∧ cd_G n o b r i) ∧ ¬ (i < k ∧ i ≠ p ∧ fl_Bf n o b p i))) (nI k) := by
      intro d
      induction d with
      | zero =>
        intro k hk
        have ek : k = n := by omega
        subst ek
        refine br_t (nI_le (Nat.le_refl _) (by omega)) (fy_reachable ok ?_)
        rw [se_and]
        have e : se_S (fl_Fr k o b p) = se_S (fun i => ((∃ r, r < k ∧ (fl_R k o b r ∧ fl_Bf k o b p r) ∧ cd_G k o b r i) ∧ ¬ (i < k ∧ i ≠ p ∧ fl_Bf k o b p i)) ∧ fl_R k o b i) := se_ext (fun i _ => ⟨fun z => ⟨⟨z.1, z.2.1⟩, z.2.2⟩, fun z => ⟨z.1.1, z.1.2, z.2⟩⟩)
        rw [← e]; exact hh
      | succ d ih =>
        intro k hk
        have ih := ih (k + 1) (by omega)
        have keep : (k = p ∨ ¬ fl_Bf n o b p k) → se_S (fun i => (∃ r, r < n ∧ (fl_R n o b r ∧ fl_Bf n o b p r) ∧ cd_G n o b r i) ∧ ¬ (i < k + 1 ∧ i ≠ p ∧ fl_Bf n o b p i)) = se_S (fun i => (∃ r, r < n ∧ (fl_R n o b r ∧ fl_Bf n o b p r) ∧ cd_G n o b r i) ∧ ¬ (i < k ∧ i ≠ p ∧ fl_Bf n o b p i)) := by
          intro hc
          refine se_ext (fun i _ => ⟨fun z => ⟨z.1, fun w => z.2 ⟨by omega, w.2⟩⟩, fun z => ⟨z.1, fun w => ?_⟩⟩)
          by_cases ei : i = k
          · subst ei
            exact hc.elim w.2.1 (fun q => q w.2.2)
          · exact z.2 ⟨by omega, w.2⟩
        refine br_f (nI_ge (by omega) (by omega)) ?_
        by_cases ekp : k = p
        · rw [keep (Or.inl ekp)] at ih
          exact br_t (by rw [ekp]) (gl_i ih)
        · refine br_f (fun z => ekp ((nI_eq (by omega) (by omega)).mp z)) (fy_isBefore ok hp (by omega) (fun hb => br_f (by decide) (nm_r ?_ (gl_i ih))) (fun hb => br_t rfl ?_))
          · rw [se_shl (by omega), se_not, se_and]
            refine se_ext (fun i _ => ⟨fun z => ⟨z.1.1, fun w => ?_⟩, fun z => ⟨⟨z.1, fun w => z.2 ⟨by omega, w.2⟩⟩, fun w => ?_⟩⟩)
            · by_cases ei : i = k
              · exact z.2 ei
              · exact z.1.2 ⟨by omega, w.2⟩
            · subst w
              exact z.2 ⟨by omega, ekp, hb⟩
          · rw [keep (Or.inr hb)] at ih
            exact gl_i ih
    have k0 := key n 0 (by omega)
    have e : se_S (fun i => (∃ r, r < n ∧ (fl_R n o b r ∧ fl_Bf n o b p r) ∧ cd_G n o b r i) ∧ ¬ (i < 0 ∧ i ≠ p ∧ fl_Bf n o b p i)) = se_S (fun i => ∃ r, r < n ∧ (fl_R n o b r ∧ fl_Bf n o b p r) ∧ cd_G n o b r i) := se_ext (fun i _ => ⟨fun z => z.1, fun z => ⟨z, fun w => by omega⟩⟩)
    rw [e] at k0
    exact ⟨_, k0⟩
theorem fl_JR {x : Int32} {i : Nat} (h : lf_L (fl_JE n o b) (fl_JA n o v b x) i) : fl_R n o b i :=
  h (fun i => fl_R n o b i) (fun _ z => z.elim (fun _ w => w.2.2.2.2)) (fun _ _ _ e => e.2.2.2)
theorem fy_joins (ok : cd_Ok n o v a b) {x : Int32} (h1 : ¬ x < 0 → ¬ 5 < x → post (se_S (lf_L (fl_JE n o b) (fl_JA n o v b x)))) (h0 : ¬ (¬ x < 0 ∧ ¬ 5 < x) → post (-1)) : wpY_joins post ((nI n), o, v, a, b) x := by
  have hn := ok.1
  unfold wpY_joins
  dsimp only
  refine fy_variable (fun g1 g2 => br_f (by decide) (fy_writers hn (fy_start (fy_reachable ok (nm_r (e' := se_S (fl_JB n o v b x)) ?_ ?_)) hn))) (fun g => br_t rfl (h0 g))
  · rw [se_or, se_and]; rfl
  · have hh := h1 g1 g2
    have hg := gl_sat (fun f P r => wY_joins_31 post (se_S (fl_JB n o v b x)) (nI n) o v a b f (se_S P) (nI r)) (fl_JE n o b) (fl_JA n o v b x) n 21 0 (by omega) (fun x y z => z.1) (fun P => post (se_S P)) ?_ ?_ ?_ (fun _ => False) (fun i z => z.elim) (Or.inr rfl) (Or.inr (Nat.zero_le _))
    · rw [← se_0] at hg
      exact hg
    · intro f P h
      exact br_t (nI_le (a := 21) (b := 21) (by omega) (by omega)) h
    · intro f r P hr hP hk _
      refine br_f (nI_ge (b := 21) hr (by omega)) ?_
      refine gl_pass (fun g Q k => wY_joins_41 post (wY_joins_31 post (se_S (fl_JB n o v b x)) (nI n) o v a b f) (se_S (fl_JB n o v b x)) (nI r) (nI n) o v a b g (se_S Q) (nI k)) (lf_L (fl_JE n o b) (fl_JA n o v b x)) (fun k y => (fl_JB n o v b x k ∨ P k) ∧ fl_Fr n o b k y) n P hP (fun Q => wY_joins_31 post (se_S (fl_JB n o v b x)) (nI n) o v a b f (se_S Q) (nI (r + 1))) ?_ ?_ ?_
      · intro g Q hd
        exact br_t (nI_le (Nat.le_refl _) (by omega)) (gl_i hd)
      · intro g k Q hk1 h1 h2 hk2
        refine br_f (nI_ge hk1 (by omega)) ?_
        rw [se_or]
        by_cases hQ : fl_JB n o v b x k ∨ Q k
        · refine br_t ((se_h1 (P := fun i => fl_JB n o v b x i ∨ Q i) (by omega)).mpr hQ) ?_
          have hR : fl_R n o b k := hQ.elim (fun z => z.2) (fun z => fl_JR (h2 k z))
          refine fy_frontier ok (fun q hq eq _ => ?_) (fun z => absurd ⟨k, hk1, rfl, hR⟩ z)
          have e3 := (nI_eq (by omega) (by omega)).mp eq
          subst e3
          refine nm_r (se_or _ _) (gl_i (hk2 (fun i => Q i ∨ fl_Fr n o b k i) (fun _ z => Or.inl z) (fun i z => z.elim (h2 i) (fun w => ?_)) (fun y hc => Or.inr hc.2)))
          exact hQ.elim (fun z => lf_i ⟨k, hk1, z, w⟩) (fun z => lf_s (h2 k z) ⟨hk1, w⟩)
        · refine br_f (fun z => hQ ((se_h1 (P := fun i => fl_JB n o v b x i ∨ Q i) (by omega)).mp z)) ?_
          exact gl_i (hk2 Q (fun _ z => z) h2 (fun y hc => absurd (hc.1.imp id (h1 k)) hQ))
      · intro P' g1 g2 g3
        exact hk P' g1 (fun i z => z.elim (fun k w => g3 k i w.1 ⟨Or.inl w.2.1, w.2.2⟩)) g2 (fun x y hx e => g3 x y e.1 ⟨Or.inr hx, e.2⟩)
    · intro P hP
      have e : se_S P = se_S (lf_L (fl_JE n o b) (fl_JA n o v b x)) := se_ext (fun i _ => hP i)
      show post (se_S P)
      rw [e]; exact hh
theorem fy_loop (ok : cd_Ok n o v a b) {x : Int32} (h1 : ∀ p, p < n → x = nI p → fl_R n o b p → post (se_S (fl_Lp n o b p))) (h0 : ¬ (∃ p, p < n ∧ x = nI p ∧ fl_R n o b p) → post (-1)) : wpY_loop post ((nI n), o, v, a, b) x := by
  have hn := ok.1
  unfold wpY_loop
  dsimp only
  refine fy_canReach ok (fun p hp ep hR => br_f (by decide) ?_) (fun hz => br_t rfl (h0 hz))
  subst ep
  have hh := h1 p hp rfl hR
  refine gl_pick (fun f x y => wY_loop_14 post (nI p) (nI n) o v a b f x y) n (fun r => fl_R n o b r ∧ cd_G n o b r p ∧ fl_Bf n o b p r) (fun x2 => ((x2 = 0 → (∃ n95 : Nat, wY_loop_95 post (nI p) x2 (nI n) o v a b n95 0 0)) ∧ (¬ x2 = 0 → (∀ x3_10 : Int32, x3_10 = (1 : Int32) <<< (nI p &&& 31) → (∃ n95 : Nat, wY_loop_95 post (nI p) x2 (nI n) o v a b n95 x3_10 0))))) (by omega) ?_ ?_ ?_
  · intro f x h
    exact br_t (nI_le (Nat.le_refl _) (by omega)) h
  · intro f k y hk h0 h1
    refine br_f (nI_ge hk (by omega)) (fy_canReachN ok hk (fun hR => br_f (by decide) (fy_goingOn ok hk ?_)) (fun hR => br_t rfl (br_t rfl (gl_i (h0 (fun z => hR z.1))))))
    by_cases hG : cd_G n o b k p
    · exact br_t ((se_h1 (by omega)).mpr hG) (fy_isBefore ok hp hk (fun hb => br_f (by decide) (br_f (by decide) (nm_e (gl_i (h1 ⟨hR, hG, hb⟩))))) (fun hb => br_t rfl (br_t rfl (gl_i (h0 (fun z => hb z.2.2))))))
    · exact br_f (fun z => hG ((se_h1 (by omega)).mp z)) (br_t rfl (gl_i (h0 (fun z => hG z.2.1))))
  · show (se_S (fl_Bk n o b p) = 0 → _) ∧ (¬ se_S (fl_Bk n o b p) = 0 → _)
    by_cases hB : ∃ r, fl_Bk n o b p r
    · have hnz : ¬ se_S (fl_Bk n o b p) = 0 := se_nz.mpr (hB.elim (fun r hr => ⟨r, by have := hr.1; omega, hr⟩))
      refine br_f hnz (nm_r (se_shl (by omega)) ?_)
      refine gl_col (fun f x y => wY_loop_95 post (nI p) (se_S (fl_Bk n o b p)) (nI n) o v a b f x y) n (fun q i => (fl_R n o b q ∧ ∃ r, fl_F n o b (fun j => j = q) (fun _ => False) (fun j => j = p) r ∧ fl_Bk n o b p r) ∧ i = q) post (fun i => i = p) ?_ ?_ ?_
      · intro f x h
        exact br_t (nI_le (Nat.le_refl _) (by omega)) h
      · intro f k y hk h
        refine br_f (nI_ge hk (by omega)) (br_f hnz (fy_canReachN ok hk (fun hR => br_f (by decide) (fy_flowE ok (se_shl (by omega)) se_0 (se_shl (by omega)) ?_)) (fun hR => br_t rfl (br_t rfl (gl_i (h y (se_n (fun i z => hR z.1.1))))))))
        have hb : ∀ i, fl_F n o b (fun j => j = k) (fun _ => False) (fun j => j = p) i → fl_Bk n o b p i → i < 32 := fun i _ z => by have := z.1; omega
        by_cases hm : ∃ r, fl_F n o b (fun j => j = k) (fun _ => False) (fun j => j = p) r ∧ fl_Bk n o b p r
        · exact br_f (fun z => (se_mt hb).mp z hm) (br_f (by decide) (nm_e (gl_i (h _ (se_own (by omega) ⟨hR, hm⟩)))))
        · exact br_t ((se_mt hb).mpr hm) (br_t rfl (gl_i (h y (se_n (fun i z => hm z.1.2)))))
      · have e : se_S (fl_Lp n o b p) = se_S (fun i => i = p ∨ ∃ q, q < n ∧ (fl_R n o b q ∧ ∃ r, fl_F n o b (fun j => j = q) (fun _ => False) (fun j => j = p) r ∧ fl_Bk n o b p r) ∧ i = q) := by
          refine se_ext (fun i _ => ⟨fun z => z.2.imp id (fun w => ⟨i, w.1, w.2, rfl⟩), fun z => ⟨hB, z.imp id (fun ⟨q, h1, h2, h3⟩ => ?_)⟩⟩)
          subst h3; exact ⟨h1, h2⟩
        rw [← e]; exact hh
    · have hz : se_S (fl_Bk n o b p) = 0 := se_z.mpr (fun i _ z => hB ⟨i, z⟩)
      have e : se_S (fl_Lp n o b p) = 0 := se_z.mpr (fun i _ z => hB z.1)
      rw [e] at hh
      refine br_t hz ⟨1, br_c (fun _ => hh) (fun _ => br_t hz hh)⟩
theorem fy_unset (ok : cd_Ok n o v a b) {x : Int32} (h1 : ∀ p, p < n → x = nI p → fl_R n o b p → post (se_S (fun i => i < 6 ∧ fl_Un n o v b p i))) (h0 : ¬ (∃ p, p < n ∧ x = nI p ∧ fl_R n o b p) → post (-1)) : wpY_unset post ((nI n), o, v, a, b) x := by
  have hn := ok.1
  unfold wpY_unset
  dsimp only
  refine fy_canReach ok (fun p hp ep hR => br_f (by decide) ?_) (fun hz => br_t rfl (h0 hz))
  subst ep
  refine gl_pick (fun f x y => wY_unset_14 post (nI p) (nI n) o v a b f x y) 6 (fun i => fl_Un n o v b p i) post (by omega) ?_ ?_ (h1 p hp rfl hR)
  · intro f x h
    exact br_t (nI_le (a := 6) (b := 6) (by omega) (by omega)) h
  · intro f k y hk h0 h1
    refine br_f (nI_ge (b := 6) hk (by omega)) (fy_start (fy_writers hn (fy_flowE ok rfl rfl se_0 ?_)) hn)
    by_cases hu : fl_Un n o v b p k
    · exact br_t ((se_h1 (P := fl_F n o b (fl_st n) (fl_W n o v (nI k)) (fun _ => False)) (by omega)).mpr hu) (nm_e (gl_i (h1 hu)))
    · exact br_f (fun z => hu ((se_h1 (P := fl_F n o b (fl_st n) (fl_W n o v (nI k)) (fun _ => False)) (by omega)).mp z)) (gl_i (h0 hu))
theorem fy_dead (ok : cd_Ok n o v a b) (h : post (se_S (fun d => d < n ∧ (cd_Wr o d ∧ ¬ fl_Us n o v a b d) ∧ fl_R n o b d))) : wpY_dead post ((nI n), o, v, a, b) := by
  have hn := ok.1
  unfold wpY_dead
  dsimp only
  refine gl_pick (fun f x y => wY_dead_4 post (nI n) o v a b f x y) n (fun d => (cd_Wr o d ∧ ¬ fl_Us n o v a b d) ∧ fl_R n o b d) post (by omega) ?_ ?_ h
  · intro f x h
    exact br_t (nI_le (Nat.le_refl _) (by omega)) h
  · intro f k y hk h0 h1
    refine br_f (nI_ge hk (by omega)) ⟨ix_in (by omega), ?_⟩
    have used : ∀ g j : Nat, j ≤ 20 → ¬ (cd_Wr o k ∧ ¬ fl_Us n o v a b k) → wY_dead_34 post (wY_dead_4 post (nI n) o v a b f) y (nI k) (nI n) o v a b (g + 1) 1 (nI j) := by
      intro g j hj hz
      have h88 : wY_dead_88 post (wY_dead_4 post (nI n) o v a b f) y (nI k) 1 (nI n) o v a b := br_f (by decide) (gl_i (h0 (fun z => hz z.1)))
      exact br_c (fun _ => h88) (fun _ => br_f (by decide) h88)
    refine fy_writes (fun hw => br_f (by decide) ?_) (fun hw => br_t rfl ⟨1, used 0 0 (by omega) ?_⟩)
    · rw [ix_cl (by omega : k < 20)] at hw
      obtain ⟨i, hi, ev⟩ := (ok.2 k hk).2.1 hw
      have key : ∀ d j, j + d = n → (¬ ∃ p, p < j ∧ cd_G n o b k p ∧ fl_Live n o v a b p i) → wY_dead_34 post (wY_dead_4 post (nI n) o v a b f) y (nI k) (nI n) o v a b (d + 2) 0 (nI j) := by
        intro d
        induction d with
        | zero =>
          intro j hj hu
          have ej : j = n := by omega
          subst ej
          refine br_t (nI_le (Nat.le_refl _) (by omega)) (br_t rfl (fy_canReachN ok hk (fun hR => br_f (by decide) (nm_e (gl_i (h1 ⟨⟨hw, ?_⟩, hR⟩)))) (fun hR => br_t rfl (gl_i (h0 (fun z => hR z.2))))))
          rintro ⟨p, hp, hG, i', hi', ev', hl⟩
          rw [ev] at ev'
          have := (nI_eq (by omega) (by omega)).mp ev'
          subst this
          exact hu ⟨p, hp, hG, hl⟩
        | succ d ih =>
          intro j hj hu
          refine br_f (nI_ge (by omega) (by omega)) (br_t rfl (fy_goingOn ok hk ?_))
          by_cases hG : cd_G n o b k j
          · refine br_t ((se_h1 (by omega)).mpr hG) ⟨ix_in (by omega), ?_⟩
            rw [ix_cl (by omega : k < 20), ev]
            refine fy_isLive ok (by omega) (fun hl => br_f (by decide) (gl_i (used _ _ (by omega) (fun z => z.2 ⟨j, by omega, hG, i, hi, ev, hl⟩)))) (fun hl => br_t rfl (gl_i (ih (j + 1) (by omega) ?_)))
            rintro ⟨p, hp, hG', hl'⟩
            by_cases e : p = j
            · subst e; exact hl hl'
            · exact hu ⟨p, by omega, hG', hl'⟩
          · refine br_f (fun z => hG ((se_h1 (by omega)).mp z)) (gl_i (ih (j + 1) (by omega) ?_))
            rintro ⟨p, hp, hG', hl'⟩
            by_cases e : p = j
            · subst e; exact hG hG'
            · exact hu ⟨p, by omega, hG', hl'⟩
      exact ⟨_, key n 0 (by omega) (fun z => z.elim (fun p w => by omega))⟩
    · rw [ix_cl (by omega : k < 20)] at hw
      exact fun z => z.1 hw
end
