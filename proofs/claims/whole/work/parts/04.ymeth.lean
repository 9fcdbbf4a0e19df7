/-! the reference's methods, each by its set -/
theorem gl_pick (W : Nat → Int32 → Int32 → Prop) (n : Nat) (c : Nat → Prop) (post : Int32 → Prop) (hn : n ≤ 32)
    (hx : ∀ f x, post x → W (f + 1) x (nI n))
    (hs : ∀ f k x, k < n → (¬ c k → W f x (nI (k + 1))) → (c k → W f (x ||| ((1 : Int32) <<< (nI k &&& 31))) (nI (k + 1))) → W (f + 1) x (nI k))
    (hp : post (se_S (fun i => i < n ∧ c i))) : ∃ f, W f 0 0 := by
  refine gl_col0 W n (fun k i => c k ∧ i = k) post hx ?_ ?_
  · intro f k x hk h
    refine hs f k x hk (fun hc => h _ (se_n (fun i z => hc z.1))) (fun hc => h _ (se_own (by omega) hc))
  · have e : se_S (fun i => ∃ p, p < n ∧ c p ∧ i = p) = se_S (fun i => i < n ∧ c i) :=
      se_ext (fun i _ => ⟨fun ⟨p, h1, h2, h3⟩ => by subst h3; exact ⟨h1, h2⟩, fun z => ⟨i, z.1, z.2, rfl⟩⟩)
    rw [e]; exact hp
theorem gl_un (W : Nat → Int32 → Int32 → Prop) (n : Nat) (c : Nat → Prop) (N : Nat → Nat → Prop) (post : Int32 → Prop)
    (hx : ∀ f x, post x → W (f + 1) x (nI n))
    (hs : ∀ f k x, k < n → (¬ c k → W f x (nI (k + 1))) → (c k → ∀ y, y = x ||| se_S (N k) → W f y (nI (k + 1))) → W (f + 1) x (nI k))
    (hp : post (se_S (fun i => ∃ p, p < n ∧ c p ∧ N p i))) : ∃ f, W f 0 0 := by
  refine gl_col0 W n (fun k i => c k ∧ N k i) post hx ?_ hp
  intro f k x hk h
  refine hs f k x hk (fun hc => h _ (se_n (fun i z => hc z.1))) (fun hc y ey => h y ?_)
  rw [ey]; exact se_set hc rfl
theorem se_mt {P Q : Nat → Prop} (h : ∀ i, P i → Q i → i < 32) : (se_S P &&& se_S Q) = 0 ↔ ¬ ∃ i, P i ∧ Q i := by
  rw [se_and, se_z]
  exact ⟨fun z w => w.elim (fun i hi => z i (h i hi.1 hi.2) hi), fun z i _ hi => z ⟨i, hi⟩⟩
def fl_st (n : Nat) (i : Nat) : Prop := 0 < n ∧ i = 0
def fl_W (n : Nat) (o v : Nat → Int32) (x : Int32) (p : Nat) : Prop := p < n ∧ cd_Wr o p ∧ v p = x
def fl_Live (n : Nat) (o v a b : Nat → Int32) (p i : Nat) : Prop := ∃ q, fl_F n o b (fun j => j = p) (fl_W n o v (nI i)) (fun _ => False) q ∧ q < n ∧ cd_Rd o a b q i
def fl_Rea (n : Nat) (o v : Nat → Int32) (b : Nat → Int32) (p d : Nat) : Prop := d < n ∧ (fl_R n o b d ∧ cd_Wr o d) ∧ fl_F n o b (cd_G n o b d) (fl_W n o v (v d)) (fun _ => False) p
def fl_Miss (n : Nat) (o v a b : Nat → Int32) (p e : Nat) : Prop := ∃ q, fl_F n o b (fun j => j = p) (fun q => q < n ∧ cd_Sm o a b q e) (fun _ => False) q ∧ (q = 20 ∨ (q < n ∧ ¬ cd_Sm o a b q e ∧ cd_Sl o v a b q e))
def fl_Bf (n : Nat) (o b : Nat → Int32) (q p : Nat) : Prop := ¬ fl_F n o b (fl_st n) (fun _ => False) (fun i => i = q) p
def fl_Fr (n : Nat) (o b : Nat → Int32) (p i : Nat) : Prop := (∃ r, r < n ∧ (fl_R n o b r ∧ fl_Bf n o b p r) ∧ cd_G n o b r i) ∧ ¬ (i < n ∧ i ≠ p ∧ fl_Bf n o b p i) ∧ fl_R n o b i
def fl_End (n : Nat) (o b : Nat → Int32) (C : Nat → Prop) (p : Nat) : Prop := fl_F n o b (fun j => j = p) (fun _ => False) C 20
def fl_Bk (n : Nat) (o b : Nat → Int32) (h r : Nat) : Prop := r < n ∧ (fl_R n o b r ∧ cd_G n o b r h ∧ fl_Bf n o b h r)
def fl_Un (n : Nat) (o v b : Nat → Int32) (p i : Nat) : Prop := fl_F n o b (fl_st n) (fl_W n o v (nI i)) (fun _ => False) p
section
variable {n : Nat} {o v a b : Nat → Int32} {post : Int32 → Prop}
theorem fy_start (h : post (se_S (fl_st n))) (hn : n ≤ 20) : wpY_start post ((nI n), o, v, a, b) := by
  by_cases h0 : n = 0
  · subst h0
    refine br_t (nI_le (a := 0) (b := 0) (by omega) (by omega)) ?_
    have e : se_S (fl_st 0) = 0 := se_z.mpr (fun i _ z => absurd z.1 (by omega))
    rw [← e]; exact h
  · refine br_f (nI_ge (a := 0) (by omega) (by omega)) ?_
    have e : se_S (fl_st n) = 1 := by
      rw [se_1]; exact se_ext (fun i _ => ⟨fun z => z.2, fun z => ⟨by omega, z⟩⟩)
    rw [← e]; exact h
theorem fy_code (hn : n ≤ 20) (h : post (se_S (fun i => i < n))) : wpY_code post ((nI n), o, v, a, b) := by
  unfold wpY_code
  dsimp only
  rw [se_all hn]; exact h
theorem fy_flowE (ok : cd_Ok n o v a b) {x y z : Int32} {A B C : Nat → Prop} (hA : x = se_S A) (hB : y = se_S B) (hC : z = se_S C) (h : post (se_S (fl_F n o b A B C))) : wpY_flow post ((nI n), o, v, a, b) x y z := by
  subst hA hB hC
  exact fy_flow ok h
theorem fy_reachable (ok : cd_Ok n o v a b) (h : post (se_S (fl_R n o b))) : wpY_reachable post ((nI n), o, v, a, b) := by
  unfold wpY_reachable
  dsimp only
  refine fy_start (fy_flowE ok rfl se_0 se_0 (fy_code ok.1 ?_)) ok.1
  rw [se_and]; exact h
theorem fy_in (hn : n ≤ 20) {x : Int32} (h1 : ∀ p, p < n → x = nI p → post 1) (h0 : (∀ p, p < n → x ≠ nI p) → post 0) : wpY_in post ((nI n), o, v, a, b) x := by
  rcases ix_c x hn with ⟨p, hp, e⟩ | ⟨h, g⟩
  · subst e
    exact br_f (nI_pos (by omega)) (br_f (nI_ge hp (by omega)) (h1 p hp rfl))
  · rcases h with h | h
    · exact br_t h (h0 g)
    · exact br_f h.1 (br_t h.2 (h0 g))
theorem fy_canReachN (ok : cd_Ok n o v a b) {p : Nat} (hp : p < n) (h1 : fl_R n o b p → post 1) (h0 : ¬ fl_R n o b p → post 0) : wpY_canReach post ((nI n), o, v, a, b) (nI p) := by
  have hn := ok.1
  unfold wpY_canReach
  dsimp only
  refine fy_in ok.1 (fun q hq e => br_f (by decide) (fy_reachable ok ?_)) (fun g => absurd rfl (g p hp))
  by_cases hR : fl_R n o b p
  · exact br_t ((se_h1 (by omega)).mpr hR) (h1 hR)
  · exact br_f (fun z => hR ((se_h1 (by omega)).mp z)) (h0 hR)
theorem fy_canReach (ok : cd_Ok n o v a b) {x : Int32} (h1 : ∀ p, p < n → x = nI p → fl_R n o b p → post 1) (h0 : ¬ (∃ p, p < n ∧ x = nI p ∧ fl_R n o b p) → post 0) : wpY_canReach post ((nI n), o, v, a, b) x := by
  rcases ix_c x ok.1 with ⟨p, hp, e⟩ | ⟨h, g⟩
  · subst e
    have hn := ok.1
    refine fy_canReachN ok hp (h1 p hp rfl) (fun hR => h0 ?_)
    rintro ⟨q, hq, e, z⟩
    have := (nI_eq (by omega) (by omega)).mp e
    subst this
    exact hR z
  · unfold wpY_canReach
    dsimp only
    refine fy_in ok.1 (fun q hq e => absurd e (g q hq)) (fun _ => br_t rfl (h0 ?_))
    rintro ⟨q, hq, e, z⟩
    exact g q hq e
theorem fy_engine {u : SY} {x : Int32} (h1 : cd_Eg x → post 1) (h0 : ¬ cd_Eg x → post 0) : wpY_engine post u x := by
  obtain ⟨_, _, _, _, _⟩ := u
  exact br_c (fun h => h0 (fun z => z.1 h)) (fun h => br_c (fun g => h0 (fun z => z.2 g)) (fun g => h1 ⟨h, g⟩))
theorem fy_writers (hn : n ≤ 20) {x : Int32} (h : post (se_S (fl_W n o v x))) : wpY_writers post ((nI n), o, v, a, b) x := by
  unfold wpY_writers
  dsimp only
  refine gl_pick (fun f x1 y => wY_writers_4 post x (nI n) o v a b f x1 y) n (fun p => cd_Wr o p ∧ v p = x) post (by omega) ?_ ?_ h
  · intro f x h
    exact br_t (nI_le (Nat.le_refl _) (by omega)) h
  · intro f k y hk h0 h1
    refine br_f (nI_ge hk (by omega)) ⟨ix_in (by omega), ?_⟩
    rw [ix_cl (by omega : k < 20)]
    refine fy_writes (fun hw => br_f (by decide) ⟨ix_in (by omega), ?_⟩) (fun hw => br_t rfl (gl_i (h0 (fun z => z.1 hw))))
    exact br_c (fun hv => nm_e (gl_i (h1 ⟨hw, hv⟩))) (fun hv => gl_i (h0 (fun z => hv z.2)))
theorem fy_readers (ok : cd_Ok n o v a b) {i : Nat} (h : post (se_S (fun p => p < n ∧ cd_Rd o a b p i))) : wpY_readers post ((nI n), o, v, a, b) (nI i) := by
  have hn := ok.1
  unfold wpY_readers
  dsimp only
  refine gl_pick (fun f x1 y => wY_readers_4 post (nI i) (nI n) o v a b f x1 y) n (fun p => cd_Rd o a b p i) post (by omega) ?_ ?_ h
  · intro f x h
    exact br_t (nI_le (Nat.le_refl _) (by omega)) h
  · intro f k y hk h0 h1
    obtain ⟨hop, _⟩ := ok.2 k hk
    have H35 : ¬ (cd_Rf o k ∧ a k = nI i) → wY_readers_35 post (wY_readers_4 post (nI i) (nI n) o v a b f) (nI i) y (nI k) (nI n) o v a b := by
      intro hr
      refine ⟨ix_in (by omega), ?_⟩
      rw [ix_cl (by omega : k < 20)]
      refine fy_computes (fun hc => br_f (by decide) ⟨ix_in (by omega), br_c (fun hb => br_f (by decide) (nm_e (gl_i (h1 (Or.inr ⟨hc, hb⟩))))) (fun hb => br_t rfl (gl_i (h0 (fun z => z.elim hr (fun w => hb w.2)))))⟩) (fun hc => br_t rfl (br_t rfl (gl_i (h0 (fun z => z.elim hr (fun w => hc w.1))))))
    refine br_f (nI_ge hk (by omega)) ⟨ix_in (by omega), ?_⟩
    rw [ix_cl (by omega : k < 20)]
    refine fy_readsFirst hop.1 hop.2 (fun hr => br_f (by decide) ⟨ix_in (by omega), br_c (fun ha => br_f (by decide) (nm_e (gl_i (h1 (Or.inl ⟨hr, ha⟩))))) (fun ha => H35 (fun z => ha z.2))⟩) (fun hr => br_t rfl (H35 (fun z => hr z.1)))
theorem fy_isLive (ok : cd_Ok n o v a b) {p i : Nat} (hp : p < n) (h1 : fl_Live n o v a b p i → post 1) (h0 : ¬ fl_Live n o v a b p i → post 0) : wpY_isLive post ((nI n), o, v, a, b) (nI p) (nI i) := by
  have hn := ok.1
  unfold wpY_isLive
  dsimp only
  refine fy_writers hn (fy_flowE ok (se_shl (by omega)) rfl se_0 (fy_readers ok ?_))
  by_cases hl : fl_Live n o v a b p i
  · refine br_f (fun z => (se_mt (fun i _ z => ?_)).mp z hl) (h1 hl)
    have := z.1
    omega
  · refine br_t ((se_mt (fun i _ z => ?_)).mpr hl) (h0 hl)
    have := z.1
    omega
theorem fy_live (ok : cd_Ok n o v a b) {x1 x2 : Int32} (h1 : cd_Eg x1 → ∀ p, p < n → x2 = nI p → post (se_S (fun i => i < 6 ∧ fl_Live n o v a b p i))) (h0 : ¬ (cd_Eg x1 ∧ ∃ p, p < n ∧ x2 = nI p) → post (-1)) : wpY_live post ((nI n), o, v, a, b) x1 x2 := by
  have hn := ok.1
  unfold wpY_live
  dsimp only
  refine fy_engine (fun he => br_f (by decide) (fy_in hn (fun p hp ep => br_f (by decide) ?_) (fun hz => br_t rfl (h0 (fun z => z.2.elim (fun q hq => hz q hq.1 hq.2)))))) (fun he => br_t rfl (h0 (fun z => he z.1)))
  subst ep
  refine gl_pick (fun f x y => wY_live_23 post (nI p) (nI n) o v a b f x y) 6 (fun i => fl_Live n o v a b p i) post (by omega) ?_ ?_ (h1 he p hp rfl)
  · intro f x h
    exact br_t (nI_le (a := 6) (b := 6) (by omega) (by omega)) h
  · intro f k y hk h0 h1
    refine br_f (nI_ge (b := 6) hk (by omega)) ?_
    refine fy_isLive ok hp (fun hl => br_f (by decide) (nm_e (gl_i (h1 hl)))) (fun hl => br_t rfl (gl_i (h0 hl)))
theorem fy_reaching (ok : cd_Ok n o v a b) {x1 x2 : Int32} (h1 : cd_Eg x1 → ∀ p, p < n → x2 = nI p → fl_R n o b p → post (se_S (fl_Rea n o v b p))) (h0 : ¬ (cd_Eg x1 ∧ ∃ p, p < n ∧ x2 = nI p ∧ fl_R n o b p) → post (-1)) : wpY_reaching post ((nI n), o, v, a, b) x1 x2 := by
  have hn := ok.1
  unfold wpY_reaching
  dsimp only
  refine fy_engine (fun he => br_f (by decide) (fy_canReach ok (fun p hp ep hR => br_f (by decide) ?_) (fun hz => br_t rfl (h0 (fun z => hz z.2))))) (fun he => br_t rfl (h0 (fun z => he z.1)))
  subst ep
  have hh := h1 he p hp rfl hR
  refine gl_pick (fun f x y => wY_reaching_23 post (nI p) (nI n) o v a b f x y) n (fun d => (fl_R n o b d ∧ cd_Wr o d) ∧ fl_F n o b (cd_G n o b d) (fl_W n o v (v d)) (fun _ => False) p) post (by omega) ?_ ?_ hh
  · intro f x h
    exact br_t (nI_le (Nat.le_refl _) (by omega)) h
  · intro f k y hk h0 h1
    refine br_f (nI_ge hk (by omega)) (fy_canReachN ok hk (fun hR => br_f (by decide) ⟨ix_in (by omega), ?_⟩) (fun hR => br_t rfl (gl_i (h0 (fun z => hR z.1.1)))))
    rw [ix_cl (by omega : k < 20)]
    refine fy_writes (fun hw => br_f (by decide) (fy_goingOn ok hk ⟨ix_in (by omega), fy_writers hn (fy_flowE ok rfl rfl se_0 ?_)⟩)) (fun hw => br_t rfl (gl_i (h0 (fun z => z.1.2 hw))))
    by_cases hf : fl_F n o b (cd_G n o b k) (fl_W n o v (v k)) (fun _ => False) p
    · exact br_t ((se_h1 (by omega)).mpr hf) (nm_e (gl_i (h1 ⟨⟨hR, hw⟩, hf⟩)))
    · exact br_f (fun z => hf ((se_h1 (by omega)).mp z)) (gl_i (h0 (fun z => hf z.2)))
end
