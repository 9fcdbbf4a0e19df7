/-! find and answerAt; the four answers and unset as least sets -/
def qs_L (n : Nat) (o v a b : Nat → Int32) (Q f p : Nat) : Prop := en_L n (qs_S n o a b Q) (qs_K n o v a b Q) (qs_M n o v a b Q) (qs_T n o b Q) f p
def qs_Fo (n : Nat) (o v a b : Nat → Int32) (Q p f : Nat) : Prop := (qs_bk Q → qs_L n o v a b Q f p) ∧ (¬ qs_bk Q → (qs_L n o v a b Q f p ∧ qs_K n o v a b Q p f) ∨ qs_M n o v a b Q p f)
def qs_An (n : Nat) (o v a b : Nat → Int32) (Q p f : Nat) : Prop := ((Q = 2 ∨ Q = 3) → qs_Nms n o a b f ∧ ¬ qs_Fo n o v a b Q p f) ∧ (¬ (Q = 2 ∨ Q = 3) → qs_Fo n o v a b Q p f)
section
variable {n : Nat} {rc : Int32} {o v a b wt rd cm nx bh sd kp mk tg fa nt : Nat → Int32}
theorem cd_w1 (ok : cd_Ok n o v a b) {p i : Nat} (hp : p < n) (hi : i < 32) (h : cd_Wt o v p i) : i < 6 := by
  obtain ⟨j, hj, e⟩ := (ok.2 p hp).2.1 h.1
  have h2 := h.2
  rw [e] at h2
  have := (nI_eq (by omega) (by omega)).mp h2
  omega
theorem cd_w2 (ok : cd_Ok n o v a b) {p : Nat} (hp : p < n) : (∃ i, i < 32 ∧ cd_Wt o v p i) ↔ cd_Wr o p := by
  constructor
  · rintro ⟨i, _, h⟩; exact h.1
  · intro h
    obtain ⟨j, hj, e⟩ := (ok.2 p hp).2.1 h
    exact ⟨j, by omega, h, e⟩
theorem cd_w3 (ok : cd_Ok n o v a b) {p q : Nat} (hp : p < n) : (∃ i, i < 32 ∧ cd_Wt o v p i ∧ cd_Wt o v q i) ↔ (cd_Wr o p ∧ cd_Wr o q ∧ v q = v p) := by
  constructor
  · rintro ⟨i, _, h1, h2⟩; exact ⟨h1.1, h2.1, h2.2.trans h1.2.symm⟩
  · rintro ⟨h1, h2, e⟩
    obtain ⟨j, hj, ej⟩ := (ok.2 p hp).2.1 h1
    exact ⟨j, by omega, ⟨h1, ej⟩, h2, e.trans ej⟩
theorem cd_r1 (ok : cd_Ok n o v a b) {p i : Nat} (hp : p < n) (hi : i < 32) (h : cd_Rd o a b p i) : i < 6 := by
  rcases h with h | h
  · obtain ⟨j, hj, e⟩ := (ok.2 p hp).2.2.1 h.1
    have h2 := h.2
    rw [e] at h2
    have := (nI_eq (by omega) (by omega)).mp h2
    omega
  · obtain ⟨j, hj, e⟩ := (ok.2 p hp).2.2.2.1 h.1
    have h2 := h.2
    rw [e] at h2
    have := (nI_eq (by omega) (by omega)).mp h2
    omega
theorem cd_cr {p : Nat} (h : cd_Cp o p) : cd_Rf o p := by
  unfold cd_Rf
  rcases h with h | h <;> (rw [h]; decide)
theorem cd_s1 {e : Nat} : qs_Nms n o a b e ↔ e < n ∧ cd_Nm o a b e := by
  constructor
  · rintro ⟨p, hp, h⟩; exact ⟨by have := h.1; omega, h.2.1⟩
  · rintro ⟨he, h⟩; exact ⟨e, he, Nat.le_refl _, h, h.1, rfl, rfl, rfl⟩
theorem cd_sy {p q : Nat} (h : cd_Sm o a b p q) : cd_Sm o a b q p := by
  refine ⟨?_, h.2.1.symm, h.2.2.1.symm, h.2.2.2.symm⟩
  have := h.1
  unfold cd_Cp at this ⊢
  rw [← h.2.1]; exact this
theorem cd_s2 {e p : Nat} (hN : cd_Nm o a b e) : cd_Cm o a b p e ↔ cd_Sm o a b p e := by
  constructor
  · rintro ⟨_, _, h⟩; exact cd_sy h
  · intro h
    refine ⟨?_, hN, cd_sy h⟩
    rcases Nat.lt_or_ge p e with hl | hl
    · exact absurd h (hN.2 p hl)
    · exact hl
theorem cd_s3 (ok : cd_Ok n o v a b) {p e : Nat} (hp : p < n) (he : e < n) (hN : cd_Nm o a b e) : qs_Sp n o v a b p e ↔ cd_Sl o v a b p e := by
  constructor
  · rintro ⟨q, hq, ⟨i, hi, hr, hw⟩, hc⟩
    refine ⟨hw.1, ?_⟩
    have hs := hc.2.2
    rcases hr with hr | hr
    · left; rw [hw.2, hs.2.2.1, hr.2]
    · right; rw [hw.2, hs.2.2.2, hr.2]
  · rintro ⟨hw, hv⟩
    obtain ⟨j, hj, ej⟩ := (ok.2 p hp).2.1 hw
    refine ⟨e, he, ⟨j, by omega, ?_, hw, ej⟩, Nat.le_refl _, hN, hN.1, rfl, rfl, rfl⟩
    rw [ej] at hv
    exact hv.imp (fun z => ⟨cd_cr hN.1, z.symm⟩) (fun z => ⟨hN.1, z.symm⟩)
theorem qs_H (ok : cd_Ok n o v a b) {Q : Nat} (hQ : Q < 5) (h1 : ∀ p, p < n → sd p = se_S (qs_S n o a b Q p)) (h2 : ∀ p, p < n → kp p = se_S (qs_K n o v a b Q p)) (h3 : ∀ p, p < n → mk p = se_S (qs_M n o v a b Q p)) (h4 : ∀ p, p < n → tg p = se_S (qs_T n o b Q p)) : en_H n sd kp mk tg (qs_S n o a b Q) (qs_K n o v a b Q) (qs_M n o v a b Q) (qs_T n o b Q) := by
  have hn := ok.1
  have hcm : ∀ p f, p < n → cd_Cm o a b p f → f < 20 := fun p f hp h => by have := h.1; omega
  have hcase : Q = 0 ∨ Q = 1 ∨ Q = 2 ∨ Q = 3 ∨ Q = 4 := by omega
  refine ⟨hn, h1, h2, h3, h4, fun p f hp hf hs => ?_, fun p f hp hf hm => ?_, fun p q hp ht => ?_⟩
  · have ho := hs.2.2
    rcases hcase with e | e | e | e | e <;> subst e
    · exact ho.elim
    · exact ho.elim
    · have := (cd_s1.mp ho).1; omega
    · have := (cd_s1.mp ho).1; omega
    · have : f < 6 := ho
      omega
  · rcases hcase with e | e | e | e | e <;> subst e
    · have := hm.2; omega
    · have := cd_r1 ok hp hf hm; omega
    · obtain ⟨q, hq, _, hc⟩ := hm
      exact hcm q f hq hc
    · obtain ⟨⟨q, hq, _, hc⟩, _⟩ := hm
      exact hcm q f hq hc
    · exact hm.elim
  · by_cases hb : qs_bk Q
    · exact (ht.1 hb).2.2.2
    · exact (ht.2 hb).1
theorem fx_find {post : SX → Prop} (rel : rl_X n rc o v a b wt rd cm nx bh) {Q : Nat} (hQ : Q < 5) {x1 : Int32}
    (h : ∀ sd' kp' mk' tg' fa', en_H n sd' kp' mk' tg' (qs_S n o a b Q) (qs_K n o v a b Q) (qs_M n o v a b Q) (qs_T n o b Q) → (∀ p, p < n → fa' p = se_S (fun f => qs_L n o v a b Q f p)) → post ((nI n), rc, o, a, b, wt, rd, cm, nx, bh, sd', kp', mk', tg', fa', nt)) : wpX_find post ((nI n), rc, o, a, b, wt, rd, cm, nx, bh, sd, kp, mk, tg, fa, nt) x1 (nI Q) := by
  have ok := rel.1
  have hn := ok.1
  unfold wpX_find
  dsimp only
  refine fx_pose rel hQ (fun sd' kp' mk' tg' g1 g2 g3 g4 => ?_)
  dsimp only
  have H := qs_H ok hQ g1 g2 g3 g4
  have key : ∀ d k fa', k + d = n → (∀ p, p < k → fa' p = se_S (qs_S n o a b Q p)) → wX_find_7 post x1 (nI n) rc (d + 1) (nI k) o a b wt rd cm nx bh sd' kp' mk' tg' fa' nt := by
    intro d
    induction d with
    | zero =>
      intro k fa' hk hf
      have e : k = n := by omega
      subst e
      have hI : en_I k (qs_S k o a b Q) (qs_K k o v a b Q) (qs_M k o v a b Q) (qs_T k o b Q) fa' := ⟨fun p f hp h32 hs => (en_Fs (hf p hp)).mpr ⟨h32, hs⟩, fun p f hp z => lf_i (Or.inl ⟨hp, ((en_Fs (hf p hp)).mp z).2⟩)⟩
      refine br_t (nI_le (Nat.le_refl _) (by omega)) (br_c (fun _ => ?_) (fun _ => br_c (fun _ => ?_) (fun _ => ?_)))
      · exact fx_sweep H hI (fun fa'' g => h _ _ _ _ _ H g)
      · exact fx_queue H hI (fun fa'' g => h _ _ _ _ _ H g)
      · exact fx_spread H hf (fun fa'' g => h _ _ _ _ _ H g)
    | succ d ih =>
      intro k fa' hk hf
      have hi : vp_in (nI k) 20 := ix_in (by omega)
      refine br_f (nI_ge (by omega) (by omega)) ⟨hi, hi, ?_⟩
      rw [ix_cl (by omega : k < 20)]
      refine nm_e (gl_i (ih (k + 1) _ (by omega) (fun p hp => ?_)))
      by_cases e : p = k
      · subst e; rw [pk_us]; exact g1 p (by omega)
      · rw [pk_un e]; exact hf p (by omega)
  exact ⟨_, key n 0 fa (by omega) (fun p hp => by omega)⟩
theorem fx_answerAt {post : Int32 → Prop} (rel : rl_X n rc o v a b wt rd cm nx bh) {Q : Nat} (hQ : Q < 5) (H : en_H n sd kp mk tg (qs_S n o a b Q) (qs_K n o v a b Q) (qs_M n o v a b Q) (qs_T n o b Q)) (hfa : ∀ p, p < n → fa p = se_S (fun f => qs_L n o v a b Q f p)) {p : Nat} (hp : p < n) (h : post (se_S (qs_An n o v a b Q p))) : wpX_answerAt post ((nI n), rc, o, a, b, wt, rd, cm, nx, bh, sd, kp, mk, tg, fa, nt) (nI Q) (nI p) := by
  have hn := rel.1.1
  have hC := rel.2.2.2.2.1
  have H22 : ∀ z0 : Int32, z0 = se_S (qs_Fo n o v a b Q p) → wX_answerAt_22 post (nI Q) z0 (nI n) rc o a b wt rd cm nx bh sd kp mk tg fa nt := by
    intro z0 hz
    subst hz
    unfold wX_answerAt_22
    refine fx_asks (fun z => br_f (by decide) (fx_names hn hC ?_)) (fun z => br_t rfl ?_)
    · have z' := (qs_afI Q hQ).mp z
      rw [se_not, se_and]
      have e : se_S (qs_An n o v a b Q p) = se_S (fun f => qs_Nms n o a b f ∧ ¬ qs_Fo n o v a b Q p f) := se_ext (fun f _ => ⟨fun w => w.1 z', fun w => ⟨fun _ => w, fun nz => absurd z' nz⟩⟩)
      rw [← e]; exact h
    · have z' : ¬ (Q = 2 ∨ Q = 3) := fun w => z ((qs_afI Q hQ).mpr w)
      have e : se_S (qs_An n o v a b Q p) = se_S (qs_Fo n o v a b Q p) := se_ext (fun f _ => ⟨fun w => w.2 z', fun w => ⟨fun nz => absurd nz z', fun _ => w⟩⟩)
      rw [← e]; exact h
  unfold wpX_answerAt
  dsimp only
  refine fx_looks (fun z => br_f (by decide) ⟨ix_in (by omega), ?_⟩) (fun z => br_t rfl (fx_passedOn H hp (H22 _ ?_)))
  · rw [ix_cl (by omega : p < 20)]
    refine H22 _ ?_
    have z' : qs_bk Q := (qs_bkI Q hQ).mp z
    rw [hfa p hp]
    exact se_ext (fun f _ => ⟨fun w => ⟨fun _ => w, fun nz => absurd z' nz⟩, fun w => w.1 z'⟩)
  · have z' : ¬ qs_bk Q := fun w => z ((qs_bkI Q hQ).mpr w)
    refine se_ext (fun f hf => ?_)
    unfold en_P
    rw [en_Fs (hfa p hp)]
    exact ⟨fun w => ⟨fun nz => absurd nz z', fun _ => w.imp (fun y => ⟨y.1.2, y.2⟩) id⟩, fun w => (w.2 z').imp (fun y => ⟨⟨hf, y.1⟩, y.2⟩) id⟩
end
/-! the mathematics: what the component asks and what the reference asks are the same -/
section
variable {n : Nat} {o v a b : Nat → Int32}
theorem bk0 : qs_bk 0 := Or.inl rfl
theorem bk2 : qs_bk 2 := Or.inr (Or.inl rfl)
theorem bk4 : qs_bk 4 := Or.inr (Or.inr rfl)
theorem bk1 : ¬ qs_bk 1 := by unfold qs_bk; omega
theorem bk3 : ¬ qs_bk 3 := by unfold qs_bk; omega
theorem fl_Rs {x y : Nat} (h : fl_R n o b x) (hG : cd_G n o b x y) (hy : y < n) : fl_R n o b y := ⟨lf_s h.1 ⟨hG, id, id⟩, hy⟩
theorem fl_R0 (h : 0 < n) : fl_R n o b 0 := ⟨lf_i ⟨⟨h, rfl⟩, id⟩, h⟩
theorem ma_0 (ok : cd_Ok n o v a b) {p d : Nat} (hp : p < n) : qs_An n o v a b 0 p d ↔ fl_Rea n o v b p d := by
  have e1 : qs_An n o v a b 0 p d ↔ qs_L n o v a b 0 d p := ⟨fun z => (z.2 (by omega)).1 bk0, fun z => ⟨fun w => by omega, fun _ => ⟨fun _ => z, fun w => absurd bk0 w⟩⟩⟩
  rw [e1]
  constructor
  · intro h
    have hh := h (fun q => (d < n ∧ fl_R n o b d ∧ cd_Wr o d) ∧ fl_F n o b (cd_G n o b d) (fl_W n o v (v d)) (fun _ => False) q) ?_ ?_
    · exact ⟨hh.1.1, hh.1.2, hh.2⟩
    · rintro q (⟨_, hs⟩ | ⟨r, hr, ht, hm⟩)
      · exact hs.2.2.elim
      · obtain ⟨hR, hG, hR2⟩ := ht.1 bk0
        obtain ⟨hw, hd⟩ := hm
        subst hd
        exact ⟨⟨hr, hR, (cd_w2 ok hr).mp hw⟩, lf_i ⟨hG, id⟩⟩
    · rintro x y ⟨g1, g2⟩ ⟨hx, ht, hk⟩
      obtain ⟨hR, hG, hR2⟩ := ht.1 bk0
      refine ⟨g1, lf_s g2 ⟨hG, fun w => hk ⟨g1.1, (cd_w3 ok g1.1).mpr ⟨g1.2.2, w.2.1, w.2.2⟩⟩, id⟩⟩
  · rintro ⟨hd, ⟨hR, hW⟩, hF⟩
    refine (hF (fun q => q < n → fl_R n o b q ∧ qs_L n o v a b 0 d q) ?_ ?_ hp).2
    · rintro q ⟨hG, _⟩ hq
      have hRq := fl_Rs hR hG hq
      exact ⟨hRq, lf_i (Or.inr ⟨d, hd, ⟨fun _ => ⟨hR, hG, hRq⟩, fun w => absurd bk0 w⟩, (cd_w2 ok hd).mpr hW, rfl⟩)⟩
    · rintro x y g ⟨hG, hB, _⟩ hy
      obtain ⟨hRx, hL⟩ := g hG.1
      have hRy := fl_Rs hRx hG hy
      refine ⟨hRy, lf_s hL ⟨hG.1, ⟨fun _ => ⟨hRx, hG, hRy⟩, fun w => absurd bk0 w⟩, fun w => hB ?_⟩⟩
      obtain ⟨_, h2, h3⟩ := (cd_w3 ok hd).mp w.2
      exact ⟨hG.1, h2, h3⟩
theorem fl_pE {B : Nat → Prop} {p q : Nat} : fl_F n o b (fun j => j = p) B (fun _ => False) q ↔ lf_L (fl_E n o b B (fun _ => False)) (fun i => i = p) q := by
  unfold fl_F
  simp only [not_false_eq_true, and_true]
theorem fl_bk {B Tq : Nat → Prop} {p : Nat} : (∃ q, fl_F n o b (fun j => j = p) B (fun _ => False) q ∧ Tq q) ↔ lf_L (fun y x => fl_E n o b B (fun _ => False) x y) Tq p := by
  rw [← lf_rev]
  exact ⟨fun ⟨q, h, t⟩ => ⟨q, fl_pE.mp h, t⟩, fun ⟨q, h, t⟩ => ⟨q, fl_pE.mpr h, t⟩⟩
theorem ma_1 (ok : cd_Ok n o v a b) {p f : Nat} (hp : p < n) (hf : f < 32) : qs_An n o v a b 1 p f ↔ f < 6 ∧ fl_Live n o v a b p f := by
  have e1 : qs_An n o v a b 1 p f ↔ (qs_L n o v a b 1 f p ∧ ¬ cd_Wt o v p f) ∨ cd_Rd o a b p f := ⟨fun z => (z.2 (by omega)).2 bk1, fun z => ⟨fun w => by omega, fun _ => ⟨fun w => absurd w bk1, fun _ => z⟩⟩⟩
  have e2 : fl_Live n o v a b p f ↔ lf_L (fun y x => fl_E n o b (fl_W n o v (nI f)) (fun _ => False) x y) (fun q => q < n ∧ cd_Rd o a b q f) p := fl_bk
  rw [e1]
  constructor
  · intro h
    have hl : fl_Live n o v a b p f := by
      rw [e2]
      rcases h with ⟨h, hw⟩ | h
      · obtain ⟨r, hG, hB⟩ := h (fun q => ∃ r, cd_G n o b q r ∧ lf_L (fun y x => fl_E n o b (fl_W n o v (nI f)) (fun _ => False) x y) (fun q => q < n ∧ cd_Rd o a b q f) r) (by
          rintro q (⟨_, hs⟩ | ⟨r, hr, ht, hm⟩)
          · exact hs.2.2.elim
          · exact ⟨r, (ht.2 bk1).2, lf_i ⟨hr, hm⟩⟩) (by
          rintro x y ⟨r, hG, hB⟩ ⟨hx, ht, hk⟩
          exact ⟨x, (ht.2 bk1).2, lf_s hB ⟨hG, fun w => hk w.2, id⟩⟩)
        exact lf_s hB ⟨hG, fun w => hw w.2, id⟩
      · exact lf_i ⟨hp, h⟩
    refine ⟨?_, hl⟩
    obtain ⟨q, _, hq, hr⟩ := hl
    exact cd_r1 ok hq hf hr
  · rintro ⟨_, hl⟩
    rw [e2] at hl
    refine (hl (fun q => q < n ∧ ((qs_L n o v a b 1 f q ∧ ¬ cd_Wt o v q f) ∨ cd_Rd o a b q f)) (fun q z => ⟨z.1, Or.inr z.2⟩) ?_).2
    rintro y x ⟨hy, z⟩ ⟨hG, hB, _⟩
    have hx := hG.1
    have ht : qs_T n o b 1 y x := ⟨fun w => absurd w bk1, fun _ => ⟨hx, hG⟩⟩
    refine ⟨hx, Or.inl ⟨?_, fun w => hB ⟨hx, w⟩⟩⟩
    rcases z with ⟨hL, hw⟩ | hr
    · exact lf_s hL ⟨hy, ht, hw⟩
    · exact lf_i (Or.inr ⟨y, hy, ht, hr⟩)
theorem cd_Gc {x y : Nat} (h : cd_G n o b x y) : y < n ∨ y = 20 := by
  have hs : ∀ t, cd_sp n t < n ∨ cd_sp n t = 20 := by
    intro t
    unfold cd_sp
    by_cases g : t < n
    · rw [if_pos g]; exact Or.inl g
    · rw [if_neg g]; exact Or.inr rfl
  rcases h.2 with ⟨_, e⟩ | ⟨_, e⟩ <;> (rw [e]; exact hs _)
theorem ma_3 (ok : cd_Ok n o v a b) {p e : Nat} (hp : p < n) : qs_An n o v a b 3 p e ↔ e < n ∧ cd_Nm o a b e ∧ ¬ fl_Miss n o v a b p e := by
  have hn := ok.1
  have e1 : qs_An n o v a b 3 p e ↔ (e < n ∧ cd_Nm o a b e) ∧ ¬ ((qs_L n o v a b 3 e p ∧ ¬ cd_Cm o a b p e) ∨ (qs_Sp n o v a b p e ∧ ¬ cd_Cm o a b p e)) := by
    rw [← cd_s1 (n := n)]
    constructor
    · intro z
      have w := z.1 (Or.inr rfl)
      exact ⟨w.1, fun y => w.2 ⟨fun g => absurd g bk3, fun _ => y⟩⟩
    · intro z
      exact ⟨fun _ => ⟨z.1, fun y => z.2 (y.2 bk3)⟩, fun w => absurd (Or.inr rfl) w⟩
  rw [e1, and_assoc]
  refine and_congr_right fun he => and_congr_right fun hN => not_congr ?_
  have e2 : fl_Miss n o v a b p e ↔ lf_L (fun y x => fl_E n o b (fun q => q < n ∧ cd_Sm o a b q e) (fun _ => False) x y) (fun q => q = 20 ∨ (q < n ∧ ¬ cd_Sm o a b q e ∧ cd_Sl o v a b q e)) p := fl_bk
  rw [e2]
  have hnm : qs_Nms n o a b e := cd_s1.mpr ⟨he, hN⟩
  constructor
  · rintro (⟨h, hc⟩ | ⟨h, hc⟩)
    · obtain ⟨r, hG, hB⟩ := h (fun q => ∃ r, cd_G n o b q r ∧ lf_L (fun y x => fl_E n o b (fun q => q < n ∧ cd_Sm o a b q e) (fun _ => False) x y) (fun q => q = 20 ∨ (q < n ∧ ¬ cd_Sm o a b q e ∧ cd_Sl o v a b q e)) r) (by
        rintro q (⟨_, hs⟩ | ⟨r, hr, ht, hm⟩)
        · exact ⟨20, hs.2.1 bk3, lf_i (Or.inl rfl)⟩
        · exact ⟨r, (ht.2 bk3).2, lf_i (Or.inr ⟨hr, fun w => hm.2 ((cd_s2 hN).mpr w), (cd_s3 ok hr he hN).mp hm.1⟩)⟩) (by
        rintro x y ⟨r, hG, hB⟩ ⟨hx, ht, hk⟩
        exact ⟨x, (ht.2 bk3).2, lf_s hB ⟨hG, fun w => hk ((cd_s2 hN).mpr w.2), id⟩⟩)
      exact lf_s hB ⟨hG, fun w => hc ((cd_s2 hN).mpr w.2), id⟩
    · exact lf_i (Or.inr ⟨hp, fun w => hc ((cd_s2 hN).mpr w), (cd_s3 ok hp he hN).mp h⟩)
  · intro hl
    refine hl (fun q => q < n → ((qs_L n o v a b 3 e q ∧ ¬ cd_Cm o a b q e) ∨ (qs_Sp n o v a b q e ∧ ¬ cd_Cm o a b q e))) ?_ ?_ hp
    · rintro q (z | z) hq
      · omega
      · exact Or.inr ⟨(cd_s3 ok hq he hN).mpr z.2.2, fun w => z.2.1 ((cd_s2 hN).mp w)⟩
    · rintro y x g ⟨hG, hB, _⟩ hx
      refine Or.inl ⟨?_, fun w => hB ⟨hx, (cd_s2 hN).mp w⟩⟩
      have ht : qs_T n o b 3 y x := ⟨fun w => absurd w bk3, fun _ => ⟨hx, hG⟩⟩
      rcases cd_Gc hG with hy | hy
      · rcases g hy with ⟨hL, hc⟩ | hs
        · exact lf_s hL ⟨hy, ht, hc⟩
        · exact lf_i (Or.inr ⟨y, hy, ht, hs⟩)
      · subst hy
        exact lf_i (Or.inl ⟨hx, fun w => absurd w bk3, fun _ => hG, hnm⟩)
theorem ma_4 (_ : cd_Ok n o v a b) {p f : Nat} (hp : p < n) : qs_An n o v a b 4 p f ↔ f < 6 ∧ fl_Un n o v b p f := by
  have e1 : qs_An n o v a b 4 p f ↔ qs_L n o v a b 4 f p := ⟨fun z => (z.2 (by omega)).1 bk4, fun z => ⟨fun w => by omega, fun _ => ⟨fun _ => z, fun w => absurd bk4 w⟩⟩⟩
  rw [e1]
  constructor
  · intro h
    refine h (fun q => f < 6 ∧ fl_Un n o v b q f) ?_ ?_
    · rintro q (⟨hq, hs⟩ | ⟨r, hr, ht, hm⟩)
      · have e := hs.1 bk4
        subst e
        exact ⟨hs.2.2, lf_i ⟨⟨hq, rfl⟩, id⟩⟩
      · exact hm.elim
    · rintro x y ⟨g1, g2⟩ ⟨hx, ht, hk⟩
      exact ⟨g1, lf_s g2 ⟨(ht.1 bk4).2.1, fun w => hk w.2, id⟩⟩
  · rintro ⟨h6, h⟩
    refine (h (fun q => q < n → fl_R n o b q ∧ qs_L n o v a b 4 f q) ?_ ?_ hp).2
    · rintro q ⟨⟨h0, e⟩, _⟩ hq
      subst e
      exact ⟨fl_R0 h0, lf_i (Or.inl ⟨h0, fun _ => rfl, fun w => absurd bk4 w, h6⟩)⟩
    · rintro x y g ⟨hG, hB, _⟩ hy
      obtain ⟨hRx, hL⟩ := g hG.1
      have hRy := fl_Rs hRx hG hy
      exact ⟨hRy, lf_s hL ⟨hG.1, ⟨fun _ => ⟨hRx, hG, hRy⟩, fun w => absurd bk4 w⟩, fun w => hB ⟨hG.1, w⟩⟩⟩
theorem wo_R {e r : Nat} (h : fl_R n o b r) : wo_L n o v a b e (2 * r) ∨ wo_L n o v a b e (2 * r + 1) := by
  refine h.1 (fun r => wo_L n o v a b e (2 * r) ∨ wo_L n o v a b e (2 * r + 1)) ?_ ?_
  · rintro i ⟨⟨h0, e⟩, _⟩
    subst e
    exact Or.inl (lf_i ⟨h0, rfl⟩)
  · rintro x y g ⟨hG, _⟩
    have m1 : (2 * x) / 2 = x := by omega
    have m2 : (2 * x + 1) / 2 = x := by omega
    have m3 : (2 * y) / 2 = y := by omega
    have m4 : (2 * y + 1) / 2 = y := by omega
    rcases g with g | g
    · by_cases hg : cd_Sm o a b x e ∧ ¬ cd_Sl o v a b x e
      · exact Or.inr (lf_s g ⟨by rw [m1, m4]; exact hG, fun w => by omega, fun _ => Or.inl ⟨by omega, by rw [m1]; exact hg⟩⟩)
      · exact Or.inl (lf_s g ⟨by rw [m1, m3]; exact hG, fun _ => Or.inl ⟨by omega, by rw [m1]; exact hg⟩, fun w => by omega⟩)
    · by_cases hg : cd_Sl o v a b x e
      · exact Or.inl (lf_s g ⟨by rw [m2, m3]; exact hG, fun _ => Or.inr ⟨by omega, by rw [m2]; exact hg⟩, fun w => by omega⟩)
      · exact Or.inr (lf_s g ⟨by rw [m2, m4]; exact hG, fun w => by omega, fun _ => Or.inr ⟨by omega, by rw [m2]; exact hg⟩⟩)
theorem ma_2 (ok : cd_Ok n o v a b) {p e : Nat} (hp : p < n) : qs_An n o v a b 2 p e ↔ e < n ∧ cd_Nm o a b e ∧ ¬ wo_L n o v a b e (2 * p) := by
  have e1 : qs_An n o v a b 2 p e ↔ (e < n ∧ cd_Nm o a b e) ∧ ¬ qs_L n o v a b 2 e p := by
    rw [← cd_s1 (n := n)]
    constructor
    · intro z
      have w := z.1 (Or.inl rfl)
      exact ⟨w.1, fun y => w.2 ⟨fun _ => y, fun g => absurd bk2 g⟩⟩
    · intro z
      exact ⟨fun _ => ⟨z.1, fun y => z.2 (y.1 bk2)⟩, fun w => absurd (Or.inl rfl) w⟩
  rw [e1, and_assoc]
  refine and_congr_right fun he => and_congr_right fun hN => not_congr ?_
  have hnm : qs_Nms n o a b e := cd_s1.mpr ⟨he, hN⟩
  constructor
  · intro h
    refine h (fun q => wo_L n o v a b e (2 * q)) ?_ ?_
    · rintro q (⟨hq, hs⟩ | ⟨r, hr, ht, hm⟩)
      · have e := hs.1 bk2
        subst e
        exact lf_i ⟨hq, rfl⟩
      · obtain ⟨hR, hG, _⟩ := ht.1 bk2
        have hl := (cd_s3 ok hr he hN).mp hm
        have m1 : (2 * r) / 2 = r := by omega
        have m2 : (2 * r + 1) / 2 = r := by omega
        have m3 : (2 * q) / 2 = q := by omega
        rcases wo_R (v := v) (a := a) (e := e) hR with g | g
        · exact lf_s g ⟨by rw [m1, m3]; exact hG, fun _ => Or.inl ⟨by omega, by rw [m1]; exact fun w => w.2 hl⟩, fun w => by omega⟩
        · exact lf_s g ⟨by rw [m2, m3]; exact hG, fun _ => Or.inr ⟨by omega, by rw [m2]; exact hl⟩, fun w => by omega⟩
    · rintro x y g ⟨hx, ht, hk⟩
      have hG := (ht.1 bk2).2.1
      have m1 : (2 * x) / 2 = x := by omega
      have m3 : (2 * y) / 2 = y := by omega
      exact lf_s g ⟨by rw [m1, m3]; exact hG, fun _ => Or.inl ⟨by omega, by rw [m1]; exact fun w => hk ((cd_s2 hN).mpr w.1)⟩, fun w => by omega⟩
  · intro h
    have hh := h (fun x => x / 2 < n → fl_R n o b (x / 2) ∧ (x % 2 = 0 → qs_L n o v a b 2 e (x / 2))) ?_ ?_
    · have m1 : (2 * p) / 2 = p := by omega
      rw [m1] at hh
      exact (hh hp).2 (by omega)
    · rintro x ⟨h0, e0⟩ hx
      subst e0
      exact ⟨fl_R0 h0, fun _ => lf_i (Or.inl ⟨h0, fun _ => rfl, fun w => absurd bk2 w, hnm⟩)⟩
    · rintro x y g ⟨hG, hE, _⟩ hy
      obtain ⟨hRx, hL⟩ := g hG.1
      have hRy := fl_Rs hRx hG hy
      have ht : qs_T n o b 2 (x / 2) (y / 2) := ⟨fun _ => ⟨hRx, hG, hRy⟩, fun w => absurd bk2 w⟩
      refine ⟨hRy, fun hy0 => ?_⟩
      have viaS : cd_Sl o v a b (x / 2) e → qs_L n o v a b 2 e (y / 2) := fun hs => lf_i (Or.inr ⟨x / 2, hG.1, ht, (cd_s3 ok hG.1 he hN).mpr hs⟩)
      rcases hE hy0 with ⟨hx0, hg⟩ | ⟨_, hs⟩
      · by_cases hs : cd_Sl o v a b (x / 2) e
        · exact viaS hs
        · exact lf_s (hL hx0) ⟨hG.1, ht, fun w => hg ⟨(cd_s2 hN).mp w, hs⟩⟩
      · exact viaS hs
end
