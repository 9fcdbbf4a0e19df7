/-! the relation; emit and drop -/
def cd_Cm (o a b : Nat → Int32) (p i : Nat) : Prop := i ≤ p ∧ cd_Nm o a b i ∧ cd_Sm o a b i p
def rl_X (n : Nat) (rc : Int32) (o v a b wt rd cm nx bh : Nat → Int32) : Prop := cd_Ok n o v a b ∧ rc = se_S (fl_R n o b) ∧ (∀ p, p < n → wt p = se_S (cd_Wt o v p)) ∧ (∀ p, p < n → rd p = se_S (cd_Rd o a b p)) ∧ (∀ p, p < n → cm p = se_S (cd_Cm o a b p)) ∧ (∀ p, p < n → nx p = se_S (cd_G n o b p)) ∧ (∀ p, p < n → bh p = se_S (fun i => fl_R n o b i ∧ fl_Bf n o b p i))
def rl_V (x1 x2 x3 x4 : Int32) : Prop := (¬ x1 < 0 ∧ x1 ≤ 6) ∧ (¬ 3 < x1 → ¬ x2 < 0 ∧ ¬ 5 < x2) ∧ ((¬ x1 = 0 ∧ ¬ x1 = 5) → ¬ x3 < 0 ∧ ¬ 5 < x3) ∧ ((x1 = 2 ∨ x1 = 3) → ¬ x4 < 0 ∧ ¬ 5 < x4) ∧ ((x1 = 5 ∨ x1 = 6) → ¬ x4 < 0 ∧ ¬ 20 < x4)
theorem ix_56 {x : Int32} : ¬ 6 ≤ x ↔ ¬ 5 < x := by
  rw [Int32.le_iff_toInt_le, Int32.lt_iff_toInt_lt]
  have e1 : (6 : Int32).toInt = 6 := by decide
  have e2 : (5 : Int32).toInt = 5 := by decide
  rw [e1, e2]
  omega
theorem ix_2021 {x : Int32} : x ≤ 20 ↔ ¬ 20 < x := by
  rw [Int32.not_lt]
theorem ix_v5 {x : Int32} (h : ¬ x < 0 ∧ ¬ 5 < x) : ∃ i, i < 6 ∧ x = nI i := by
  obtain ⟨j, hj, e⟩ := nI_of2 (x := x) (M := 5) (n := 5) (by decide) h.1 (Int32.not_lt.mp h.2)
  exact ⟨j, by omega, e⟩
theorem ix_v20 {x : Int32} (h : ¬ x < 0 ∧ ¬ 20 < x) : ∃ i, i ≤ 20 ∧ x = nI i :=
  nI_of2 (x := x) (M := 20) (n := 20) (by decide) h.1 (Int32.not_lt.mp h.2)
theorem ix_j : ∀ j, j < 7 → (¬ nI j < 5 ↔ (nI j = 5 ∨ nI j = 6)) := by decide +kernel
section
variable {n : Nat} {rc : Int32} {o v a b wt rd cm nx bh sd kp mk tg fa nt : Nat → Int32}
theorem fx_leastLike {post : Int32 → Prop} {p : Nat} (hp : p < 20) (h : ∀ q, q ≤ p → (o q = o p ∧ a q = a p ∧ b q = b p) → (∀ j, j < q → ¬ (o j = o p ∧ a j = a p ∧ b j = b p)) → post (nI q)) : wpX_leastLike post ((nI n), rc, o, a, b, wt, rd, cm, nx, bh, sd, kp, mk, tg, fa, nt) (nI p) := by
  unfold wpX_leastLike
  dsimp only
  have key : ∀ d k, k + d = p → (∀ j, j < k → ¬ (o j = o p ∧ a j = a p ∧ b j = b p)) → wX_leastLike_2 post (nI p) (nI n) rc o a b wt rd cm nx bh sd kp mk tg fa nt (d + 1) (nI k) := by
    intro d
    induction d with
    | zero =>
      intro k hk hu
      have e : k = p := by omega
      subst e
      exact br_t (nI_le (Nat.le_refl _) (by omega)) (h k (Nat.le_refl _) ⟨rfl, rfl, rfl⟩ hu)
    | succ d ih =>
      intro k hk hu
      have i1 : vp_in (nI k) 20 := ix_in (by omega)
      have i2 : vp_in (nI p) 20 := ix_in (by omega)
      have next : ¬ (o k = o p ∧ a k = a p ∧ b k = b p) → wX_leastLike_2 post (nI p) (nI n) rc o a b wt rd cm nx bh sd kp mk tg fa nt (d + 1) (nI (k + 1)) := by
        intro hne
        refine ih (k + 1) (by omega) (fun j hj => ?_)
        by_cases e : j = k
        · subst e; exact hne
        · exact hu j (by omega)
      refine br_f (nI_ge (by omega) (by omega)) ⟨i1, i2, ?_⟩
      rw [ix_cl (by omega : k < 20), ix_cl hp]
      refine br_c (fun e1 => ⟨i1, i2, br_c (fun e2 => ⟨i1, i2, br_c (fun e3 => h k (by omega) ⟨e1, e2, e3⟩ hu) (fun e3 => gl_i (next (fun z => e3 z.2.2)))⟩) (fun e2 => gl_i (next (fun z => e2 z.2.1)))⟩) (fun e1 => gl_i (next (fun z => e1 z.1)))
  exact ⟨_, key p 0 (by omega) (fun j hj => by omega)⟩
theorem cd_Cm1 {p q : Nat} (hc : cd_Cp o p) (hq : q ≤ p) (h1 : o q = o p ∧ a q = a p ∧ b q = b p) (h2 : ∀ j, j < q → ¬ (o j = o p ∧ a j = a p ∧ b j = b p)) (i : Nat) : i = q ↔ cd_Cm o a b p i := by
  constructor
  · intro e
    subst e
    have hci : cd_Cp o i := by unfold cd_Cp; rw [h1.1]; exact hc
    refine ⟨hq, ⟨hci, fun j hj hs => h2 j hj ⟨hs.2.1.trans h1.1, hs.2.2.1.trans h1.2.1, hs.2.2.2.trans h1.2.2⟩⟩, hci, h1⟩
  · rintro ⟨hip, ⟨hci, hm⟩, hs⟩
    rcases Nat.lt_trichotomy i q with hl | hl | hl
    · exact absurd hs.2 (h2 i hl)
    · exact hl
    · refine absurd ?_ (hm q hl)
      have hcq : cd_Cp o q := by unfold cd_Cp; rw [h1.1]; exact hc
      exact ⟨hcq, h1.1.trans hs.2.1.symm, h1.2.1.trans hs.2.2.1.symm, h1.2.2.trans hs.2.2.2.symm⟩
theorem cd_Cm0 {p : Nat} (hc : ¬ cd_Cp o p) (i : Nat) : ¬ cd_Cm o a b p i := by
  rintro ⟨_, _, hs⟩
  refine hc ?_
  have := hs.1
  unfold cd_Cp at this ⊢
  rw [← hs.2.1]; exact this
theorem cd_Smc {o' a' b' : Nat → Int32} {i p : Nat} (hi : o' i = o i ∧ a' i = a i ∧ b' i = b i) (hp : o' p = o p ∧ a' p = a p ∧ b' p = b p) : cd_Sm o' a' b' i p ↔ cd_Sm o a b i p := by
  unfold cd_Sm cd_Cp
  rw [hi.1, hi.2.1, hi.2.2, hp.1, hp.2.1, hp.2.2]
theorem cd_Cmc {o' a' b' : Nat → Int32} {p : Nat} (h : ∀ q, q ≤ p → o' q = o q ∧ a' q = a q ∧ b' q = b q) (i : Nat) : cd_Cm o' a' b' p i ↔ cd_Cm o a b p i := by
  unfold cd_Cm
  by_cases hi : i ≤ p
  · have hN : cd_Nm o' a' b' i ↔ cd_Nm o a b i := by
      unfold cd_Nm
      have hc : cd_Cp o' i ↔ cd_Cp o i := by unfold cd_Cp; rw [(h i hi).1]
      rw [hc]
      refine and_congr Iff.rfl ⟨fun z q hq => ?_, fun z q hq => ?_⟩
      · rw [← cd_Smc (h q (by omega)) (h i hi)]; exact z q hq
      · rw [cd_Smc (h q (by omega)) (h i hi)]; exact z q hq
    rw [hN, cd_Smc (h i hi) (h p (Nat.le_refl _))]
  · exact ⟨fun z => absurd z.1 hi, fun z => absurd z.1 hi⟩
theorem fx_e215 {post : Int32 → SX → Prop} (ok : cd_Ok (n + 1) o v a b) (hW : ∀ p, p < n + 1 → wt p = se_S (cd_Wt o v p)) (hRd : ∀ p, p < n + 1 → rd p = se_S (cd_Rd o a b p)) (hC : ∀ p, p < n → cm p = se_S (cd_Cm o a b p)) {z0 : Int32} (hz : z0 = se_S (cd_Cm o a b n))
    (h : ∀ rc' wt' rd' cm' nx' bh', rl_X (n + 1) rc' o v a b wt' rd' cm' nx' bh' → post (nI n) (nI (n + 1), rc', o, a, b, wt', rd', cm', nx', bh', sd, kp, mk, tg, fa, nt)) : wX_emit_215 post (nI n) z0 (nI n) (nI n) rc o a b wt rd cm nx bh sd kp mk tg fa nt := by
  have hn := ok.1
  unfold wX_emit_215
  rw [ix_cl (by omega : n < 20)]
  refine ⟨ix_in (by omega), nm_e (nm_r (nI_1 n) ?_)⟩
  refine fx_survey ok (fun nx' bh' h1 h2 => ?_)
  refine h _ _ _ _ _ _ ⟨ok, rfl, hW, hRd, ?_, h1, h2⟩
  intro p hp
  by_cases e : p = n
  · subst e; rw [pk_us]; exact hz
  · rw [pk_un e]; exact hC p (by omega)
theorem fx_e187 {post : Int32 → SX → Prop} (ok : cd_Ok (n + 1) o v a b) (hW : ∀ p, p < n + 1 → wt p = se_S (cd_Wt o v p)) (hRd : ∀ p, p < n → rd p = se_S (cd_Rd o a b p)) (hC : ∀ p, p < n → cm p = se_S (cd_Cm o a b p)) {z0 z1 x1 : Int32} (hz : z1 ||| z0 = se_S (cd_Rd o a b n)) (hx : x1 = o n)
    (h : ∀ rc' wt' rd' cm' nx' bh', rl_X (n + 1) rc' o v a b wt' rd' cm' nx' bh' → post (nI n) (nI (n + 1), rc', o, a, b, wt', rd', cm', nx', bh', sd, kp, mk, tg, fa, nt)) : wX_emit_187 post x1 (nI n) z0 z1 (nI n) (nI n) rc o a b wt rd cm nx bh sd kp mk tg fa nt := by
  have hn := ok.1
  unfold wX_emit_187
  rw [ix_cl (by omega : n < 20)]
  refine ⟨ix_in (by omega), nm_e ?_⟩
  have hRd' : ∀ p, p < n + 1 → upd rd n (z1 ||| z0) p = se_S (cd_Rd o a b p) := by
    intro p hp
    by_cases e : p = n
    · subst e; rw [pk_us]; exact hz
    · rw [pk_un e]; exact hRd p (by omega)
  subst hx
  refine fx_computes (fun hc => br_f (by decide) (fx_leastLike (by omega) (fun q hq g1 g2 => ?_))) (fun hc => br_t rfl ?_)
  · refine fx_e215 ok hW hRd' hC ?_ h
    rw [se_shl (by omega)]
    exact se_ext (fun i _ => cd_Cm1 hc hq g1 g2 i)
  · refine fx_e215 ok hW hRd' hC ?_ h
    exact (se_z.mpr (fun i _ => cd_Cm0 hc i)).symm
theorem fx_e85 {post : Int32 → SX → Prop} {x1 x2 x3 x4 : Int32} (rel : rl_X n rc o v a b wt rd cm nx bh) (hV : rl_V x1 x2 x3 x4) (hlt : n < 20)
    (h : ∀ rc' wt' rd' cm' nx' bh', rl_X (n + 1) rc' (upd o n x1) (upd v n x2) (upd a n x3) (upd b n x4) wt' rd' cm' nx' bh' → post (nI n) (nI (n + 1), rc', upd o n x1, upd a n x3, upd b n x4, wt', rd', cm', nx', bh', sd, kp, mk, tg, fa, nt)) : wX_emit_85 post x1 x2 x3 x4 (nI n) rc o a b wt rd cm nx bh sd kp mk tg fa nt := by
  obtain ⟨ok, hR, hW, hRd, hC, hN, hB⟩ := rel
  have eo : ∀ p, p < n → upd o n x1 p = o p := fun p hp => pk_un (by omega)
  have ev : ∀ p, p < n → upd v n x2 p = v p := fun p hp => pk_un (by omega)
  have ea : ∀ p, p < n → upd a n x3 p = a p := fun p hp => pk_un (by omega)
  have eb : ∀ p, p < n → upd b n x4 p = b p := fun p hp => pk_un (by omega)
  have fo : upd o n x1 n = x1 := pk_us
  have fv : upd v n x2 n = x2 := pk_us
  have fa' : upd a n x3 n = x3 := pk_us
  have fb : upd b n x4 n = x4 := pk_us
  obtain ⟨hop, hv, ha, hb, hj⟩ := hV
  have ok' : cd_Ok (n + 1) (upd o n x1) (upd v n x2) (upd a n x3) (upd b n x4) := by
    refine ⟨by omega, fun p hp => ?_⟩
    by_cases e : p = n
    · subst e
      unfold cd_Op cd_Wr cd_Rf cd_Cp
      rw [fo, fv, fa', fb]
      exact ⟨hop, fun z => ix_v5 (hv z), fun z => ix_v5 (ha z), fun z => ix_v5 (hb z), fun z => ix_v20 (hj z)⟩
    · have := ok.2 p (by omega)
      unfold cd_Op cd_Wr cd_Rf cd_Cp at this ⊢
      rw [eo p (by omega), ev p (by omega), ea p (by omega), eb p (by omega)]
      exact this
  have hW0 : ∀ p, p < n → wt p = se_S (cd_Wt (upd o n x1) (upd v n x2) p) := by
    intro p hp
    unfold cd_Wt cd_Wr
    rw [eo p hp, ev p hp]; exact hW p hp
  have hRd0 : ∀ p, p < n → rd p = se_S (cd_Rd (upd o n x1) (upd a n x3) (upd b n x4) p) := by
    intro p hp
    unfold cd_Rd cd_Rf cd_Cp
    rw [eo p hp, ea p hp, eb p hp]; exact hRd p hp
  have hC0 : ∀ p, p < n → cm p = se_S (cd_Cm (upd o n x1) (upd a n x3) (upd b n x4) p) := by
    intro p hp
    rw [hC p hp]
    exact se_ext (fun i _ => (cd_Cmc (fun q hq => ⟨eo q (by omega), ea q (by omega), eb q (by omega)⟩) i).symm)
  have i20 : vp_in (nI n) 20 := ix_in hlt
  unfold wX_emit_85
  rw [ix_cl hlt]
  refine br_t (nI_lt (b := 20) hlt (by omega)) ⟨i20, nm_e ⟨i20, nm_e ⟨i20, nm_e ?_⟩⟩⟩
  have H171 : ∀ (z0 : Int32) (wt' : Nat → Int32), (∀ p, p < n + 1 → wt' p = se_S (cd_Wt (upd o n x1) (upd v n x2) p)) → z0 = se_S (fun i => cd_Rf (upd o n x1) n ∧ x3 = nI i) → wX_emit_171 post x1 x4 (nI n) z0 (nI n) (nI n) rc (upd o n x1) (upd a n x3) (upd b n x4) wt' rd cm nx bh sd kp mk tg fa nt := by
    intro z0 wt' hW' hz
    unfold wX_emit_171
    refine fx_computes (fun hc => br_f (by decide) ?_) (fun hc => br_t rfl ?_)
    · refine fx_e187 ok' hW' hRd0 hC0 ?_ fo.symm h
      obtain ⟨t, ht, et⟩ := ix_v5 (hb hc)
      rw [hz, et, se_shl (by omega), se_or]
      refine se_ext (fun i hi => ?_)
      unfold cd_Rd cd_Cp
      rw [fo, fa', pk_us]
      refine or_congr Iff.rfl ⟨fun z => ⟨hc, by rw [z]⟩, fun z => ?_⟩
      have := (nI_eq (by omega) (by omega)).mp z.2
      omega
    · refine fx_e187 ok' hW' hRd0 hC0 ?_ fo.symm h
      rw [hz, se_or0]
      refine se_ext (fun i hi => ?_)
      unfold cd_Rd cd_Cp
      rw [fo, fa']
      exact ⟨Or.inl, fun z => z.elim id (fun w => absurd w.1 hc)⟩
  have H149 : ∀ z0 : Int32, z0 = se_S (cd_Wt (upd o n x1) (upd v n x2) n) → wX_emit_149 post x1 x3 x4 (nI n) z0 (nI n) (nI n) rc (upd o n x1) (upd a n x3) (upd b n x4) wt rd cm nx bh sd kp mk tg fa nt := by
    intro z0 hz
    unfold wX_emit_149
    rw [ix_cl hlt]
    refine ⟨i20, nm_e ?_⟩
    have hW' : ∀ p, p < n + 1 → upd wt n z0 p = se_S (cd_Wt (upd o n x1) (upd v n x2) p) := by
      intro p hp
      by_cases e : p = n
      · subst e; rw [pk_us]; exact hz
      · rw [pk_un e]; exact hW0 p (by omega)
    refine fx_hasA (fun hc => br_f (by decide) (H171 _ _ hW' ?_)) (fun hc => br_t rfl (H171 _ _ hW' ?_))
    · obtain ⟨t, ht, et⟩ := ix_v5 (ha hc)
      rw [et, se_shl (by omega)]
      refine se_ext (fun i hi => ?_)
      unfold cd_Rf
      rw [fo]
      refine ⟨fun z => ⟨hc, by rw [z]⟩, fun z => ?_⟩
      have := (nI_eq (by omega) (by omega)).mp z.2
      omega
    · refine (se_z.mpr (fun i _ z => ?_)).symm
      unfold cd_Rf at z
      rw [fo] at z
      exact hc z.1
  refine fx_hasV (fun hc => br_f (by decide) (H149 _ ?_)) (fun hc => br_t rfl (H149 _ ?_))
  · obtain ⟨t, ht, et⟩ := ix_v5 (hv hc)
    rw [et, se_shl (by omega)]
    refine se_ext (fun i hi => ?_)
    unfold cd_Wt cd_Wr
    rw [fo, pk_us]
    refine ⟨fun z => ⟨hc, by rw [z]⟩, fun z => ?_⟩
    have := (nI_eq (by omega) (by omega)).mp z.2
    omega
  · refine (se_z.mpr (fun i _ z => ?_)).symm
    unfold cd_Wt cd_Wr at z
    rw [fo] at z
    exact z.1 hc
theorem fx_emit {post : Int32 → SX → Prop} {x1 x2 x3 x4 : Int32} (h1 : rl_V x1 x2 x3 x4 → wX_emit_85 post x1 x2 x3 x4 (nI n) rc o a b wt rd cm nx bh sd kp mk tg fa nt) (h0 : ¬ rl_V x1 x2 x3 x4 → post (-1) ((nI n), rc, o, a, b, wt, rd, cm, nx, bh, sd, kp, mk, tg, fa, nt)) : wpX_emit post ((nI n), rc, o, a, b, wt, rd, cm, nx, bh, sd, kp, mk, tg, fa, nt) x1 x2 x3 x4 := by
  unfold wpX_emit
  dsimp only
  refine br_c (fun g => h0 (fun z => z.1.1 g)) (fun g => br_c (fun g6 => ?_) (fun g6 => h0 (fun z => g6 z.1.2)))
  have H63 : (¬ 3 < x1 → ¬ x2 < 0 ∧ ¬ 5 < x2) → ((¬ x1 = 0 ∧ ¬ x1 = 5) → ¬ x3 < 0 ∧ ¬ 5 < x3) → ((x1 = 2 ∨ x1 = 3) → ¬ x4 < 0 ∧ ¬ 5 < x4) → wX_emit_63 post x1 x2 x3 x4 (nI n) rc o a b wt rd cm nx bh sd kp mk tg fa nt := by
    intro q1 q2 q3
    unfold wX_emit_63
    refine fx_jumps (fun hj => br_f (by decide) (br_c (fun y => h0 (fun z => (z.2.2.2.2 hj).1 y)) (fun y => br_c (fun w => h1 ⟨⟨g, g6⟩, q1, q2, q3, fun _ => ⟨y, ix_2021.mp w⟩⟩) (fun w => h0 (fun z => w (ix_2021.mpr (z.2.2.2.2 hj).2)))))) (fun hj => br_t rfl (h1 ⟨⟨g, g6⟩, q1, q2, q3, fun z => absurd z hj⟩))
  have H46 : (¬ 3 < x1 → ¬ x2 < 0 ∧ ¬ 5 < x2) → ((¬ x1 = 0 ∧ ¬ x1 = 5) → ¬ x3 < 0 ∧ ¬ 5 < x3) → wX_emit_46 post x1 x2 x3 x4 (nI n) rc o a b wt rd cm nx bh sd kp mk tg fa nt := by
    intro q1 q2
    unfold wX_emit_46
    refine fx_computes (fun hc => br_f (by decide) (fx_isVariable (fun y w => br_f (by decide) (H63 q1 q2 (fun _ => ⟨y, ix_56.mp w⟩))) (fun y => br_t rfl (h0 (fun z => y ⟨(z.2.2.2.1 hc).1, ix_56.mpr (z.2.2.2.1 hc).2⟩))))) (fun hc => br_t rfl (H63 q1 q2 (fun z => absurd z hc)))
  have H28 : (¬ 3 < x1 → ¬ x2 < 0 ∧ ¬ 5 < x2) → wX_emit_28 post x1 x2 x3 x4 (nI n) rc o a b wt rd cm nx bh sd kp mk tg fa nt := by
    intro q1
    unfold wX_emit_28
    refine fx_hasA (fun hc => br_f (by decide) (fx_isVariable (fun y w => br_f (by decide) (H46 q1 (fun _ => ⟨y, ix_56.mp w⟩))) (fun y => br_t rfl (h0 (fun z => y ⟨(z.2.2.1 hc).1, ix_56.mpr (z.2.2.1 hc).2⟩))))) (fun hc => br_t rfl (H46 q1 (fun z => absurd z hc)))
  refine fx_hasV (fun hc => br_f (by decide) (fx_isVariable (fun y w => br_f (by decide) (H28 (fun _ => ⟨y, ix_56.mp w⟩))) (fun y => br_t rfl (h0 (fun z => y ⟨(z.2.1 hc).1, ix_56.mpr (z.2.1 hc).2⟩))))) (fun hc => br_t rfl (H28 (fun z => absurd hc z)))
theorem fy_emit {post : Int32 → SY → Prop} {x1 x2 x3 x4 : Int32} (h1 : rl_V x1 x2 x3 x4 → wY_emit_83 post x1 x2 x3 x4 1 (nI n) o v a b) (h0 : ¬ rl_V x1 x2 x3 x4 → post (-1) ((nI n), o, v, a, b)) : wpY_emit post ((nI n), o, v, a, b) x1 x2 x3 x4 := by
  unfold wpY_emit
  dsimp only
  refine br_c (fun g => h0 (fun z => z.1.1 g)) (fun g => br_c (fun g6 => ?_) (fun g6 => h0 (fun z => g6 z.1.2)))
  obtain ⟨j, hj, ej⟩ := ix_07 g g6
  have hj5 : ¬ x1 < 5 ↔ (x1 = 5 ∨ x1 = 6) := by rw [ej]; exact ix_j j (by omega)
  have H82 : ¬ rl_V x1 x2 x3 x4 → wY_emit_82 post x1 x2 x3 x4 (nI n) o v a b := fun z => br_t rfl (h0 z)
  have H61 : (¬ 3 < x1 → ¬ x2 < 0 ∧ ¬ 5 < x2) → ((¬ x1 = 0 ∧ ¬ x1 = 5) → ¬ x3 < 0 ∧ ¬ 5 < x3) → ((x1 = 2 ∨ x1 = 3) → ¬ x4 < 0 ∧ ¬ 5 < x4) → wY_emit_61 post x1 x2 x3 x4 (nI n) o v a b := by
    intro q1 q2 q3
    unfold wY_emit_61
    refine br_c (fun y => h1 ⟨⟨g, g6⟩, q1, q2, q3, fun z => absurd y (hj5.mpr z)⟩) (fun y => br_c (fun w => H82 (fun z => (z.2.2.2.2 (hj5.mp y)).1 w)) (fun w => br_c (fun w2 => H82 (fun z => (z.2.2.2.2 (hj5.mp y)).2 w2)) (fun w2 => h1 ⟨⟨g, g6⟩, q1, q2, q3, fun _ => ⟨w, w2⟩⟩)))
  have H44 : (¬ 3 < x1 → ¬ x2 < 0 ∧ ¬ 5 < x2) → ((¬ x1 = 0 ∧ ¬ x1 = 5) → ¬ x3 < 0 ∧ ¬ 5 < x3) → wY_emit_44 post x1 x2 x3 x4 (nI n) o v a b := by
    intro q1 q2
    unfold wY_emit_44
    refine fy_computes (fun hc => br_f (by decide) (fy_variable (fun y w => br_f (by decide) (H61 q1 q2 (fun _ => ⟨y, w⟩))) (fun y => br_t rfl (H82 (fun z => y (z.2.2.2.1 hc)))))) (fun hc => br_t rfl (H61 q1 q2 (fun z => absurd z hc)))
  have H28 : (¬ 3 < x1 → ¬ x2 < 0 ∧ ¬ 5 < x2) → wY_emit_28 post x1 x2 x3 x4 (nI n) o v a b := by
    intro q1
    unfold wY_emit_28
    refine fy_readsFirst g g6 (fun hc => br_f (by decide) (fy_variable (fun y w => br_f (by decide) (H44 q1 (fun _ => ⟨y, w⟩))) (fun y => br_t rfl (H82 (fun z => y (z.2.2.1 hc)))))) (fun hc => br_t rfl (H44 q1 (fun z => absurd z hc)))
  refine fy_writes (fun hc => br_f (by decide) (fy_variable (fun y w => br_f (by decide) (H28 (fun _ => ⟨y, w⟩))) (fun y => br_t rfl (H82 (fun z => y (z.2.1 hc)))))) (fun hc => br_t rfl (H28 (fun z => absurd hc z)))
end
