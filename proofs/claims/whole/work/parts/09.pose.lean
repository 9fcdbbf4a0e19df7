/-! a question, as the component poses it -/
theorem se_m32 {P Q : Nat → Prop} : (se_S P &&& se_S Q) = 0 ↔ ¬ ∃ i, i < 32 ∧ P i ∧ Q i := by
  rw [se_and, se_z]
  exact ⟨fun z w => w.elim (fun i hi => z i hi.1 hi.2), fun z i h hi => z ⟨i, h, hi⟩⟩
def qs_Sp (n : Nat) (o v a b : Nat → Int32) (p e : Nat) : Prop := ∃ q, q < n ∧ (∃ i, i < 32 ∧ cd_Rd o a b q i ∧ cd_Wt o v p i) ∧ cd_Cm o a b q e
def qs_Nms (n : Nat) (o a b : Nat → Int32) (e : Nat) : Prop := ∃ p, p < n ∧ cd_Cm o a b p e
def qs_K (n : Nat) (o v a b : Nat → Int32) : Nat → Nat → Nat → Prop
  | 0 => fun p f => ¬ (f < n ∧ ∃ i, i < 32 ∧ cd_Wt o v f i ∧ cd_Wt o v p i)
  | 1 => fun p f => ¬ cd_Wt o v p f
  | 2 => fun p f => ¬ cd_Cm o a b p f
  | 3 => fun p f => ¬ cd_Cm o a b p f
  | _ => fun p f => ¬ cd_Wt o v p f
def qs_M (n : Nat) (o v a b : Nat → Int32) : Nat → Nat → Nat → Prop
  | 0 => fun p f => (∃ i, i < 32 ∧ cd_Wt o v p i) ∧ f = p
  | 1 => fun p f => cd_Rd o a b p f
  | 2 => fun p f => qs_Sp n o v a b p f
  | 3 => fun p f => qs_Sp n o v a b p f ∧ ¬ cd_Cm o a b p f
  | _ => fun _ _ => False
def qs_O (n : Nat) (o a b : Nat → Int32) : Nat → Nat → Prop
  | 0 => fun _ => False
  | 1 => fun _ => False
  | 2 => fun f => qs_Nms n o a b f
  | 3 => fun f => qs_Nms n o a b f
  | _ => fun f => f < 6
def qs_bk (Q : Nat) : Prop := Q = 0 ∨ Q = 2 ∨ Q = 4
def qs_S (n : Nat) (o a b : Nat → Int32) (Q p f : Nat) : Prop := (qs_bk Q → p = 0) ∧ (¬ qs_bk Q → cd_G n o b p 20) ∧ qs_O n o a b Q f
def qs_T (n : Nat) (o b : Nat → Int32) (Q p q : Nat) : Prop := (qs_bk Q → fl_R n o b p ∧ cd_G n o b p q ∧ fl_R n o b q) ∧ (¬ qs_bk Q → q < n ∧ cd_G n o b q p)
section
variable {n : Nat} {rc : Int32} {o v a b wt rd cm nx bh sd kp mk tg fa nt : Nat → Int32}
theorem fx_names {post : Int32 → Prop} (hn : n ≤ 20) (hC : ∀ p, p < n → cm p = se_S (cd_Cm o a b p)) (h : post (se_S (qs_Nms n o a b))) : wpX_names post ((nI n), rc, o, a, b, wt, rd, cm, nx, bh, sd, kp, mk, tg, fa, nt) := by
  unfold wpX_names
  dsimp only
  refine gl_col0 (fun f y z => wX_names_4 post (nI n) rc o a b wt rd cm nx bh sd kp mk tg fa nt f y z) n (fun p => cd_Cm o a b p) post ?_ ?_ h
  · intro f x h
    exact br_t (nI_le (Nat.le_refl _) (by omega)) h
  · intro f k y hk hh
    refine br_f (nI_ge hk (by omega)) ⟨ix_in (by omega), ?_⟩
    rw [ix_cl (by omega : k < 20)]
    exact fun z ez => gl_i (hh z (by rw [ez, hC k hk]))
theorem fx_writersOf {post : Int32 → Prop} (hn : n ≤ 20) (hW : ∀ p, p < n → wt p = se_S (cd_Wt o v p)) {x : Int32} {V : Nat → Prop} (hx : x = se_S V) (h : post (se_S (fun p => p < n ∧ ∃ i, i < 32 ∧ cd_Wt o v p i ∧ V i))) : wpX_writersOf post ((nI n), rc, o, a, b, wt, rd, cm, nx, bh, sd, kp, mk, tg, fa, nt) x := by
  unfold wpX_writersOf
  dsimp only
  refine gl_pick (fun f y z => wX_writersOf_4 post x (nI n) rc o a b wt rd cm nx bh sd kp mk tg fa nt f y z) n (fun p => ∃ i, i < 32 ∧ cd_Wt o v p i ∧ V i) post (by omega) ?_ ?_ h
  · intro f x h
    exact br_t (nI_le (Nat.le_refl _) (by omega)) h
  · intro f k y hk h0 h1
    refine br_f (nI_ge hk (by omega)) ⟨ix_in (by omega), ?_⟩
    rw [ix_cl (by omega : k < 20), hW k hk, hx]
    exact br_c (fun z => gl_i (by rw [← hx]; exact h0 (se_m32.mp z))) (fun z => nm_e (gl_i (by rw [← hx]; exact h1 (Classical.byContradiction fun w => z (se_m32.mpr w)))))
theorem fx_spoiledBy {post : Int32 → Prop} (hn : n ≤ 20) (hW : ∀ p, p < n → wt p = se_S (cd_Wt o v p)) (hRd : ∀ p, p < n → rd p = se_S (cd_Rd o a b p)) (hC : ∀ p, p < n → cm p = se_S (cd_Cm o a b p)) {p : Nat} (hp : p < n) (h : post (se_S (qs_Sp n o v a b p))) : wpX_spoiledBy post ((nI n), rc, o, a, b, wt, rd, cm, nx, bh, sd, kp, mk, tg, fa, nt) (nI p) := by
  unfold wpX_spoiledBy
  dsimp only
  refine gl_un (fun f y z => wX_spoiledBy_4 post (nI p) (nI n) rc o a b wt rd cm nx bh sd kp mk tg fa nt f y z) n (fun q => ∃ i, i < 32 ∧ cd_Rd o a b q i ∧ cd_Wt o v p i) (fun q => cd_Cm o a b q) post ?_ ?_ h
  · intro f x h
    exact br_t (nI_le (Nat.le_refl _) (by omega)) h
  · intro f k y hk h0 h1
    refine br_f (nI_ge hk (by omega)) ⟨ix_in (by omega), ix_in (by omega), ?_⟩
    rw [ix_cl (by omega : k < 20), ix_cl (by omega : p < 20), hW p hp, hRd k hk]
    exact br_c (fun z => gl_i (h0 (se_m32.mp z))) (fun z => ⟨ix_in (by omega), fun y ey => gl_i (h1 (Classical.byContradiction fun w => z (se_m32.mpr w)) y (by rw [ey, hC k hk]))⟩)
theorem fx_poseStep {post : SX → Prop} (hn : n ≤ 20) (hW : ∀ p, p < n → wt p = se_S (cd_Wt o v p)) (hRd : ∀ p, p < n → rd p = se_S (cd_Rd o a b p)) (hC : ∀ p, p < n → cm p = se_S (cd_Cm o a b p)) {Q p : Nat} (hQ : Q < 5) (hp : p < n) (h : post ((nI n), rc, o, a, b, wt, rd, cm, nx, bh, sd, upd kp p (se_S (qs_K n o v a b Q p)), upd mk p (se_S (qs_M n o v a b Q p)), tg, fa, nt)) : wpX_poseStep post ((nI n), rc, o, a, b, wt, rd, cm, nx, bh, sd, kp, mk, tg, fa, nt) (nI Q) (nI p) := by
  have hi : vp_in (nI p) 20 := ix_in (by omega)
  unfold wpX_poseStep
  dsimp only
  rw [ix_cl (by omega : p < 20), hW p hp, hRd p hp, hC p hp]
  have hcase : Q = 0 ∨ Q = 1 ∨ Q = 2 ∨ Q = 3 ∨ Q = 4 := by omega
  rcases hcase with e | e | e | e | e <;> subst e
  · refine br_t (by decide) ⟨hi, fx_writersOf hn hW rfl ⟨hi, nm_r (congrArg _ (se_not _)) ⟨hi, br_c (fun z => ⟨hi, nm_e ?_⟩) (fun z => ⟨hi, nm_e ?_⟩)⟩⟩⟩
    · have e : (0 : Int32) = se_S (qs_M n o v a b 0 p) := (se_z.mpr (fun i _ w => w.1.elim (fun j hj => se_z.mp z j hj.1 hj.2))).symm
      rw [e]; exact h
    · have e : ((1 : Int32) <<< (nI p &&& 31)) = se_S (qs_M n o v a b 0 p) := by
        rw [se_shl (by omega)]
        exact se_ext (fun i _ => ⟨fun w => ⟨se_nz.mp z, w⟩, fun w => w.2⟩)
      rw [e]; exact h
  · refine br_f (by decide) (br_t (by decide) ⟨hi, hi, nm_r (congrArg _ (se_not _)) ⟨hi, hi, nm_e h⟩⟩)
  · refine br_f (by decide) (br_f (by decide) (br_t (by decide) ⟨hi, hi, nm_r (congrArg _ (se_not _)) (fx_spoiledBy hn hW hRd hC hp ⟨hi, nm_e h⟩)⟩))
  · refine br_f (by decide) (br_f (by decide) (br_f (by decide) (br_t (by decide) ⟨hi, hi, nm_r (congrArg _ (se_not _)) (fx_spoiledBy hn hW hRd hC hp ⟨hi, hi, nm_r (congrArg _ (by rw [se_not, se_and]; rfl)) h⟩)⟩)))
  · refine br_f (by decide) (br_f (by decide) (br_f (by decide) (br_f (by decide) ⟨hi, hi, nm_r (congrArg _ (se_not _)) ⟨hi, nm_r ?_ h⟩⟩)))
    exact congrArg _ se_0
theorem qs_bkI : ∀ Q, Q < 5 → ((nI Q = 0 ∨ nI Q = 2 ∨ nI Q = 4) ↔ (Q = 0 ∨ Q = 2 ∨ Q = 4)) := by decide +kernel
theorem qs_afI : ∀ Q, Q < 5 → ((nI Q = 2 ∨ nI Q = 3) ↔ (Q = 2 ∨ Q = 3)) := by decide +kernel
theorem fx_pose27 {post : SX → Prop} (rel : rl_X n rc o v a b wt rd cm nx bh) {Q : Nat} (hQ : Q < 5)
    (h : ∀ sd' kp' mk' tg', (∀ p, p < n → sd' p = se_S (qs_S n o a b Q p)) → (∀ p, p < n → kp' p = se_S (qs_K n o v a b Q p)) → (∀ p, p < n → mk' p = se_S (qs_M n o v a b Q p)) → (∀ p, p < n → tg' p = se_S (qs_T n o b Q p)) → post ((nI n), rc, o, a, b, wt, rd, cm, nx, bh, sd', kp', mk', tg', fa, nt)) : ∃ f, wX_pose_27 post (nI Q) (se_S (qs_O n o a b Q)) f 0 (nI n) rc o a b wt rd cm nx bh sd kp mk tg fa nt := by
  obtain ⟨ok, hR, hW, hRd, hC, hN, hB⟩ := rel
  have hn := ok.1
  have key : ∀ d k sd' kp' mk' tg', k + d = n → (∀ p, p < k → sd' p = se_S (qs_S n o a b Q p)) → (∀ p, p < k → kp' p = se_S (qs_K n o v a b Q p)) → (∀ p, p < k → mk' p = se_S (qs_M n o v a b Q p)) → (∀ p, p < k → tg' p = se_S (qs_T n o b Q p)) → wX_pose_27 post (nI Q) (se_S (qs_O n o a b Q)) (d + 1) (nI k) (nI n) rc o a b wt rd cm nx bh sd' kp' mk' tg' fa nt := by
    intro d
    induction d with
    | zero =>
      intro k sd' kp' mk' tg' hk h1 h2 h3 h4
      have e : k = n := by omega
      subst e
      exact br_t (nI_le (Nat.le_refl _) (by omega)) (h _ _ _ _ h1 h2 h3 h4)
    | succ d ih =>
      intro k sd' kp' mk' tg' hk h1 h2 h3 h4
      have hkn : k < n := by omega
      have hi : vp_in (nI k) 20 := ix_in (by omega)
      have ec : (nI k).toNatClampNeg = k := ix_cl (by omega)
      have up : ∀ {g : Nat → Int32} {F : Nat → Nat → Prop}, (∀ p, p < k → g p = se_S (F p)) → ∀ p, p < k + 1 → upd g k (se_S (F k)) p = se_S (F p) := by
        intro g F hg p hp
        by_cases e : p = k
        · subst e; exact pk_us
        · rw [pk_un e]; exact hg p (by omega)
      have fin := fun sd'' (hsd : sd'' = upd sd' k (se_S (qs_S n o a b Q k))) tg'' (htg : tg'' = upd tg' k (se_S (qs_T n o b Q k))) => ih (k + 1) sd'' (upd kp' k (se_S (qs_K n o v a b Q k))) (upd mk' k (se_S (qs_M n o v a b Q k))) tg'' (by omega) (by rw [hsd]; exact up h1) (up h2) (up h3) (by rw [htg]; exact up h4)
      refine br_f (nI_ge hkn (by omega)) (fx_poseStep hn hW hRd hC hQ hkn ?_)
      dsimp only
      refine fx_looks (fun hb => br_f (by decide) ?_) (fun hb => br_t rfl ⟨hi, ?_⟩)
      · have hb' : qs_bk Q := (qs_bkI Q hQ).mp hb
        have H63 : ∀ z0 : Int32, z0 = se_S (qs_S n o a b Q k) → wX_pose_63 post (wX_pose_27 post (nI Q) (se_S (qs_O n o a b Q)) (d + 1)) (nI Q) (se_S (qs_O n o a b Q)) (nI k) z0 (nI k) (nI n) rc o a b wt rd cm nx bh sd' (upd kp' k (se_S (qs_K n o v a b Q k))) (upd mk' k (se_S (qs_M n o v a b Q k))) tg' fa nt := by
          intro z0 hz
          unfold wX_pose_63
          rw [ec, hz]
          refine ⟨hi, fun sd'' hsd => fx_has (by omega) hR (fun hr => br_f (by decide) ⟨hi, hi, fun tg'' htg => gl_i (fin sd'' hsd tg'' (htg.trans (congrArg _ ?_)))⟩) (fun hr => br_t rfl ⟨hi, fun tg'' htg => gl_i (fin sd'' hsd tg'' (htg.trans (congrArg _ ?_)))⟩)⟩
          · rw [hN k hkn, hR, se_and]
            exact se_ext (fun i _ => ⟨fun w => ⟨fun _ => ⟨hr, w.1, w.2⟩, fun nb => absurd hb' nb⟩, fun w => (w.1 hb').2⟩)
          · exact (se_z.mpr (fun i _ w => hr (w.1 hb').1)).symm
        refine br_c (fun e0 => H63 _ ?_) (fun e0 => H63 _ ?_)
        · have ek : k = 0 := (nI_eq (b := 0) (by omega) (by omega)).mp e0
          exact se_ext (fun i _ => ⟨fun w => ⟨fun _ => ek, fun nb => absurd hb' nb, w⟩, fun w => w.2.2⟩)
        · have ek : ¬ k = 0 := fun z => e0 (by rw [z]; exact nI_0)
          exact (se_z.mpr (fun i _ w => ek (w.1 hb'))).symm
      · have hb' : ¬ qs_bk Q := fun z => hb ((qs_bkI Q hQ).mpr z)
        have H125 : ∀ z0 : Int32, z0 = se_S (qs_S n o a b Q k) → wX_pose_125 post (wX_pose_27 post (nI Q) (se_S (qs_O n o a b Q)) (d + 1)) (nI Q) (se_S (qs_O n o a b Q)) (nI k) z0 (nI k) (nI n) rc o a b wt rd cm nx bh sd' (upd kp' k (se_S (qs_K n o v a b Q k))) (upd mk' k (se_S (qs_M n o v a b Q k))) tg' fa nt := by
          intro z0 hz
          unfold wX_pose_125
          rw [ec, hz]
          refine ⟨hi, fun sd'' hsd => fx_goingOnAt hn hN (by omega) ⟨hi, fun tg'' htg => gl_i (fin sd'' hsd tg'' (htg.trans (congrArg _ ?_)))⟩⟩
          exact se_ext (fun i _ => ⟨fun w => ⟨fun q => absurd q hb', fun _ => w⟩, fun w => w.2 hb'⟩)
        rw [ec]
        refine fx_has (p := 20) (by omega) (hN k hkn) (fun hg => br_f (by decide) (H125 _ ?_)) (fun hg => br_t rfl (H125 _ ?_))
        · exact se_ext (fun i _ => ⟨fun w => ⟨fun q => absurd q hb', fun _ => hg, w⟩, fun w => w.2.2⟩)
        · exact (se_z.mpr (fun i _ w => hg (w.2.1 hb'))).symm
  exact ⟨_, key n 0 sd kp mk tg (by omega) (fun p hp => by omega) (fun p hp => by omega) (fun p hp => by omega) (fun p hp => by omega)⟩
theorem fx_pose {post : SX → Prop} (rel : rl_X n rc o v a b wt rd cm nx bh) {Q : Nat} (hQ : Q < 5)
    (h : ∀ sd' kp' mk' tg', (∀ p, p < n → sd' p = se_S (qs_S n o a b Q p)) → (∀ p, p < n → kp' p = se_S (qs_K n o v a b Q p)) → (∀ p, p < n → mk' p = se_S (qs_M n o v a b Q p)) → (∀ p, p < n → tg' p = se_S (qs_T n o b Q p)) → post ((nI n), rc, o, a, b, wt, rd, cm, nx, bh, sd', kp', mk', tg', fa, nt)) : wpX_pose post ((nI n), rc, o, a, b, wt, rd, cm, nx, bh, sd, kp, mk, tg, fa, nt) (nI Q) := by
  have hh := fx_pose27 (sd := sd) (kp := kp) (mk := mk) (tg := tg) (fa := fa) (nt := nt) rel hQ h
  have hn := rel.1.1
  have hC := rel.2.2.2.2.1
  have hcase : Q = 0 ∨ Q = 1 ∨ Q = 2 ∨ Q = 3 ∨ Q = 4 := by omega
  have e0 : se_S (qs_O n o a b 0) = 0 := se_z.mpr (fun i _ z => z)
  have e1 : se_S (qs_O n o a b 1) = 0 := se_z.mpr (fun i _ z => z)
  have e4 : se_S (qs_O n o a b 4) = 63 := se_63.symm
  unfold wpX_pose
  dsimp only
  rcases hcase with e | e | e | e | e <;> subst e
  · rw [e0] at hh
    refine br_f (by decide) (fx_asks (fun z => absurd z (by decide)) (fun _ => br_t rfl hh))
  · rw [e1] at hh
    refine br_f (by decide) (fx_asks (fun z => absurd z (by decide)) (fun _ => br_t rfl hh))
  · refine br_f (by decide) (fx_asks (fun _ => br_f (by decide) (fx_names hn hC hh)) (fun z => absurd (by decide) z))
  · refine br_f (by decide) (fx_asks (fun _ => br_f (by decide) (fx_names hn hC hh)) (fun z => absurd (by decide) z))
  · rw [e4] at hh
    refine br_t (by decide) (fx_asks (fun z => absurd z (by decide)) (fun _ => br_t rfl hh))
end
