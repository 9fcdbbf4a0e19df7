section
/-! bits of Int32 (rows bt, b_*, s_l out of kit/rows/BITS) and sets se_S P of numbers below 32 -/
def bt (x : Int32) (i : Nat) : Bool := x.toBitVec.getLsbD i
theorem b_ext {x y : Int32} (h : ∀ i, i < 32 → bt x i = bt y i) : x = y := Int32.toBitVec_inj.mp (BitVec.eq_of_getLsbD_eq (fun i hi => h i hi))
theorem b_or (x y : Int32) (i : Nat) : bt (x ||| y) i = (bt x i || bt y i) := by unfold bt; rw [Int32.toBitVec_or, BitVec.getLsbD_or]
theorem b_and (x y : Int32) (i : Nat) : bt (x &&& y) i = (bt x i && bt y i) := by unfold bt; rw [Int32.toBitVec_and, BitVec.getLsbD_and]
theorem b_xor (x y : Int32) (i : Nat) : bt (x ^^^ y) i = (bt x i ^^ bt y i) := by unfold bt; rw [Int32.toBitVec_xor, BitVec.getLsbD_xor]
theorem b_big {x : Int32} {i : Nat} (h : 32 ≤ i) : bt x i = false := BitVec.getLsbD_of_ge _ _ h
theorem b_m1 : ∀ i, i < 32 → bt (-1) i = true := by decide +kernel
theorem b_0 (i : Nat) : bt 0 i = false := BitVec.getLsbD_zero
theorem b_1 : ∀ i, i < 32 → bt 1 i = decide (i = 0) := by decide +kernel
theorem s_l : ∀ n, n < 32 → ((nI n &&& 31).toBitVec.smod 32).toNat = n := by decide +kernel
theorem b_shl (n : Nat) (hn : n < 32) (x : Int32) {i : Nat} (hi : i < 32) : bt (x <<< (nI n &&& 31)) i = (decide (n ≤ i) && bt x (i - n)) := by
  unfold bt
  rw [Int32.toBitVec_shiftLeft]
  show (x.toBitVec <<< ((nI n &&& 31).toBitVec.smod 32).toNat).getLsbD i = _
  rw [s_l n hn, BitVec.getLsbD_shiftLeft]
  rcases Nat.lt_or_ge i n with h | h
  · simp [h, Nat.not_le.mpr h]
  · simp [hi, h, Nat.not_lt.mpr h]
theorem b_sshr (n : Nat) (hn : n < 32) (x : Int32) {i : Nat} (hi : i < 32) : bt (x >>> (nI n &&& 31)) i = if n + i < 32 then bt x (n + i) else bt x 31 := by
  unfold bt
  rw [Int32.toBitVec_shiftRight]
  show (x.toBitVec.sshiftRight ((nI n &&& 31).toBitVec.smod 32).toNat).getLsbD i = _
  rw [s_l n hn, BitVec.getLsbD_sshiftRight, BitVec.msb_eq_getLsbD_last]
  simp [hi]

noncomputable def se_B (P : Nat → Prop) : Nat → BitVec 32
  | 0 => 0#32
  | k + 1 => se_B P k ||| (@ite _ (P k) (Classical.propDecidable _) (BitVec.twoPow 32 k) 0#32)
noncomputable def se_S (P : Nat → Prop) : Int32 := Int32.ofBitVec (se_B P 32)

theorem se_Bg (P : Nat → Prop) : ∀ k i, (se_B P k).getLsbD i = true ↔ i < k ∧ i < 32 ∧ P i := by
  intro k
  induction k with
  | zero => intro i; simp [se_B]
  | succ k ih =>
    intro i
    rw [se_B, BitVec.getLsbD_or, Bool.or_eq_true, ih]
    by_cases h : P k
    · rw [if_pos h, BitVec.getLsbD_twoPow]
      simp only [Bool.and_eq_true, decide_eq_true_eq]
      constructor
      · rintro (⟨a, b, c⟩ | ⟨a, b⟩)
        · exact ⟨by omega, b, c⟩
        · subst b; exact ⟨by omega, a, h⟩
      · rintro ⟨a, b, c⟩
        by_cases e : k = i
        · right; subst e; exact ⟨b, rfl⟩
        · left; exact ⟨by omega, b, c⟩
    · rw [if_neg h]
      simp only [BitVec.getLsbD_zero, Bool.false_eq_true, or_false]
      constructor
      · rintro ⟨a, b, c⟩; exact ⟨by omega, b, c⟩
      · rintro ⟨a, b, c⟩
        refine ⟨?_, b, c⟩
        by_cases e : i = k
        · subst e; exact absurd c h
        · omega

theorem se_b {P : Nat → Prop} {i : Nat} (hi : i < 32) : bt (se_S P) i = true ↔ P i := by
  have h := se_Bg P 32 i
  have e : bt (se_S P) i = (se_B P 32).getLsbD i := rfl
  rw [e, h]
  exact ⟨fun z => z.2.2, fun z => ⟨hi, hi, z⟩⟩
theorem se_of {x : Int32} {P : Nat → Prop} (h : ∀ i, i < 32 → (bt x i = true ↔ P i)) : x = se_S P := by
  apply b_ext
  intro i hi
  rw [Bool.eq_iff_iff, h i hi, se_b hi]
theorem se_ext {P Q : Nat → Prop} (h : ∀ i, i < 32 → (P i ↔ Q i)) : se_S P = se_S Q :=
  se_of (fun i hi => (se_b hi).trans (h i hi))
theorem se_inj {P Q : Nat → Prop} (h : se_S P = se_S Q) {i : Nat} (hi : i < 32) : P i ↔ Q i := by
  rw [← se_b (P := P) hi, h, se_b hi]
theorem se_or (P Q : Nat → Prop) : se_S P ||| se_S Q = se_S (fun i => P i ∨ Q i) :=
  se_of (fun i hi => by rw [b_or, Bool.or_eq_true, se_b hi, se_b hi])
theorem se_and (P Q : Nat → Prop) : se_S P &&& se_S Q = se_S (fun i => P i ∧ Q i) :=
  se_of (fun i hi => by rw [b_and, Bool.and_eq_true, se_b hi, se_b hi])
theorem se_not (P : Nat → Prop) : se_S P ^^^ (-1) = se_S (fun i => ¬ P i) :=
  se_of (fun i hi => by
    rw [b_xor, b_m1 i hi, ← se_b (P := P) hi]
    cases bt (se_S P) i <;> simp)
theorem se_0 : (0 : Int32) = se_S (fun _ => False) :=
  se_of (fun i _ => by rw [b_0]; simp)
theorem se_1 : (1 : Int32) = se_S (fun i => i = 0) :=
  se_of (fun i hi => by rw [b_1 i hi]; simp)
theorem se_shl {p : Nat} (hp : p < 32) : (1 : Int32) <<< (nI p &&& 31) = se_S (fun i => i = p) :=
  se_of (fun i hi => by
    rw [b_shl p hp 1 hi, Bool.and_eq_true, b_1 _ (by omega)]
    simp only [decide_eq_true_eq]
    omega)
theorem se_and1 (x : Int32) : x &&& 1 = 0 ∧ bt x 0 = false ∨ x &&& 1 = 1 ∧ bt x 0 = true := by
  cases h : bt x 0
  · left
    refine ⟨b_ext fun i hi => ?_, rfl⟩
    rw [b_and, b_1 i hi, b_0]
    by_cases e : i = 0
    · subst e; rw [h]; rfl
    · simp [e]
  · right
    refine ⟨b_ext fun i hi => ?_, rfl⟩
    rw [b_and, b_1 i hi]
    by_cases e : i = 0
    · subst e; rw [h]; rfl
    · simp [e]
theorem se_h0 {P : Nat → Prop} {p : Nat} (hp : p < 32) : ((se_S P >>> (nI p &&& 31)) &&& 1) = 0 ↔ ¬ P p := by
  have e : bt (se_S P >>> (nI p &&& 31)) 0 = bt (se_S P) p := by
    rw [b_sshr p hp _ (by omega), if_pos (by omega), Nat.add_zero]
  rcases se_and1 (se_S P >>> (nI p &&& 31)) with ⟨a, b⟩ | ⟨a, b⟩
  · rw [e] at b
    rw [a, ← se_b (P := P) hp, b]; simp
  · rw [e, se_b hp] at b
    rw [a]
    exact ⟨fun z => absurd z (by decide), fun z => absurd b z⟩
theorem se_h1 {P : Nat → Prop} {p : Nat} (hp : p < 32) : ((se_S P >>> (nI p &&& 31)) &&& 1) = 1 ↔ P p := by
  have e : bt (se_S P >>> (nI p &&& 31)) 0 = bt (se_S P) p := by
    rw [b_sshr p hp _ (by omega), if_pos (by omega), Nat.add_zero]
  rcases se_and1 (se_S P >>> (nI p &&& 31)) with ⟨a, b⟩ | ⟨a, b⟩
  · rw [e] at b
    rw [a, ← se_b (P := P) hp, b]
    exact ⟨fun z => absurd z (by decide), fun z => absurd z (by decide)⟩
  · rw [e, se_b hp] at b
    rw [a]
    exact ⟨fun _ => b, fun _ => rfl⟩
theorem se_z {P : Nat → Prop} : se_S P = 0 ↔ ∀ i, i < 32 → ¬ P i := by
  rw [se_0]
  constructor
  · intro h i hi z
    exact ((se_inj h hi).mp z)
  · intro h
    exact se_ext (fun i hi => ⟨fun z => h i hi z, fun z => z.elim⟩)
theorem se_nz {P : Nat → Prop} : ¬ se_S P = 0 ↔ ∃ i, i < 32 ∧ P i := by
  rw [se_z]
  constructor
  · intro h
    refine Classical.byContradiction (fun z => h (fun i hi hp => z ⟨i, hi, hp⟩))
  · rintro ⟨i, hi, hp⟩ h
    exact h i hi hp
theorem se_allb : ∀ n, n < 21 → ∀ i, i < 32 → bt (((1 : Int32) <<< (nI n &&& 31)) - 1) i = decide (i < n) := by decide +kernel
theorem se_all {n : Nat} (hn : n ≤ 20) : ((1 : Int32) <<< (nI n &&& 31)) - 1 = se_S (fun i => i < n) :=
  se_of (fun i hi => by rw [se_allb n (by omega) i hi]; simp)
theorem se_63b : ∀ i, i < 32 → bt 63 i = decide (i < 6) := by decide +kernel
theorem se_63 : (63 : Int32) = se_S (fun i => i < 6) :=
  se_of (fun i hi => by rw [se_63b i hi]; simp)
theorem se_s20 {P : Nat → Prop} (hP : ∀ i, i < 32 → P i → i ≤ 20) : (se_S P >>> ((20 : Int32) &&& 31)) = 0 ↔ ¬ P 20 := by
  have e : ∀ i, i < 32 → (bt (se_S P >>> ((20 : Int32) &&& 31)) i = true ↔ i = 0 ∧ P 20) := by
    intro i hi
    have e1 : bt (se_S P >>> ((20 : Int32) &&& 31)) i = if 20 + i < 32 then bt (se_S P) (20 + i) else bt (se_S P) 31 := b_sshr 20 (by omega) (se_S P) hi
    rw [e1]
    by_cases h : 20 + i < 32
    · rw [if_pos h, se_b h]
      constructor
      · intro z
        have := hP _ h z
        have e0 : i = 0 := by omega
        subst e0
        exact ⟨rfl, z⟩
      · rintro ⟨rfl, z⟩; exact z
    · rw [if_neg h, se_b (by omega)]
      constructor
      · intro z
        have := hP _ (by omega) z
        omega
      · rintro ⟨rfl, z⟩; omega
  rw [se_of e, se_z]
  constructor
  · intro h z; exact h 0 (by omega) ⟨rfl, z⟩
  · rintro h i _ ⟨_, z⟩; exact h z
/-- adding nothing, one's own number, a set -/
theorem se_n {x : Int32} {F : Nat → Prop} (h : ∀ i, ¬ F i) : x = x ||| se_S F := by
  apply b_ext
  intro i hi
  rw [b_or]
  have : bt (se_S F) i = false := by
    cases e : bt (se_S F) i
    · rfl
    · exact absurd ((se_b hi).mp e) (h i)
  rw [this, Bool.or_false]
theorem se_own {x : Int32} {c : Prop} {k : Nat} (hk : k < 32) (hc : c) : x ||| ((1 : Int32) <<< (nI k &&& 31)) = x ||| se_S (fun i => c ∧ i = k) := by
  rw [se_shl hk]
  exact congrArg _ (se_ext fun i _ => ⟨fun z => ⟨hc, z⟩, fun z => z.2⟩)
theorem se_set {x v : Int32} {c : Prop} {N : Nat → Prop} (hc : c) (hv : v = se_S N) : x ||| v = x ||| se_S (fun i => c ∧ N i) := by
  rw [hv]
  exact congrArg _ (se_ext fun i _ => ⟨fun z => ⟨hc, z⟩, fun z => z.2⟩)
theorem se_or0 (x : Int32) : x ||| 0 = x := by
  apply b_ext; intro i _; rw [b_or, b_0, Bool.or_false]
theorem se_0or (x : Int32) : 0 ||| x = x := by
  apply b_ext; intro i _; rw [b_or, b_0, Bool.false_or]
theorem se_and0 (x : Int32) : x &&& 0 = 0 := by
  apply b_ext; intro i _; rw [b_and, b_0, Bool.and_false]
theorem se_n0 (x : Int32) : x &&& ((0 : Int32) ^^^ (-1)) = x := by
  apply b_ext; intro i hi; rw [b_and, b_xor, b_0, b_m1 i hi]; simp
theorem gl_i {P : Int32 → Prop} {k : Nat} (h : P (nI (k + 1))) : ∀ z, z = nI k + 1 → P z := nm_r (nI_1 k) h

/-! counting -/
noncomputable def se_N (P : Nat → Prop) : Nat → Nat
  | 0 => 0
  | k + 1 => se_N P k + @ite _ (P k) (Classical.propDecidable _) 1 0
theorem se_Nle (P : Nat → Prop) : ∀ k, se_N P k ≤ k := by
  intro k
  induction k with
  | zero => exact Nat.le_refl _
  | succ k ih =>
    rw [se_N]
    by_cases h : P k
    · rw [if_pos h]; omega
    · rw [if_neg h]; omega
theorem se_Nmono {P Q : Nat → Prop} : ∀ k, (∀ i, i < k → P i → Q i) → se_N P k ≤ se_N Q k := by
  intro k
  induction k with
  | zero => intro _; exact Nat.le_refl _
  | succ k ih =>
    intro h
    have := ih (fun i hi => h i (by omega))
    rw [se_N, se_N]
    by_cases hp : P k
    · rw [if_pos hp, if_pos (h k (by omega) hp)]; omega
    · rw [if_neg hp]; omega
theorem se_Nlt {P Q : Nat → Prop} : ∀ k, (∀ i, i < k → P i → Q i) → (∃ i, i < k ∧ Q i ∧ ¬ P i) → se_N P k + 1 ≤ se_N Q k := by
  intro k
  induction k with
  | zero => rintro _ ⟨i, hi, _⟩; omega
  | succ k ih =>
    rintro h ⟨i, hi, hq, hp⟩
    rw [se_N, se_N]
    by_cases e : i = k
    · subst e
      have := se_Nmono (P := P) (Q := Q) i (fun j hj => h j (by omega))
      rw [if_pos hq, if_neg hp]; omega
    · have := ih (fun i hi => h i (by omega)) ⟨i, by omega, hq, hp⟩
      by_cases hp : P k
      · rw [if_pos hp, if_pos (h k (by omega) hp)]; omega
      · rw [if_neg hp]; omega
theorem se_Npos {P : Nat → Prop} {k i : Nat} (hi : i < k) (h : P i) : 1 ≤ se_N P k := by
  have := se_Nlt (P := fun _ => False) (Q := P) k (fun _ _ z => z.elim) ⟨i, hi, h, fun z => z⟩
  omega
theorem se_Nfull {P : Nat → Prop} {k : Nat} (h : k ≤ se_N P k) : ∀ i, i < k → P i := by
  intro i hi
  refine Classical.byContradiction fun hp => ?_
  have := se_Nlt (P := P) (Q := fun _ => True) k (fun _ _ _ => trivial) ⟨i, hi, trivial, hp⟩
  have := se_Nle (fun _ => True) k
  omega
/-! least sets -/
def lf_L (E : Nat → Nat → Prop) (A : Nat → Prop) (q : Nat) : Prop := ∀ S : Nat → Prop, (∀ a, A a → S a) → (∀ x y, S x → E x y → S y) → S q
theorem lf_i {E : Nat → Nat → Prop} {A : Nat → Prop} {q : Nat} (h : A q) : lf_L E A q := fun _ a _ => a q h
theorem lf_s {E : Nat → Nat → Prop} {A : Nat → Prop} {x y : Nat} (h : lf_L E A x) (e : E x y) : lf_L E A y := fun S a c => c x y (h S a c) e
theorem lf_sub {E E' : Nat → Nat → Prop} {A A' : Nat → Prop} {q : Nat} (h : lf_L E A q) (ha : ∀ a, A a → lf_L E' A' a) (he : ∀ x y, lf_L E A x → lf_L E' A' x → E x y → lf_L E' A' y) : lf_L E' A' q :=
  (h (fun x => lf_L E A x ∧ lf_L E' A' x) (fun a z => ⟨lf_i z, ha a z⟩) (fun x y z e => ⟨lf_s z.1 e, he x y z.1 z.2 e⟩)).2
/-- forward from p it meets T iff p lies in the least set backward from T -/
theorem lf_rev {E : Nat → Nat → Prop} {T : Nat → Prop} {p : Nat} : (∃ q, lf_L E (fun i => i = p) q ∧ T q) ↔ lf_L (fun y x => E x y) T p := by
  constructor
  · rintro ⟨q, h, t⟩
    have := h (fun x => lf_L (fun y x => E x y) T x → lf_L (fun y x => E x y) T p) (fun a e => by subst e; exact fun z => z) (fun x y z e w => z (lf_s w e))
    exact this (lf_i t)
  · intro h
    refine h (fun p => ∃ q, lf_L E (fun i => i = p) q ∧ T q) (fun a z => ⟨a, lf_i rfl, z⟩) ?_
    rintro x y ⟨q, h, t⟩ e
    refine ⟨q, ?_, t⟩
    exact h (fun z => lf_L E (fun i => i = y) z) (fun a z => by subst z; exact lf_s (lf_i rfl) e) (fun _ _ z e => lf_s z e)
end
section
/-! loops, without any printed predicate -/
/-- one adds F k at each k below n -/
theorem gl_col (W : Nat → Int32 → Int32 → Prop) (n : Nat) (F : Nat → Nat → Prop) (post : Int32 → Prop) (P0 : Nat → Prop)
    (hx : ∀ f x, post x → W (f + 1) x (nI n))
    (hs : ∀ f k x, k < n → (∀ y, y = x ||| se_S (F k) → W f y (nI (k + 1))) → W (f + 1) x (nI k))
    (hp : post (se_S (fun i => P0 i ∨ ∃ p, p < n ∧ F p i))) : ∃ f, W f (se_S P0) 0 := by
  have key : ∀ d k P, k + d = n → post (se_S (fun i => P i ∨ ∃ p, k ≤ p ∧ p < n ∧ F p i)) → W (d + 1) (se_S P) (nI k) := by
    intro d
    induction d with
    | zero =>
      intro k P hk h
      have e : k = n := by omega
      subst e
      refine hx _ _ ?_
      have e2 : se_S P = se_S (fun i => P i ∨ ∃ p, k ≤ p ∧ p < k ∧ F p i) := se_ext (fun i _ => ⟨fun z => Or.inl z, fun z => z.elim id (fun ⟨p, h1, h2, _⟩ => by omega)⟩)
      rw [e2]; exact h
    | succ d ih =>
      intro k P hk h
      refine hs _ k _ (by omega) (fun y ey => ?_)
      rw [ey, se_or]
      refine ih (k + 1) _ (by omega) ?_
      have e2 : se_S (fun i => (P i ∨ F k i) ∨ ∃ p, k + 1 ≤ p ∧ p < n ∧ F p i) = se_S (fun i => P i ∨ ∃ p, k ≤ p ∧ p < n ∧ F p i) := by
        refine se_ext (fun i _ => ⟨?_, ?_⟩)
        · rintro ((z | z) | ⟨p, h1, h2, z⟩)
          · exact Or.inl z
          · exact Or.inr ⟨k, Nat.le_refl _, by omega, z⟩
          · exact Or.inr ⟨p, by omega, h2, z⟩
        · rintro (z | ⟨p, h1, h2, z⟩)
          · exact Or.inl (Or.inl z)
          · by_cases e : p = k
            · subst e; exact Or.inl (Or.inr z)
            · exact Or.inr ⟨p, by omega, h2, z⟩
      rw [e2]; exact h
  refine ⟨n + 1, key n 0 P0 (by omega) ?_⟩
  have e2 : se_S (fun i => P0 i ∨ ∃ p, 0 ≤ p ∧ p < n ∧ F p i) = se_S (fun i => P0 i ∨ ∃ p, p < n ∧ F p i) :=
    se_ext (fun i _ => ⟨fun z => z.imp id (fun ⟨p, _, h⟩ => ⟨p, h⟩), fun z => z.imp id (fun ⟨p, h⟩ => ⟨p, Nat.zero_le _, h⟩)⟩)
  rw [e2]; exact hp
theorem gl_col0 (W : Nat → Int32 → Int32 → Prop) (n : Nat) (F : Nat → Nat → Prop) (post : Int32 → Prop)
    (hx : ∀ f x, post x → W (f + 1) x (nI n))
    (hs : ∀ f k x, k < n → (∀ y, y = x ||| se_S (F k) → W f y (nI (k + 1))) → W (f + 1) x (nI k))
    (hp : post (se_S (fun i => ∃ p, p < n ∧ F p i))) : ∃ f, W f 0 0 := by
  have h := gl_col W n F post (fun _ => False) hx hs (by
    have e2 : se_S (fun i => False ∨ ∃ p, p < n ∧ F p i) = se_S (fun i => ∃ p, p < n ∧ F p i) := se_ext (fun i _ => ⟨fun z => z.elim False.elim id, Or.inr⟩)
    rw [e2]; exact hp)
  rw [← se_0] at h
  exact h
/-- rounds that widen a set until one finds nothing new, at most 21 -/
theorem gl_clo (W : Nat → Int32 → Int32 → Prop) (E : Nat → Nat → Prop) (A : Nat → Prop) (post : Int32 → Prop) (P0 : Nat → Prop)
    (hb : ∀ i, lf_L E A i → i < 21)
    (h0 : ∀ i, P0 i → lf_L E A i)
    (hx : ∀ f x, post x → W (f + 1) x (nI 21))
    (hs : ∀ f k P, k < 21 → (∀ i, P i → lf_L E A i) → (∀ i, P0 i → P i) → (∀ y, y = se_S (fun i => P i ∨ A i ∨ ∃ p, P p ∧ E p i) → (y = se_S P → post (se_S P)) ∧ (¬ y = se_S P → W f y (nI (k + 1)))) → W (f + 1) (se_S P) (nI k))
    (hp : post (se_S (lf_L E A))) : ∃ f, W f (se_S P0) 0 := by
  have key : ∀ d k P, k + d = 21 → (∀ i, P i → lf_L E A i) → (∀ i, P0 i → P i) → k ≤ se_N P 21 → W (d + 1) (se_S P) (nI k) := by
    intro d
    induction d with
    | zero =>
      intro k P hk hP h0P hc
      have e : k = 21 := by omega
      subst e
      refine hx _ _ ?_
      have e2 : se_S P = se_S (lf_L E A) := se_ext (fun i _ => ⟨hP i, fun z => se_Nfull hc i (hb i z)⟩)
      rw [e2]; exact hp
    | succ d ih =>
      intro k P hk hP h0P hc
      refine hs _ k P (by omega) hP h0P (fun y ey => ⟨fun e => ?_, fun e => ?_⟩)
      · rw [ey] at e
        have e2 : se_S P = se_S (lf_L E A) := by
          refine se_ext (fun i _ => ⟨hP i, fun z => z P (fun a ha => ?_) (fun x y hx hxy => ?_)⟩)
          · have := hb a (lf_i ha)
            exact (se_inj e (i := a) (by omega)).mp (Or.inr (Or.inl ha))
          · have := hb y (lf_s (hP x hx) hxy)
            exact (se_inj e (i := y) (by omega)).mp (Or.inr (Or.inr ⟨x, hx, hxy⟩))
        rw [e2]; exact hp
      · rw [ey] at e
        rw [ey]
        have hQ : ∀ i, (P i ∨ A i ∨ ∃ p, P p ∧ E p i) → lf_L E A i := by
          rintro i (z | z | ⟨p, z, e⟩)
          · exact hP i z
          · exact lf_i z
          · exact lf_s (hP p z) e
        refine ih (k + 1) _ (by omega) hQ (fun i z => Or.inl (h0P i z)) ?_
        have hn : ∃ i, i < 21 ∧ (P i ∨ A i ∨ ∃ p, P p ∧ E p i) ∧ ¬ P i := by
          refine Classical.byContradiction fun z => e (se_ext fun i _ => ⟨fun w => ?_, fun w => Or.inl w⟩)
          exact Classical.byContradiction fun w2 => z ⟨i, hb i (hQ i w), w, w2⟩
        have := se_Nlt (P := P) (Q := fun i => P i ∨ A i ∨ ∃ p, P p ∧ E p i) 21 (fun i _ z => Or.inl z) hn
        omega
  exact ⟨22, key 21 0 P0 (by omega) h0 (fun _ z => z) (Nat.zero_le _)⟩
/-- passes, R of them, over at most N sources -/
theorem gl_sat (W : Nat → (Nat → Prop) → Nat → Prop) (E : Nat → Nat → Prop) (A : Nat → Prop) (N R c : Nat) (hR : N < R + c)
    (hE : ∀ x y, E x y → x < N) (post : (Nat → Prop) → Prop)
    (hx : ∀ f P, post P → W (f + 1) P R)
    (hs : ∀ f r P, r < R → (∀ i, P i → lf_L E A i) → (∀ P', (∀ i, P i → P' i) → (∀ i, A i → P' i) → (∀ i, P' i → lf_L E A i) → (∀ x y, P x → E x y → P' y) → W f P' (r + 1)) → (∀ i, A i → P i) ∨ c = 0 → W (f + 1) P r)
    (hp : ∀ P, (∀ i, P i ↔ lf_L E A i) → post P)
    (P0 : Nat → Prop) (h0 : ∀ i, P0 i → lf_L E A i) (hA : (∀ i, A i → P0 i) ∨ c = 0) (hc : (∀ i, lf_L E A i → P0 i) ∨ c ≤ se_N P0 N) : ∃ f, W f P0 0 := by
  have key : ∀ d r P, r + d = R → (∀ i, P i → lf_L E A i) → ((∀ i, A i → P i) ∨ c = 0) → ((∀ i, lf_L E A i → P i) ∨ r + c ≤ se_N P N) → W (d + 1) P r := by
    intro d
    induction d with
    | zero =>
      intro r P hr hP hA hc
      have e : r = R := by omega
      subst e
      refine hx _ _ (hp P fun i => ⟨hP i, ?_⟩)
      rcases hc with hc | hc
      · exact hc i
      · have := se_Nle P N
        omega
    | succ d ih =>
      intro r P hr hP hA hc
      refine hs _ r P (by omega) hP (fun P' h1 h2 h3 h4 => ih (r + 1) P' (by omega) h3 (Or.inl h2) ?_) hA
      rcases hc with hc | hc
      · exact Or.inl (fun i z => h1 i (hc i z))
      · by_cases hn : ∃ x, x < N ∧ P' x ∧ ¬ P x
        · right
          have := se_Nlt (P := P) (Q := P') N (fun i _ z => h1 i z) hn
          omega
        · left
          intro i z
          refine z P' h2 (fun x y hx hxy => ?_)
          have hxN := hE x y hxy
          refine h4 x y ?_ hxy
          exact Classical.byContradiction fun w => hn ⟨x, hxN, hx, w⟩
  exact ⟨R + 1, key R 0 P0 (by omega) h0 hA (hc.imp id (fun z => by omega))⟩
/-- one pass: at each k below n what k owes is added, and nothing outside L -/
theorem gl_pass (W : Nat → (Nat → Prop) → Nat → Prop) (L : Nat → Prop) (C : Nat → Nat → Prop) (n : Nat) (P : Nat → Prop) (hP : ∀ i, P i → L i) (done : (Nat → Prop) → Prop)
    (hx : ∀ f Q, done Q → W (f + 1) Q n)
    (hs : ∀ f k Q, k < n → (∀ i, P i → Q i) → (∀ i, Q i → L i) → (∀ Q', (∀ i, Q i → Q' i) → (∀ i, Q' i → L i) → (∀ y, C k y → Q' y) → W f Q' (k + 1)) → W (f + 1) Q k)
    (hp : ∀ P', (∀ i, P i → P' i) → (∀ i, P' i → L i) → (∀ k y, k < n → C k y → P' y) → done P') : ∃ f, W f P 0 := by
  have key : ∀ d k Q, k + d = n → (∀ i, P i → Q i) → (∀ i, Q i → L i) → (∀ j y, j < k → C j y → Q y) → W (d + 1) Q k := by
    intro d
    induction d with
    | zero =>
      intro k Q hk h1 h2 h3
      have e : k = n := by omega
      subst e
      exact hx _ _ (hp Q h1 h2 h3)
    | succ d ih =>
      intro k Q hk h1 h2 h3
      refine hs _ k Q (by omega) h1 h2 (fun Q' g1 g2 g3 => ih (k + 1) Q' (by omega) (fun i z => g1 i (h1 i z)) g2 ?_)
      intro j y hj hc
      by_cases e : j = k
      · subst e; exact g3 y hc
      · exact g1 y (h3 j y (by omega) hc)
  exact ⟨n + 1, key n 0 P (by omega) (fun _ z => z) hP (fun j y hj _ => by omega)⟩
end
section
/-! the code, as both keep it: n, o (operation), v, a, b; ways; the reference's small methods -/
def cd_sp (n t : Nat) : Nat := if t < n then t else 20
def cd_Wr (o : Nat → Int32) (p : Nat) : Prop := ¬ (3 : Int32) < o p
def cd_Cp (o : Nat → Int32) (p : Nat) : Prop := o p = 2 ∨ o p = 3
def cd_Rf (o : Nat → Int32) (p : Nat) : Prop := ¬ o p = 0 ∧ ¬ o p = 5
def cd_G (n : Nat) (o b : Nat → Int32) (p q : Nat) : Prop := p < n ∧ ((¬ o p = 5 ∧ q = cd_sp n (p + 1)) ∨ ((o p = 5 ∨ o p = 6) ∧ q = cd_sp n (b p).toNatClampNeg))
def cd_Op (o v a b : Nat → Int32) (p : Nat) : Prop := (¬ o p < 0 ∧ o p ≤ 6) ∧ (cd_Wr o p → ∃ i, i < 6 ∧ v p = nI i) ∧ (cd_Rf o p → ∃ i, i < 6 ∧ a p = nI i) ∧ (cd_Cp o p → ∃ i, i < 6 ∧ b p = nI i) ∧ (o p = 5 ∨ o p = 6 → ∃ i, i ≤ 20 ∧ b p = nI i)
def cd_Ok (n : Nat) (o v a b : Nat → Int32) : Prop := n ≤ 20 ∧ ∀ p, p < n → cd_Op o v a b p
def cd_Wt (o v : Nat → Int32) (p i : Nat) : Prop := cd_Wr o p ∧ v p = nI i
def cd_Rd (o a b : Nat → Int32) (p i : Nat) : Prop := (cd_Rf o p ∧ a p = nI i) ∨ (cd_Cp o p ∧ b p = nI i)
def cd_Sm (o a b : Nat → Int32) (q p : Nat) : Prop := cd_Cp o q ∧ o q = o p ∧ a q = a p ∧ b q = b p
def cd_Nm (o a b : Nat → Int32) (e : Nat) : Prop := cd_Cp o e ∧ ∀ p, p < e → ¬ cd_Sm o a b p e
def cd_Sl (o v a b : Nat → Int32) (p e : Nat) : Prop := cd_Wr o p ∧ (v p = a e ∨ v p = b e)
def fl_E (n : Nat) (o b : Nat → Int32) (B C : Nat → Prop) (x y : Nat) : Prop := cd_G n o b x y ∧ ¬ B x ∧ ¬ C y
def fl_F (n : Nat) (o b : Nat → Int32) (A B C : Nat → Prop) (q : Nat) : Prop := lf_L (fl_E n o b B C) (fun i => A i ∧ ¬ C i) q
def fl_R (n : Nat) (o b : Nat → Int32) (q : Nat) : Prop := fl_F n o b (fun i => 0 < n ∧ i = 0) (fun _ => False) (fun _ => False) q ∧ q < n
def cd_Eg (x : Int32) : Prop := ¬ x < 0 ∧ ¬ 2 < x
theorem cd_spl {n t : Nat} (hn : n ≤ 20) : cd_sp n t ≤ 20 := by
  unfold cd_sp; split <;> omega
theorem cd_spi {n t : Nat} (h : t < n) : cd_sp n t = t := if_pos h
theorem cd_Gl {n : Nat} {o b : Nat → Int32} {p q : Nat} (hn : n ≤ 20) (h : cd_G n o b p q) : q ≤ 20 := by
  rcases h.2 with ⟨_, e⟩ | ⟨_, e⟩ <;> (rw [e]; exact cd_spl hn)
theorem fl_Fl {n : Nat} {o b : Nat → Int32} {A B C : Nat → Prop} {q : Nat} (hn : n ≤ 20) (hA : ∀ i, A i → i ≤ 20) (h : fl_F n o b A B C q) : q ≤ 20 :=
  h (fun q => q ≤ 20) (fun i z => hA i z.1) (fun _ _ _ e => cd_Gl hn e.1)
theorem ix_le {n k : Nat} (h : n ≤ k) (hk : k < 2 ^ 31) : nI n ≤ nI k := nI_le h hk
theorem ix_in {p : Nat} (h : p < 20) : vp_in (nI p) 20 := vp_in_nI h (by omega)
theorem ix_cl {p : Nat} (h : p < 20) : (nI p).toNatClampNeg = p := nI_clamp (by omega)
/-- a given position: within the code or not -/
theorem ix_c (x : Int32) {n : Nat} (hn : n ≤ 20) : (∃ p, p < n ∧ x = nI p) ∨ (x < 0 ∨ (¬ x < 0 ∧ nI n ≤ x)) ∧ ∀ p, p < n → x ≠ nI p := by
  by_cases h0 : x < 0
  · right
    refine ⟨Or.inl h0, fun p hp e => ?_⟩
    rw [e] at h0
    exact nI_pos (n := p) (by omega) h0
  · obtain ⟨j, hj, e⟩ := nI_of h0
    by_cases h : j < n
    · exact Or.inl ⟨j, h, e⟩
    · right
      refine ⟨Or.inr ⟨h0, by rw [e]; exact nI_le (by omega) hj⟩, fun p hp e2 => ?_⟩
      rw [e] at e2
      have := (nI_eq hj (by omega)).mp e2
      omega
theorem ix_20 : (1048576 : Int32) = se_S (fun i => i = 20) := by
  rw [← se_shl (p := 20) (by omega)]; decide +kernel
section
variable {n : Nat} {o v a b : Nat → Int32} {post : Int32 → Prop}
theorem fy_variable {u : SY} {x : Int32} (h1 : ¬ x < 0 → ¬ 5 < x → post 1) (h0 : ¬ (¬ x < 0 ∧ ¬ 5 < x) → post 0) : wpY_variable post u x := by
  obtain ⟨_, _, _, _, _⟩ := u
  exact br_c (fun h => h0 (fun z => z.1 h)) (fun h => br_c (fun g => h0 (fun z => z.2 g)) (fun g => h1 h g))
theorem fy_writes {u : SY} {x : Int32} (h1 : ¬ 3 < x → post 1) (h0 : 3 < x → post 0) : wpY_writes post u x := by
  obtain ⟨_, _, _, _, _⟩ := u
  exact br_c h0 h1
theorem fy_computes {u : SY} {x : Int32} (h1 : x = 2 ∨ x = 3 → post 1) (h0 : ¬ (x = 2 ∨ x = 3) → post 0) : wpY_computes post u x := by
  obtain ⟨_, _, _, _, _⟩ := u
  exact br_c (fun h => h1 (Or.inl h)) (fun h => br_c (fun g => h1 (Or.inr g)) (fun g => h0 (fun z => z.elim h g)))
theorem ix_07 {x : Int32} (h0 : ¬ x < 0) (h6 : x ≤ 6) : ∃ j : Nat, j ≤ 6 ∧ x = nI j := nI_of2 (by decide) h0 h6
theorem ix_rf : ∀ j, j < 7 → ((nI j < 1 → (nI j = 6 ↔ (¬ nI j = 0 ∧ ¬ nI j = 5))) ∧ (¬ nI j < 1 → nI j ≤ 4 → (¬ nI j = 0 ∧ ¬ nI j = 5)) ∧ (¬ nI j < 1 → ¬ nI j ≤ 4 → (nI j = 6 ↔ (¬ nI j = 0 ∧ ¬ nI j = 5)))) := by decide +kernel
theorem fy_readsFirst {u : SY} {x : Int32} (hx0 : ¬ x < 0) (hx6 : x ≤ 6) (h1 : (¬ x = 0 ∧ ¬ x = 5) → post 1) (h0 : ¬ (¬ x = 0 ∧ ¬ x = 5) → post 0) : wpY_readsFirst post u x := by
  obtain ⟨_, _, _, _, _⟩ := u
  obtain ⟨j, hj, rfl⟩ := ix_07 hx0 hx6
  obtain ⟨a1, a2, a3⟩ := ix_rf j (by omega)
  refine br_c (fun h => br_c (fun g => h1 ((a1 h).mp g)) (fun g => h0 (fun z => g ((a1 h).mpr z)))) (fun h => br_c (fun g => h1 (a2 h g)) (fun g => br_c (fun k => h1 ((a3 h g).mp k)) (fun k => h0 (fun z => k ((a3 h g).mpr z)))))
theorem fy_place {x : Int32} {t : Nat} (hn : n ≤ 20) (ht : t ≤ 20) (hx : x = nI t) (h : post (se_S (fun i => i = cd_sp n t))) : wpY_place post ((nI n), o, v, a, b) x := by
  subst hx
  by_cases g : t < n
  · refine br_f (nI_ge g (by omega)) ?_
    rw [se_shl (by omega)]
    rw [cd_spi g] at h
    exact h
  · refine br_t (nI_le (by omega) (by omega)) ?_
    rw [ix_20]
    unfold cd_sp at h
    rw [if_neg g] at h
    exact h
theorem fy_goingOn (ok : cd_Ok n o v a b) {p : Nat} (hp : p < n) (h : post (se_S (cd_G n o b p))) : wpY_goingOn post ((nI n), o, v, a, b) (nI p) := by
  have hn := ok.1
  have hi : vp_in (nI p) 20 := ix_in (by omega)
  have ec : (nI p).toNatClampNeg = p := ix_cl (by omega)
  obtain ⟨_, _, _, _, hj⟩ := ok.2 p hp
  unfold wpY_goingOn
  dsimp only
  rw [ec]
  refine ⟨hi, br_c (fun h5 => ⟨hi, ?_⟩) (fun h5 => ⟨hi, br_c (fun h6 => ⟨hi, ?_⟩) (fun h6 => ?_)⟩)⟩
  · obtain ⟨t, ht, et⟩ := hj (Or.inl h5)
    refine fy_place hn ht et ?_
    have e : se_S (cd_G n o b p) = se_S (fun i => i = cd_sp n t) := se_ext (fun i _ => by
      unfold cd_G
      rw [et, nI_clamp (by omega)]
      exact ⟨fun z => z.2.elim (fun w => absurd h5 w.1) (fun w => w.2), fun z => ⟨hp, Or.inr ⟨Or.inl h5, z⟩⟩⟩)
    rw [← e]; exact h
  · obtain ⟨t, ht, et⟩ := hj (Or.inr h6)
    refine fy_place hn ht et (fy_place hn (t := p + 1) (by omega) (nI_1 p) ?_)
    have e : se_S (cd_G n o b p) = se_S (fun i => i = cd_sp n t) ||| se_S (fun i => i = cd_sp n (p + 1)) := by
      rw [se_or]
      refine se_ext (fun i _ => ?_)
      unfold cd_G
      rw [et, nI_clamp (by omega)]
      exact ⟨fun z => z.2.elim (fun w => Or.inr w.2) (fun w => Or.inl w.2), fun z => ⟨hp, z.elim (fun w => Or.inr ⟨Or.inr h6, w⟩) (fun w => Or.inl ⟨h5, w⟩)⟩⟩
    rw [← e]; exact h
  · refine fy_place hn (t := p + 1) (by omega) (nI_1 p) ?_
    have e : se_S (cd_G n o b p) = se_S (fun i => i = cd_sp n (p + 1)) := se_ext (fun i _ => by
      unfold cd_G
      exact ⟨fun z => z.2.elim (fun w => w.2) (fun w => absurd w.1 (fun q => q.elim h5 h6)), fun z => ⟨hp, Or.inl ⟨h5, z⟩⟩⟩)
    rw [← e]; exact h
theorem fy_flow (ok : cd_Ok n o v a b) {A B C : Nat → Prop} (h : post (se_S (fl_F n o b A B C))) : wpY_flow post ((nI n), o, v, a, b) (se_S A) (se_S B) (se_S C) := by
  have hn := ok.1
  unfold wpY_flow
  dsimp only
  have e0 : se_S A &&& (se_S C ^^^ (-1)) = se_S (fun i => A i ∧ ¬ C i) := by rw [se_not, se_and]
  refine nm_r e0 ?_
  refine gl_sat (fun f P r => wY_flow_10 post (se_S B) (se_S C) (nI n) o v a b f (se_S P) (nI r)) (fl_E n o b B C) (fun i => A i ∧ ¬ C i) n 20 1 (by omega) (fun x y e => e.1.1) (fun P => post (se_S P)) ?_ ?_ ?_ _ (fun i z => lf_i z) (Or.inl fun _ z => z) ?_
  · intro f P h
    exact br_t (nI_le (a := 20) (b := 20) (by omega) (by omega)) h
  · intro f r P hr hP hk hA
    refine br_f (nI_ge (b := 20) hr (by omega)) ?_
    refine gl_pass (fun g Q k => wY_flow_20 post (wY_flow_10 post (se_S B) (se_S C) (nI n) o v a b f) (se_S B) (se_S C) (nI r) (nI n) o v a b g (se_S Q) (nI k)) (lf_L (fl_E n o b B C) (fun i => A i ∧ ¬ C i)) (fun k y => P k ∧ fl_E n o b B C k y) n P hP (fun Q => wY_flow_10 post (se_S B) (se_S C) (nI n) o v a b f (se_S Q) (nI (r + 1))) ?_ ?_ ?_
    · intro g Q hd
      exact br_t (nI_le (Nat.le_refl _) (by omega)) (gl_i hd)
    · intro g k Q hk1 h1 h2 hk2
      refine br_f (nI_ge hk1 (by omega)) ?_
      by_cases hQ : Q k
      · refine br_t ((se_h1 (by omega)).mpr hQ) ?_
        by_cases hB : B k
        · refine br_f (fun z => (se_h0 (by omega)).mp z hB) ?_
          exact br_t rfl (gl_i (hk2 Q (fun _ z => z) h2 (fun y hc => absurd hB hc.2.2.1)))
        · refine br_t ((se_h0 (by omega)).mpr hB) ?_
          refine br_f (by decide) (fy_goingOn ok hk1 ?_)
          have e : se_S Q ||| (se_S (cd_G n o b k) &&& (se_S C ^^^ (-1))) = se_S (fun i => Q i ∨ fl_E n o b B C k i) := by
            rw [se_not, se_and, se_or]
            exact se_ext (fun i _ => ⟨fun z => z.imp id (fun w => ⟨w.1, hB, w.2⟩), fun z => z.imp id (fun w => ⟨w.1, w.2.2⟩)⟩)
          refine nm_r e (gl_i (hk2 _ (fun _ z => Or.inl z) (fun i z => z.elim (h2 i) (fun w => lf_s (h2 k hQ) w)) (fun y hc => Or.inr hc.2)))
      · refine br_f (fun z => hQ ((se_h1 (by omega)).mp z)) ?_
        exact br_t rfl (gl_i (hk2 Q (fun _ z => z) h2 (fun y hc => absurd (h1 k hc.1) hQ)))
    · intro P' g1 g2 g3
      exact hk P' g1 (fun i z => g1 i (hA.elim (fun w => w i z) (fun w => absurd w (by decide)))) g2 (fun x y hx e => g3 x y e.1.1 ⟨hx, e⟩)
  · intro P hP
    have e : se_S P = se_S (fl_F n o b A B C) := se_ext (fun i _ => hP i)
    show post (se_S P)
    rw [e]; exact h
  · by_cases hz : ∃ i, i < n ∧ A i ∧ ¬ C i
    · right
      obtain ⟨i, hi, z⟩ := hz
      exact se_Npos (P := fun i => A i ∧ ¬ C i) hi z
    · left
      intro i z
      exact z (fun i => A i ∧ ¬ C i) (fun _ w => w) (fun x y hx e => absurd ⟨x, e.1.1, hx⟩ hz)
end
end
section
/-! the reference's methods, each by its set -/
theorem gl_pick (W : Nat → Int32 → Int32 → Prop) (n : Nat) (c : Nat → Prop) (post : Int32 → Prop) (hn : n ≤ 32)
    (hx : ∀ f x, post x → W (f + 1) x (nI n))
    (hs : ∀ f k x, k < n → (¬ c k → W f x (nI (k + 1))) → (c k → W f (x ||| ((1 : Int32) <<< (nI k &&& 31))) (nI (k + 1))) → W (f + 1) x (nI k))
    (hp : post (se_S (fun i => i < n ∧ c i))) : ∃ f, W f 0 0 := by
  refine gl_col0 W n (fun k i => c k ∧ i = k) post hx ?_ ?_
  · intro f k x hk h
    refine hs f k x hk (fun hc => h _ (se_n (fun i z => hc z.1))) (fun hc => h _ (se_own (by omega) hc))
  · have e : se_S (fun i => ∃ p, p < n ∧ c p ∧ i = p) = se_S (fun i => i < n ∧ c i) :=
      se_ext (fun i _ => ⟨fun ⟨p, h1, h2, h3⟩ => by subst h3; exact ⟨h1, h2⟩, fun z => ⟨i, z.1, z.2, rfl⟩⟩)
    rw [e]; exact hp
theorem gl_un (W : Nat → Int32 → Int32 → Prop) (n : Nat) (c : Nat → Prop) (N : Nat → Nat → Prop) (post : Int32 → Prop)
    (hx : ∀ f x, post x → W (f + 1) x (nI n))
    (hs : ∀ f k x, k < n → (¬ c k → W f x (nI (k + 1))) → (c k → ∀ y, y = x ||| se_S (N k) → W f y (nI (k + 1))) → W (f + 1) x (nI k))
    (hp : post (se_S (fun i => ∃ p, p < n ∧ c p ∧ N p i))) : ∃ f, W f 0 0 := by
  refine gl_col0 W n (fun k i => c k ∧ N k i) post hx ?_ hp
  intro f k x hk h
  refine hs f k x hk (fun hc => h _ (se_n (fun i z => hc z.1))) (fun hc y ey => h y ?_)
  rw [ey]; exact se_set hc rfl
theorem se_mt {P Q : Nat → Prop} (h : ∀ i, P i → Q i → i < 32) : (se_S P &&& se_S Q) = 0 ↔ ¬ ∃ i, P i ∧ Q i := by
  rw [se_and, se_z]
  exact ⟨fun z w => w.elim (fun i hi => z i (h i hi.1 hi.2) hi), fun z i _ hi => z ⟨i, hi⟩⟩
def fl_st (n : Nat) (i : Nat) : Prop := 0 < n ∧ i = 0
def fl_W (n : Nat) (o v : Nat → Int32) (x : Int32) (p : Nat) : Prop := p < n ∧ cd_Wr o p ∧ v p = x
def fl_Live (n : Nat) (o v a b : Nat → Int32) (p i : Nat) : Prop := ∃ q, fl_F n o b (fun j => j = p) (fl_W n o v (nI i)) (fun _ => False) q ∧ q < n ∧ cd_Rd o a b q i
def fl_Rea (n : Nat) (o v : Nat → Int32) (b : Nat → Int32) (p d : Nat) : Prop := d < n ∧ (fl_R n o b d ∧ cd_Wr o d) ∧ fl_F n o b (cd_G n o b d) (fl_W n o v (v d)) (fun _ => False) p
def fl_Miss (n : Nat) (o v a b : Nat → Int32) (p e : Nat) : Prop := ∃ q, fl_F n o b (fun j => j = p) (fun q => q < n ∧ cd_Sm o a b q e) (fun _ => False) q ∧ (q = 20 ∨ (q < n ∧ ¬ cd_Sm o a b q e ∧ cd_Sl o v a b q e))
def fl_Bf (n : Nat) (o b : Nat → Int32) (q p : Nat) : Prop := ¬ fl_F n o b (fl_st n) (fun _ => False) (fun i => i = q) p
def fl_Fr (n : Nat) (o b : Nat → Int32) (p i : Nat) : Prop := (∃ r, r < n ∧ (fl_R n o b r ∧ fl_Bf n o b p r) ∧ cd_G n o b r i) ∧ ¬ (i < n ∧ i ≠ p ∧ fl_Bf n o b p i) ∧ fl_R n o b i
def fl_End (n : Nat) (o b : Nat → Int32) (C : Nat → Prop) (p : Nat) : Prop := fl_F n o b (fun j => j = p) (fun _ => False) C 20
def fl_Bk (n : Nat) (o b : Nat → Int32) (h r : Nat) : Prop := r < n ∧ (fl_R n o b r ∧ cd_G n o b r h ∧ fl_Bf n o b h r)
def fl_Un (n : Nat) (o v b : Nat → Int32) (p i : Nat) : Prop := fl_F n o b (fl_st n) (fl_W n o v (nI i)) (fun _ => False) p
section
variable {n : Nat} {o v a b : Nat → Int32} {post : Int32 → Prop}
theorem fy_start (h : post (se_S (fl_st n))) (hn : n ≤ 20) : wpY_start post ((nI n), o, v, a, b) := by
  by_cases h0 : n = 0
  · subst h0
    refine br_t (nI_le (a := 0) (b := 0) (by omega) (by omega)) ?_
    have e : se_S (fl_st 0) = 0 := se_z.mpr (fun i _ z => absurd z.1 (by omega))
    rw [← e]; exact h
  · refine br_f (nI_ge (a := 0) (by omega) (by omega)) ?_
    have e : se_S (fl_st n) = 1 := by
      rw [se_1]; exact se_ext (fun i _ => ⟨fun z => z.2, fun z => ⟨by omega, z⟩⟩)
    rw [← e]; exact h
theorem fy_code (hn : n ≤ 20) (h : post (se_S (fun i => i < n))) : wpY_code post ((nI n), o, v, a, b) := by
  unfold wpY_code
  dsimp only
  rw [se_all hn]; exact h
theorem fy_flowE (ok : cd_Ok n o v a b) {x y z : Int32} {A B C : Nat → Prop} (hA : x = se_S A) (hB : y = se_S B) (hC : z = se_S C) (h : post (se_S (fl_F n o b A B C))) : wpY_flow post ((nI n), o, v, a, b) x y z := by
  subst hA hB hC
  exact fy_flow ok h
theorem fy_reachable (ok : cd_Ok n o v a b) (h : post (se_S (fl_R n o b))) : wpY_reachable post ((nI n), o, v, a, b) := by
  unfold wpY_reachable
  dsimp only
  refine fy_start (fy_flowE ok rfl se_0 se_0 (fy_code ok.1 ?_)) ok.1
  rw [se_and]; exact h
theorem fy_in (hn : n ≤ 20) {x : Int32} (h1 : ∀ p, p < n → x = nI p → post 1) (h0 : (∀ p, p < n → x ≠ nI p) → post 0) : wpY_in post ((nI n), o, v, a, b) x := by
  rcases ix_c x hn with ⟨p, hp, e⟩ | ⟨h, g⟩
  · subst e
    exact br_f (nI_pos (by omega)) (br_f (nI_ge hp (by omega)) (h1 p hp rfl))
  · rcases h with h | h
    · exact br_t h (h0 g)
    · exact br_f h.1 (br_t h.2 (h0 g))
theorem fy_canReachN (ok : cd_Ok n o v a b) {p : Nat} (hp : p < n) (h1 : fl_R n o b p → post 1) (h0 : ¬ fl_R n o b p → post 0) : wpY_canReach post ((nI n), o, v, a, b) (nI p) := by
  have hn := ok.1
  unfold wpY_canReach
  dsimp only
  refine fy_in ok.1 (fun q hq e => br_f (by decide) (fy_reachable ok ?_)) (fun g => absurd rfl (g p hp))
  by_cases hR : fl_R n o b p
  · exact br_t ((se_h1 (by omega)).mpr hR) (h1 hR)
  · exact br_f (fun z => hR ((se_h1 (by omega)).mp z)) (h0 hR)
theorem fy_canReach (ok : cd_Ok n o v a b) {x : Int32} (h1 : ∀ p, p < n → x = nI p → fl_R n o b p → post 1) (h0 : ¬ (∃ p, p < n ∧ x = nI p ∧ fl_R n o b p) → post 0) : wpY_canReach post ((nI n), o, v, a, b) x := by
  rcases ix_c x ok.1 with ⟨p, hp, e⟩ | ⟨h, g⟩
  · subst e
    have hn := ok.1
    refine fy_canReachN ok hp (h1 p hp rfl) (fun hR => h0 ?_)
    rintro ⟨q, hq, e, z⟩
    have := (nI_eq (by omega) (by omega)).mp e
    subst this
    exact hR z
  · unfold wpY_canReach
    dsimp only
    refine fy_in ok.1 (fun q hq e => absurd e (g q hq)) (fun _ => br_t rfl (h0 ?_))
    rintro ⟨q, hq, e, z⟩
    exact g q hq e
theorem fy_engine {u : SY} {x : Int32} (h1 : cd_Eg x → post 1) (h0 : ¬ cd_Eg x → post 0) : wpY_engine post u x := by
  obtain ⟨_, _, _, _, _⟩ := u
  exact br_c (fun h => h0 (fun z => z.1 h)) (fun h => br_c (fun g => h0 (fun z => z.2 g)) (fun g => h1 ⟨h, g⟩))
theorem fy_writers (hn : n ≤ 20) {x : Int32} (h : post (se_S (fl_W n o v x))) : wpY_writers post ((nI n), o, v, a, b) x := by
  unfold wpY_writers
  dsimp only
  refine gl_pick (fun f x1 y => wY_writers_4 post x (nI n) o v a b f x1 y) n (fun p => cd_Wr o p ∧ v p = x) post (by omega) ?_ ?_ h
  · intro f x h
    exact br_t (nI_le (Nat.le_refl _) (by omega)) h
  · intro f k y hk h0 h1
    refine br_f (nI_ge hk (by omega)) ⟨ix_in (by omega), ?_⟩
    rw [ix_cl (by omega : k < 20)]
    refine fy_writes (fun hw => br_f (by decide) ⟨ix_in (by omega), ?_⟩) (fun hw => br_t rfl (gl_i (h0 (fun z => z.1 hw))))
    exact br_c (fun hv => nm_e (gl_i (h1 ⟨hw, hv⟩))) (fun hv => gl_i (h0 (fun z => hv z.2)))
theorem fy_readers (ok : cd_Ok n o v a b) {i : Nat} (h : post (se_S (fun p => p < n ∧ cd_Rd o a b p i))) : wpY_readers post ((nI n), o, v, a, b) (nI i) := by
  have hn := ok.1
  unfold wpY_readers
  dsimp only
  refine gl_pick (fun f x1 y => wY_readers_4 post (nI i) (nI n) o v a b f x1 y) n (fun p => cd_Rd o a b p i) post (by omega) ?_ ?_ h
  · intro f x h
    exact br_t (nI_le (Nat.le_refl _) (by omega)) h
  · intro f k y hk h0 h1
    obtain ⟨hop, _⟩ := ok.2 k hk
    have H35 : ¬ (cd_Rf o k ∧ a k = nI i) → wY_readers_35 post (wY_readers_4 post (nI i) (nI n) o v a b f) (nI i) y (nI k) (nI n) o v a b := by
      intro hr
      refine ⟨ix_in (by omega), ?_⟩
      rw [ix_cl (by omega : k < 20)]
      refine fy_computes (fun hc => br_f (by decide) ⟨ix_in (by omega), br_c (fun hb => br_f (by decide) (nm_e (gl_i (h1 (Or.inr ⟨hc, hb⟩))))) (fun hb => br_t rfl (gl_i (h0 (fun z => z.elim hr (fun w => hb w.2)))))⟩) (fun hc => br_t rfl (br_t rfl (gl_i (h0 (fun z => z.elim hr (fun w => hc w.1))))))
    refine br_f (nI_ge hk (by omega)) ⟨ix_in (by omega), ?_⟩
    rw [ix_cl (by omega : k < 20)]
    refine fy_readsFirst hop.1 hop.2 (fun hr => br_f (by decide) ⟨ix_in (by omega), br_c (fun ha => br_f (by decide) (nm_e (gl_i (h1 (Or.inl ⟨hr, ha⟩))))) (fun ha => H35 (fun z => ha z.2))⟩) (fun hr => br_t rfl (H35 (fun z => hr z.1)))
theorem fy_isLive (ok : cd_Ok n o v a b) {p i : Nat} (hp : p < n) (h1 : fl_Live n o v a b p i → post 1) (h0 : ¬ fl_Live n o v a b p i → post 0) : wpY_isLive post ((nI n), o, v, a, b) (nI p) (nI i) := by
  have hn := ok.1
  unfold wpY_isLive
  dsimp only
  refine fy_writers hn (fy_flowE ok (se_shl (by omega)) rfl se_0 (fy_readers ok ?_))
  by_cases hl : fl_Live n o v a b p i
  · refine br_f (fun z => (se_mt (fun i _ z => ?_)).mp z hl) (h1 hl)
    have := z.1
    omega
  · refine br_t ((se_mt (fun i _ z => ?_)).mpr hl) (h0 hl)
    have := z.1
    omega
theorem fy_live (ok : cd_Ok n o v a b) {x1 x2 : Int32} (h1 : cd_Eg x1 → ∀ p, p < n → x2 = nI p → post (se_S (fun i => i < 6 ∧ fl_Live n o v a b p i))) (h0 : ¬ (cd_Eg x1 ∧ ∃ p, p < n ∧ x2 = nI p) → post (-1)) : wpY_live post ((nI n), o, v, a, b) x1 x2 := by
  have hn := ok.1
  unfold wpY_live
  dsimp only
  refine fy_engine (fun he => br_f (by decide) (fy_in hn (fun p hp ep => br_f (by decide) ?_) (fun hz => br_t rfl (h0 (fun z => z.2.elim (fun q hq => hz q hq.1 hq.2)))))) (fun he => br_t rfl (h0 (fun z => he z.1)))
  subst ep
  refine gl_pick (fun f x y => wY_live_23 post (nI p) (nI n) o v a b f x y) 6 (fun i => fl_Live n o v a b p i) post (by omega) ?_ ?_ (h1 he p hp rfl)
  · intro f x h
    exact br_t (nI_le (a := 6) (b := 6) (by omega) (by omega)) h
  · intro f k y hk h0 h1
    refine br_f (nI_ge (b := 6) hk (by omega)) ?_
    refine fy_isLive ok hp (fun hl => br_f (by decide) (nm_e (gl_i (h1 hl)))) (fun hl => br_t rfl (gl_i (h0 hl)))
theorem fy_reaching (ok : cd_Ok n o v a b) {x1 x2 : Int32} (h1 : cd_Eg x1 → ∀ p, p < n → x2 = nI p → fl_R n o b p → post (se_S (fl_Rea n o v b p))) (h0 : ¬ (cd_Eg x1 ∧ ∃ p, p < n ∧ x2 = nI p ∧ fl_R n o b p) → post (-1)) : wpY_reaching post ((nI n), o, v, a, b) x1 x2 := by
  have hn := ok.1
  unfold wpY_reaching
  dsimp only
  refine fy_engine (fun he => br_f (by decide) (fy_canReach ok (fun p hp ep hR => br_f (by decide) ?_) (fun hz => br_t rfl (h0 (fun z => hz z.2))))) (fun he => br_t rfl (h0 (fun z => he z.1)))
  subst ep
  have hh := h1 he p hp rfl hR
  refine gl_pick (fun f x y => wY_reaching_23 post (nI p) (nI n) o v a b f x y) n (fun d => (fl_R n o b d ∧ cd_Wr o d) ∧ fl_F n o b (cd_G n o b d) (fl_W n o v (v d)) (fun _ => False) p) post (by omega) ?_ ?_ hh
  · intro f x h
    exact br_t (nI_le (Nat.le_refl _) (by omega)) h
  · intro f k y hk h0 h1
    refine br_f (nI_ge hk (by omega)) (fy_canReachN ok hk (fun hR => br_f (by decide) ⟨ix_in (by omega), ?_⟩) (fun hR => br_t rfl (gl_i (h0 (fun z => hR z.1.1)))))
    rw [ix_cl (by omega : k < 20)]
    refine fy_writes (fun hw => br_f (by decide) (fy_goingOn ok hk ⟨ix_in (by omega), fy_writers hn (fy_flowE ok rfl rfl se_0 ?_)⟩)) (fun hw => br_t rfl (gl_i (h0 (fun z => z.1.2 hw))))
    by_cases hf : fl_F n o b (cd_G n o b k) (fl_W n o v (v k)) (fun _ => False) p
    · exact br_t ((se_h1 (by omega)).mpr hf) (nm_e (gl_i (h1 ⟨⟨hR, hw⟩, hf⟩)))
    · exact br_f (fun z => hf ((se_h1 (by omega)).mp z)) (gl_i (h0 (fun z => hf z.2)))
end
end
section
/-! the reference's methods, continued -/
theorem nb_0 : narrow .boolean (.int 0) = .int (0 : Int32) := lw_bz_n 0
theorem nb_1 : narrow .boolean (.int 1) = .int (1 : Int32) := lw_bz_n 1
/-- the two sets of 'without' as one: 2 * p for 'none', 2 * p + 1 for 'had' -/
def wo_E (n : Nat) (o v a b : Nat → Int32) (e x y : Nat) : Prop := cd_G n o b (x / 2) (y / 2) ∧ (y % 2 = 0 → (x % 2 = 0 ∧ ¬ (cd_Sm o a b (x / 2) e ∧ ¬ cd_Sl o v a b (x / 2) e)) ∨ (x % 2 = 1 ∧ cd_Sl o v a b (x / 2) e)) ∧ (y % 2 = 1 → (x % 2 = 0 ∧ (cd_Sm o a b (x / 2) e ∧ ¬ cd_Sl o v a b (x / 2) e)) ∨ (x % 2 = 1 ∧ ¬ cd_Sl o v a b (x / 2) e))
def wo_L (n : Nat) (o v a b : Nat → Int32) (e x : Nat) : Prop := lf_L (wo_E n o v a b e) (fl_st n) x
section
variable {n : Nat} {o v a b : Nat → Int32} {post : Int32 → Prop}
theorem fy_same {p q : Nat} (hp : p < 20) (hq : q < 20) (h1 : cd_Sm o a b p q → post 1) (h0 : ¬ cd_Sm o a b p q → post 0) : wpY_same post ((nI n), o, v, a, b) (nI p) (nI q) := by
  unfold wpY_same
  dsimp only
  rw [ix_cl hp, ix_cl hq]
  have ip := ix_in hp
  have iq := ix_in hq
  refine ⟨ip, fy_computes (fun hc => br_f (by decide) ⟨ip, iq, br_c (fun e1 => ⟨ip, iq, br_c (fun e2 => ⟨ip, iq, br_c (fun e3 => h1 ⟨hc, e1, e2, e3⟩) (fun e3 => h0 (fun z => e3 z.2.2.2))⟩) (fun e2 => h0 (fun z => e2 z.2.2.1))⟩) (fun e1 => h0 (fun z => e1 z.2.1))⟩) (fun hc => br_t rfl (h0 (fun z => hc z.1)))⟩
theorem fy_spoils {p q : Nat} (hp : p < 20) (hq : q < 20) (h1 : cd_Sl o v a b p q → post 1) (h0 : ¬ cd_Sl o v a b p q → post 0) : wpY_spoils post ((nI n), o, v, a, b) (nI p) (nI q) := by
  unfold wpY_spoils
  dsimp only
  rw [ix_cl hp, ix_cl hq]
  have ip := ix_in hp
  have iq := ix_in hq
  refine ⟨ip, fy_writes (fun hw => br_f (by decide) ⟨ip, iq, br_c (fun e1 => h1 ⟨hw, Or.inl e1⟩) (fun e1 => ⟨ip, iq, br_c (fun e2 => h1 ⟨hw, Or.inr e2⟩) (fun e2 => h0 (fun z => z.2.elim e1 e2))⟩)⟩) (fun hw => br_t rfl (h0 (fun z => z.1 hw)))⟩
theorem fy_isName {e : Nat} (he : e < 20) (h1 : cd_Nm o a b e → post 1) (h0 : ¬ cd_Nm o a b e → post 0) : wpY_isName post ((nI n), o, v, a, b) (nI e) := by
  have key : ∀ d k, k + d = e → ((cd_Cp o e ∧ ∀ p, p < k → ¬ cd_Sm o a b p e) → wY_isName_13 post (nI e) (nI n) o v a b (d + 1) 1 (nI k)) ∧ (¬ (cd_Cp o e ∧ ∀ p, p < k → ¬ cd_Sm o a b p e) → wY_isName_13 post (nI e) (nI n) o v a b (d + 1) 0 (nI k)) := by
    intro d
    induction d with
    | zero =>
      intro k hk
      have ek : k = e := by omega
      subst ek
      exact ⟨fun z => br_t (nI_le (Nat.le_refl _) (by omega)) ⟨nb_1, h1 z⟩, fun z => br_t (nI_le (Nat.le_refl _) (by omega)) ⟨nb_0, h0 z⟩⟩
    | succ d ih =>
      intro k hk
      obtain ⟨i1, i0⟩ := ih (k + 1) (by omega)
      constructor
      · intro z
        refine br_f (nI_ge (by omega) (by omega)) (br_f (by decide) (fy_same (by omega) he (fun hs => br_f (by decide) (gl_i (i0 (fun w => w.2 k (by omega) hs)))) (fun hs => br_t rfl (gl_i (i1 ⟨z.1, fun p hp => ?_⟩)))))
        by_cases ep : p = k
        · subst ep; exact hs
        · exact z.2 p (by omega)
      · intro z
        exact br_f (nI_ge (by omega) (by omega)) (br_t rfl (gl_i (i0 (fun w => z ⟨w.1, fun p hp => w.2 p (by omega)⟩))))
  unfold wpY_isName
  dsimp only
  rw [ix_cl he]
  obtain ⟨k1, k0⟩ := key e 0 (by omega)
  refine ⟨ix_in he, fy_computes (fun hc => ⟨e + 1, k1 ⟨hc, fun p hp => by omega⟩⟩) (fun hc => ⟨e + 1, k0 (fun z => hc z.1)⟩)⟩
theorem wo_end {J10 J20 : Int32 → Int32 → Int32 → Prop} {x1 x2 x3 x4 x6 x7 x8 x9 z0 : Int32} {k : Nat}
    (h : ∀ N H : Int32, N = (@ite _ ((¬ x9 = 0 ∧ x6 = 0) ∨ (¬ z0 = 0 ∧ ¬ x7 = 0)) (Classical.propDecidable _) (x2 ||| x8) x2) → H = (@ite _ ((¬ x9 = 0 ∧ ¬ x6 = 0) ∨ (¬ z0 = 0 ∧ x7 = 0)) (Classical.propDecidable _) (x3 ||| x8) x3) → J20 N H (nI (k + 1))) : wY_without_105 post J10 J20 x1 x2 x3 x4 (nI k) x6 x7 x8 x9 z0 (nI n) o v a b := by
  by_cases h9 : x9 = 0
  · by_cases hz : z0 = 0
    · have hh := h x2 x3 (by simp [h9, hz]) (by simp [h9, hz])
      exact br_t h9 (br_t hz (br_t h9 (br_t hz (gl_i hh))))
    · by_cases h7 : x7 = 0
      · have hh := h x2 (x3 ||| x8) (by simp [h9, hz, h7]) (by simp [h9, hz, h7])
        exact br_t h9 (br_f hz (br_t h7 (br_t h9 (br_f hz (br_t h7 (nm_e (gl_i hh)))))))
      · have hh := h (x2 ||| x8) x3 (by simp [h9, hz, h7]) (by simp [h9, hz, h7])
        exact br_t h9 (br_f hz (br_f h7 (br_t h9 (br_f hz (br_f h7 (gl_i hh))))))
  · by_cases h6 : x6 = 0
    · by_cases hz : z0 = 0
      · have hh := h (x2 ||| x8) x3 (by simp [h9, hz, h6]) (by simp [h9, hz, h6])
        exact br_f h9 (br_t h6 (br_f h9 (br_t h6 (br_t hz (gl_i hh)))))
      · by_cases h7 : x7 = 0
        · have hh := h (x2 ||| x8) (x3 ||| x8) (by simp [h9, hz, h6, h7]) (by simp [h9, hz, h6, h7])
          exact br_f h9 (br_t h6 (br_f h9 (br_t h6 (br_f hz (br_t h7 (nm_e (gl_i hh)))))))
        · have hh := h (x2 ||| x8) x3 (by simp [h9, hz, h6, h7]) (by simp [h9, hz, h6, h7])
          exact br_f h9 (br_t h6 (br_f h9 (br_t h6 (br_f hz (br_f h7 (gl_i hh))))))
    · by_cases hz : z0 = 0
      · have hh := h x2 (x3 ||| x8) (by simp [h9, hz, h6]) (by simp [h9, hz, h6])
        exact br_f h9 (br_f h6 (br_t hz (br_f h9 (br_f h6 (nm_e (gl_i hh))))))
      · by_cases h7 : x7 = 0
        · have hh := h x2 (x3 ||| x8) (by simp [h9, hz, h6, h7]) (by simp [h9, hz, h6, h7])
          exact br_f h9 (br_f h6 (br_f hz (br_t h7 (br_f h9 (br_f h6 (nm_e (gl_i hh)))))))
        · have hh := h (x2 ||| x8) (x3 ||| x8) (by simp [h9, hz, h6, h7]) (by simp [h9, hz, h6, h7])
          exact br_f h9 (br_f h6 (br_f hz (br_f h7 (br_f h9 (br_f h6 (nm_e (gl_i hh)))))))
theorem wo_if {c d : Prop} {x y : Int32} (e : c ↔ d) : (@ite _ c (Classical.propDecidable _) x y) = (@ite _ d (Classical.propDecidable _) x y) := by
  by_cases h : c
  · rw [if_pos h, if_pos (e.mp h)]
  · rw [if_neg h, if_neg (fun z => h (e.mpr z))]
theorem wo_88 {J10 J20 : Int32 → Int32 → Int32 → Prop} {x1 x2 x4 x6 x7 x8 x9 : Int32} {k : Nat} (hk : k < 32) {H2 : Nat → Prop}
    (h : ∀ N H : Int32, N = (@ite _ ((¬ x9 = 0 ∧ x6 = 0) ∨ (H2 k ∧ ¬ x7 = 0)) (Classical.propDecidable _) (x2 ||| x8) x2) → H = (@ite _ ((¬ x9 = 0 ∧ ¬ x6 = 0) ∨ (H2 k ∧ x7 = 0)) (Classical.propDecidable _) (se_S H2 ||| x8) (se_S H2)) → J20 N H (nI (k + 1))) : wY_without_88 post J10 J20 x1 x2 (se_S H2) x4 (nI k) x6 x7 x8 x9 (nI n) o v a b := by
  by_cases hh : H2 k
  · refine br_t ((se_h1 hk).mpr hh) (wo_end (fun N H eN eH => h N H (eN.trans ?_) (eH.trans ?_)))
    · have e : (¬ x9 = 0 ∧ x6 = 0 ∨ ¬ (1 : Int32) = 0 ∧ ¬ x7 = 0) ↔ (¬ x9 = 0 ∧ x6 = 0 ∨ H2 k ∧ ¬ x7 = 0) := by simp [hh]
      exact wo_if e
    · have e : (¬ x9 = 0 ∧ ¬ x6 = 0 ∨ ¬ (1 : Int32) = 0 ∧ x7 = 0) ↔ (¬ x9 = 0 ∧ ¬ x6 = 0 ∨ H2 k ∧ x7 = 0) := by simp [hh]
      exact wo_if e
  · refine br_f (fun z => hh ((se_h1 hk).mp z)) (wo_end (fun N H eN eH => h N H (eN.trans ?_) (eH.trans ?_)))
    · have e : (¬ x9 = 0 ∧ x6 = 0 ∨ ¬ (0 : Int32) = 0 ∧ ¬ x7 = 0) ↔ (¬ x9 = 0 ∧ x6 = 0 ∨ H2 k ∧ ¬ x7 = 0) := by simp [hh]
      exact wo_if e
    · have e : (¬ x9 = 0 ∧ ¬ x6 = 0 ∨ ¬ (0 : Int32) = 0 ∧ x7 = 0) ↔ (¬ x9 = 0 ∧ ¬ x6 = 0 ∨ H2 k ∧ x7 = 0) := by simp [hh]
      exact wo_if e
theorem wo_or {c : Prop} {P Q N : Nat → Prop} (h : ∀ i, (P i ∨ (c ∧ N i)) ↔ Q i) : (@ite _ c (Classical.propDecidable _) (se_S P ||| se_S N) (se_S P)) = se_S Q := by
  by_cases hc : c
  · rw [if_pos hc, se_or]
    exact se_ext (fun i _ => ⟨fun z => (h i).mp (z.imp id (fun w => ⟨hc, w⟩)), fun z => ((h i).mpr z).imp id (fun w => w.2)⟩)
  · rw [if_neg hc]
    exact se_ext (fun i _ => ⟨fun z => (h i).mp (Or.inl z), fun z => ((h i).mpr z).elim id (fun w => absurd w.1 hc)⟩)
theorem wo_54 (ok : cd_Ok n o v a b) {J10 J20 : Int32 → Int32 → Int32 → Prop} {x4 z0 : Int32} {k e : Nat} (hk : k < n) (he : e < n) {Q : Nat → Prop}
    (hz : ¬ z0 = 0 ↔ (cd_Sm o a b k e ∧ ¬ cd_Sl o v a b k e))
    (h : ∀ Q' : Nat → Prop, (∀ i, Q' i ↔ Q i ∨ (Q (2 * k) ∧ wo_E n o v a b e (2 * k) i) ∨ (Q (2 * k + 1) ∧ wo_E n o v a b e (2 * k + 1) i)) → J20 (se_S (fun p => Q' (2 * p))) (se_S (fun p => Q' (2 * p + 1))) (nI (k + 1))) : wY_without_54 post J10 J20 (nI e) (se_S (fun p => Q (2 * p))) (se_S (fun p => Q (2 * p + 1))) x4 (nI k) z0 (nI n) o v a b := by
  have hn := ok.1
  have hzz : z0 = 0 ↔ ¬ (cd_Sm o a b k e ∧ ¬ cd_Sl o v a b k e) := by rw [← hz, Classical.not_not]
  have hh := h _ (fun i => Iff.rfl)
  have m1 : (2 * k) / 2 = k := by omega
  have m2 : (2 * k + 1) / 2 = k := by omega
  have m3 : (2 * k) % 2 = 0 := by omega
  have m4 : (2 * k + 1) % 2 = 1 := by omega
  have main : ∀ x7 x9 : Int32, (¬ x7 = 0 ↔ cd_Sl o v a b k e) → (¬ x9 = 0 ↔ Q (2 * k)) → wY_without_88 post J10 J20 (nI e) (se_S (fun p => Q (2 * p))) (se_S (fun p => Q (2 * p + 1))) x4 (nI k) z0 x7 (se_S (cd_G n o b k)) x9 (nI n) o v a b := by
    intro x7 x9 h7 h9
    have h77 : x7 = 0 ↔ ¬ cd_Sl o v a b k e := by rw [← h7, Classical.not_not]
    refine wo_88 (by omega) (fun N H eN eH => ?_)
    rw [eN, eH]
    rw [wo_or (Q := fun p => Q (2 * p) ∨ (Q (2 * k) ∧ wo_E n o v a b e (2 * k) (2 * p)) ∨ (Q (2 * k + 1) ∧ wo_E n o v a b e (2 * k + 1) (2 * p))),
      wo_or (Q := fun p => Q (2 * p + 1) ∨ (Q (2 * k) ∧ wo_E n o v a b e (2 * k) (2 * p + 1)) ∨ (Q (2 * k + 1) ∧ wo_E n o v a b e (2 * k + 1) (2 * p + 1)))]
    · exact hh
    · intro i
      have j1 : (2 * i + 1) / 2 = i := by omega
      have j2 : (2 * i + 1) % 2 = 1 := by omega
      unfold wo_E
      rw [h9, hz, h77, m1, m2, m3, m4, j1, j2]
      simp only [Nat.zero_ne_one, Nat.one_ne_zero, true_and, false_and, or_false, false_or, false_implies, true_implies, and_true]
      constructor
      · rintro (z | ⟨z | z, g⟩)
        · exact Or.inl z
        · exact Or.inr (Or.inl ⟨z.1, g, z.2⟩)
        · exact Or.inr (Or.inr ⟨z.1, g, z.2⟩)
      · rintro (z | z | z)
        · exact Or.inl z
        · exact Or.inr ⟨Or.inl ⟨z.1, z.2.2⟩, z.2.1⟩
        · exact Or.inr ⟨Or.inr ⟨z.1, z.2.2⟩, z.2.1⟩
    · intro i
      have j1 : (2 * i) / 2 = i := by omega
      have j2 : (2 * i) % 2 = 0 := by omega
      unfold wo_E
      rw [h9, hzz, h7, m1, m2, m3, m4, j1, j2]
      simp only [Nat.zero_ne_one, Nat.one_ne_zero, true_and, false_and, or_false, false_or, false_implies, true_implies, and_true]
      constructor
      · rintro (z | ⟨z | z, g⟩)
        · exact Or.inl z
        · exact Or.inr (Or.inl ⟨z.1, g, z.2⟩)
        · exact Or.inr (Or.inr ⟨z.1, g, z.2⟩)
      · rintro (z | z | z)
        · exact Or.inl z
        · exact Or.inr ⟨Or.inl ⟨z.1, z.2.2⟩, z.2.1⟩
        · exact Or.inr ⟨Or.inr ⟨z.1, z.2.2⟩, z.2.1⟩
  have main2 : ∀ x7 : Int32, (¬ x7 = 0 ↔ cd_Sl o v a b k e) → ((((se_S (fun p => Q (2 * p)) >>> (nI k &&& 31)) &&& 1) = 1 → wY_without_88 post J10 J20 (nI e) (se_S (fun p => Q (2 * p))) (se_S (fun p => Q (2 * p + 1))) x4 (nI k) z0 x7 (se_S (cd_G n o b k)) 1 (nI n) o v a b) ∧ (¬ ((se_S (fun p => Q (2 * p)) >>> (nI k &&& 31)) &&& 1) = 1 → wY_without_88 post J10 J20 (nI e) (se_S (fun p => Q (2 * p))) (se_S (fun p => Q (2 * p + 1))) x4 (nI k) z0 x7 (se_S (cd_G n o b k)) 0 (nI n) o v a b)) := by
    intro x7 h7
    refine ⟨fun hq => main x7 1 h7 ?_, fun hq => main x7 0 h7 ?_⟩
    · have hq := (se_h1 (by omega)).mp hq
      exact ⟨fun _ => hq, fun _ => by decide⟩
    · have hq : ¬ Q (2 * k) := fun z => hq ((se_h1 (by omega)).mpr z)
      exact ⟨fun z => absurd rfl z, fun z => absurd z hq⟩
  unfold wY_without_54
  refine fy_spoils (by omega) (by omega) (fun hs => fy_goingOn ok hk ?_) (fun hs => fy_goingOn ok hk ?_)
  · exact main2 1 ⟨fun _ => hs, fun _ => by decide⟩
  · exact main2 0 ⟨fun z => absurd rfl z, fun z => absurd z hs⟩
theorem fy_without (ok : cd_Ok n o v a b) {e : Nat} (he : e < n) (h : post (se_S (fun p => wo_L n o v a b e (2 * p)))) : wpY_without post ((nI n), o, v, a, b) (nI e) := by
  have hn := ok.1
  unfold wpY_without
  dsimp only
  refine fy_start ?_ hn
  have e0 : se_S (fl_st n) = se_S (fun p => fl_st n (2 * p)) := se_ext (fun i _ => ⟨fun z => ⟨z.1, by have := z.2; omega⟩, fun z => ⟨z.1, by have := z.2; omega⟩⟩)
  have e1 : (0 : Int32) = se_S (fun p => fl_st n (2 * p + 1)) := by
    rw [se_0]; exact se_ext (fun i _ => ⟨fun z => z.elim, fun z => by have := z.2; omega⟩)
  rw [e0]
  have hg := gl_sat (fun f P r => wY_without_10 post (nI e) (nI n) o v a b f (se_S (fun p => P (2 * p))) (se_S (fun p => P (2 * p + 1))) (nI r)) (wo_E n o v a b e) (fl_st n) (2 * n) 40 1 (by omega) (fun x y z => by have := z.1.1; omega) (fun P => post (se_S (fun p => P (2 * p)))) ?_ ?_ ?_ (fl_st n) (fun i z => lf_i z) (Or.inl fun _ z => z) ?_
  · obtain ⟨f, hf⟩ := hg
    refine ⟨f, ?_⟩
    rw [← e1] at hf
    exact hf
  · intro f P h
    exact br_t (nI_le (a := 40) (b := 40) (by omega) (by omega)) h
  · intro f r P hr hP hk hA
    refine br_f (nI_ge (b := 40) hr (by omega)) ?_
    refine gl_pass (fun g Q k => wY_without_20 post (wY_without_10 post (nI e) (nI n) o v a b f) (nI e) (nI r) (nI n) o v a b g (se_S (fun p => Q (2 * p))) (se_S (fun p => Q (2 * p + 1))) (nI k)) (lf_L (wo_E n o v a b e) (fl_st n)) (fun k y => (P (2 * k) ∧ wo_E n o v a b e (2 * k) y) ∨ (P (2 * k + 1) ∧ wo_E n o v a b e (2 * k + 1) y)) n P hP (fun Q => wY_without_10 post (nI e) (nI n) o v a b f (se_S (fun p => Q (2 * p))) (se_S (fun p => Q (2 * p + 1))) (nI (r + 1))) ?_ ?_ ?_
    · intro g Q hd
      exact br_t (nI_le (Nat.le_refl _) (by omega)) (gl_i hd)
    · intro g k Q hk1 h1 h2 hk2
      refine br_f (nI_ge hk1 (by omega)) ?_
      have fin : ∀ Q' : Nat → Prop, (∀ i, Q' i ↔ Q i ∨ (Q (2 * k) ∧ wo_E n o v a b e (2 * k) i) ∨ (Q (2 * k + 1) ∧ wo_E n o v a b e (2 * k + 1) i)) → wY_without_20 post (wY_without_10 post (nI e) (nI n) o v a b f) (nI e) (nI r) (nI n) o v a b g (se_S (fun p => Q' (2 * p))) (se_S (fun p => Q' (2 * p + 1))) (nI (k + 1)) := by
        intro Q' hQ'
        refine hk2 Q' (fun i z => (hQ' i).mpr (Or.inl z)) (fun i z => ?_) (fun y hc => (hQ' y).mpr (Or.inr ?_))
        · rcases (hQ' i).mp z with w | w | w
          · exact h2 i w
          · exact lf_s (h2 _ w.1) w.2
          · exact lf_s (h2 _ w.1) w.2
        · exact hc.imp (fun w => ⟨h1 _ w.1, w.2⟩) (fun w => ⟨h1 _ w.1, w.2⟩)
      refine fy_same (by omega) (by omega) (fun hs => br_f (by decide) (fy_spoils (by omega) (by omega) (fun hl => br_f (by decide) ?_) (fun hl => br_t rfl ?_))) (fun hs => br_t rfl ?_)
      · exact wo_54 ok hk1 he ⟨fun z => absurd rfl z, fun z => absurd hl z.2⟩ fin
      · exact wo_54 ok hk1 he ⟨fun _ => ⟨hs, hl⟩, fun _ => by decide⟩ fin
      · exact wo_54 ok hk1 he ⟨fun z => absurd rfl z, fun z => absurd z.1 hs⟩ fin
    · intro P' g1 g2 g3
      refine hk P' g1 (fun i z => g1 i (hA.elim (fun w => w i z) (fun w => absurd w (by decide)))) g2 (fun x y hx hxy => g3 (x / 2) y hxy.1.1 ?_)
      rcases Nat.mod_two_eq_zero_or_one x with m | m
      · have ex : 2 * (x / 2) = x := by omega
        left; rw [ex]; exact ⟨hx, hxy⟩
      · have ex : 2 * (x / 2) + 1 = x := by omega
        right; rw [ex]; exact ⟨hx, hxy⟩
  · intro P hP
    have e : se_S (fun p => P (2 * p)) = se_S (fun p => wo_L n o v a b e (2 * p)) := se_ext (fun i _ => hP (2 * i))
    show post (se_S (fun p => P (2 * p)))
    rw [e]; exact h
  · by_cases hz : 0 < n
    · right
      exact se_Npos (P := fl_st n) (i := 0) (by omega) ⟨hz, rfl⟩
    · left
      intro i z
      exact z (fl_st n) (fun _ w => w) (fun x y hx e => absurd hx.1 hz)
end
end
section
/-! the reference's methods, continued: busy, available, before, after, frontier, joins, loop, unset, dead -/
theorem se_up1 {D c : Nat → Prop} {k : Nat} (hk : k < 32) (hc : c k) : se_S (fun q => D q ∨ (q < k ∧ c q)) ||| ((1 : Int32) <<< (nI k &&& 31)) = se_S (fun q => D q ∨ (q < k + 1 ∧ c q)) := by
  rw [se_shl hk, se_or]
  refine se_ext (fun i _ => ⟨?_, ?_⟩)
  · rintro ((z | z) | z)
    · exact Or.inl z
    · exact Or.inr ⟨by omega, z.2⟩
    · subst z; exact Or.inr ⟨by omega, hc⟩
  · rintro (z | z)
    · exact Or.inl (Or.inl z)
    · by_cases e : i = k
      · exact Or.inr e
      · exact Or.inl (Or.inr ⟨by omega, z.2⟩)
theorem se_up0 {D c : Nat → Prop} {k : Nat} (hc : ¬ c k) : se_S (fun q => D q ∨ (q < k ∧ c q)) = se_S (fun q => D q ∨ (q < k + 1 ∧ c q)) := by
  refine se_ext (fun i _ => ⟨?_, ?_⟩)
  · rintro (z | z)
    · exact Or.inl z
    · exact Or.inr ⟨by omega, z.2⟩
  · rintro (z | z)
    · exact Or.inl z
    · by_cases e : i = k
      · subst e; exact absurd z.2 hc
      · exact Or.inr ⟨by omega, z.2⟩
def fl_Lp (n : Nat) (o b : Nat → Int32) (h i : Nat) : Prop := (∃ r, fl_Bk n o b h r) ∧ (i = h ∨ (i < n ∧ (fl_R n o b i ∧ ∃ r, fl_F n o b (fun j => j = i) (fun _ => False) (fun j => j = h) r ∧ fl_Bk n o b h r)))
def fl_JE (n : Nat) (o b : Nat → Int32) (x y : Nat) : Prop := x < n ∧ fl_Fr n o b x y
def fl_JB (n : Nat) (o v b : Nat → Int32) (x : Int32) (p : Nat) : Prop := (fl_W n o v x p ∨ fl_st n p) ∧ fl_R n o b p
def fl_JA (n : Nat) (o v b : Nat → Int32) (x : Int32) (y : Nat) : Prop := ∃ k, k < n ∧ fl_JB n o v b x k ∧ fl_Fr n o b k y
def fl_Us (n : Nat) (o v a b : Nat → Int32) (d : Nat) : Prop := ∃ p, p < n ∧ cd_G n o b d p ∧ ∃ i, i < 6 ∧ v d = nI i ∧ fl_Live n o v a b p i
section
variable {n : Nat} {o v a b : Nat → Int32} {post : Int32 → Prop}
theorem fy_available (ok : cd_Ok n o v a b) {x1 x2 : Int32} (h1 : cd_Eg x1 → ∀ p, p < n → x2 = nI p → fl_R n o b p → post (se_S (fun e => e < n ∧ cd_Nm o a b e ∧ ¬ wo_L n o v a b e (2 * p)))) (h0 : ¬ (cd_Eg x1 ∧ ∃ p, p < n ∧ x2 = nI p ∧ fl_R n o b p) → post (-1)) : wpY_available post ((nI n), o, v, a, b) x1 x2 := by
  have hn := ok.1
  unfold wpY_available
  dsimp only
  refine fy_engine (fun he => br_f (by decide) (fy_canReach ok (fun p hp ep hR => br_f (by decide) ?_) (fun hz => br_t rfl (h0 (fun z => hz z.2))))) (fun he => br_t rfl (h0 (fun z => he z.1)))
  subst ep
  have hh := h1 he p hp rfl hR
  refine gl_pick (fun f x y => wY_available_23 post (nI p) (nI n) o v a b f x y) n (fun e => cd_Nm o a b e ∧ ¬ wo_L n o v a b e (2 * p)) post (by omega) ?_ ?_ hh
  · intro f x h
    exact br_t (nI_le (Nat.le_refl _) (by omega)) h
  · intro f k y hk h0 h1
    refine br_f (nI_ge hk (by omega)) (fy_isName (by omega) (fun hN => br_f (by decide) (fy_without ok hk ?_)) (fun hN => br_t rfl (gl_i (h0 (fun z => hN z.1)))))
    by_cases hw : wo_L n o v a b k (2 * p)
    · exact br_f (fun z => (se_h0 (P := fun p => wo_L n o v a b k (2 * p)) (by omega)).mp z hw) (gl_i (h0 (fun z => z.2 hw)))
    · exact br_t ((se_h0 (P := fun p => wo_L n o v a b k (2 * p)) (by omega)).mpr hw) (nm_e (gl_i (h1 ⟨hN, hw⟩)))
theorem fy_missed (ok : cd_Ok n o v a b) {p e : Nat} (hp : p < n) (he : e < n) (h1 : fl_Miss n o v a b p e → post 1) (h0 : ¬ fl_Miss n o v a b p e → post 0) : wpY_missed post ((nI n), o, v, a, b) (nI p) (nI e) := by
  have hn := ok.1
  have key : ∀ d k, k + d = n → wY_missed_9 post (nI p) (nI e) (nI n) o v a b (d + 1) (se_S (fun q => False ∨ (q < k ∧ cd_Sm o a b q e))) (se_S (fun q => q = 20 ∨ (q < k ∧ (¬ cd_Sm o a b q e ∧ cd_Sl o v a b q e)))) (nI k) := by
    intro d
    induction d with
    | zero =>
      intro k hk
      have ek : k = n := by omega
      subst ek
      refine br_t (nI_le (Nat.le_refl _) (by omega)) (fy_flowE ok (A := fun j => j = p) (B := fun q => q < k ∧ cd_Sm o a b q e) (se_shl (by omega)) (se_ext (fun i _ => ⟨fun z => z.elim False.elim id, Or.inr⟩)) se_0 ?_)
      have hb : ∀ i, fl_F k o b (fun j => j = p) (fun q => q < k ∧ cd_Sm o a b q e) (fun _ => False) i → (i = 20 ∨ (i < k ∧ (¬ cd_Sm o a b i e ∧ cd_Sl o v a b i e))) → i < 32 := by
        intro i _ z
        rcases z with z | z
        · omega
        · omega
      by_cases hm : fl_Miss k o v a b p e
      · exact br_f (fun z => (se_mt hb).mp z hm) (h1 hm)
      · exact br_t ((se_mt hb).mpr hm) (h0 hm)
    | succ d ih =>
      intro k hk
      have ih := ih (k + 1) (by omega)
      refine br_f (nI_ge (by omega) (by omega)) (fy_same (by omega) (by omega) (fun hs => br_f (by decide) (br_f (by decide) (gl_i ?_))) (fun hs => br_t rfl (br_t rfl (fy_spoils (by omega) (by omega) (fun hl => br_f (by decide) (nm_e (gl_i ?_))) (fun hl => br_t rfl (gl_i ?_))))))
      · have s1 : se_S (fun q => False ∨ (q < k ∧ cd_Sm o a b q e)) ||| ((1 : Int32) <<< (nI k &&& 31)) = se_S (fun q => False ∨ (q < k + 1 ∧ cd_Sm o a b q e)) := se_up1 (c := fun q => cd_Sm o a b q e) (by omega) hs
        have s2 : se_S (fun q => q = 20 ∨ (q < k ∧ (¬ cd_Sm o a b q e ∧ cd_Sl o v a b q e))) = se_S (fun q => q = 20 ∨ (q < k + 1 ∧ (¬ cd_Sm o a b q e ∧ cd_Sl o v a b q e))) := se_up0 (c := fun q => ¬ cd_Sm o a b q e ∧ cd_Sl o v a b q e) (fun z => z.1 hs)
        rw [← s1, ← s2] at ih
        exact ih
      · have s1 : se_S (fun q => False ∨ (q < k ∧ cd_Sm o a b q e)) = se_S (fun q => False ∨ (q < k + 1 ∧ cd_Sm o a b q e)) := se_up0 (c := fun q => cd_Sm o a b q e) hs
        have s2 : se_S (fun q => q = 20 ∨ (q < k ∧ (¬ cd_Sm o a b q e ∧ cd_Sl o v a b q e))) ||| ((1 : Int32) <<< (nI k &&& 31)) = se_S (fun q => q = 20 ∨ (q < k + 1 ∧ (¬ cd_Sm o a b q e ∧ cd_Sl o v a b q e))) := se_up1 (c := fun q => ¬ cd_Sm o a b q e ∧ cd_Sl o v a b q e) (by omega) ⟨hs, hl⟩
        rw [← s1, ← s2] at ih
        exact ih
      · have s1 : se_S (fun q => False ∨ (q < k ∧ cd_Sm o a b q e)) = se_S (fun q => False ∨ (q < k + 1 ∧ cd_Sm o a b q e)) := se_up0 (c := fun q => cd_Sm o a b q e) hs
        have s2 : se_S (fun q => q = 20 ∨ (q < k ∧ (¬ cd_Sm o a b q e ∧ cd_Sl o v a b q e))) = se_S (fun q => q = 20 ∨ (q < k + 1 ∧ (¬ cd_Sm o a b q e ∧ cd_Sl o v a b q e))) := se_up0 (c := fun q => ¬ cd_Sm o a b q e ∧ cd_Sl o v a b q e) (fun z => hl z.2)
        rw [← s1, ← s2] at ih
        exact ih
  unfold wpY_missed
  dsimp only
  have k0 := key n 0 (by omega)
  have e1 : se_S (fun q => False ∨ (q < 0 ∧ cd_Sm o a b q e)) = 0 := se_z.mpr (fun i _ z => z.elim id (fun w => by omega))
  have e2 : se_S (fun q => q = 20 ∨ (q < 0 ∧ (¬ cd_Sm o a b q e ∧ cd_Sl o v a b q e))) = 1048576 := by
    rw [ix_20]
    exact se_ext (fun i _ => ⟨fun z => z.elim id (fun w => by omega), Or.inl⟩)
  rw [e1, e2] at k0
  exact ⟨_, k0⟩
theorem fy_busy (ok : cd_Ok n o v a b) {x1 x2 : Int32} (h1 : cd_Eg x1 → ∀ p, p < n → x2 = nI p → post (se_S (fun e => e < n ∧ cd_Nm o a b e ∧ ¬ fl_Miss n o v a b p e))) (h0 : ¬ (cd_Eg x1 ∧ ∃ p, p < n ∧ x2 = nI p) → post (-1)) : wpY_busy post ((nI n), o, v, a, b) x1 x2 := by
  have hn := ok.1
  unfold wpY_busy
  dsimp only
  refine fy_engine (fun he => br_f (by decide) (fy_in hn (fun p hp ep => br_f (by decide) ?_) (fun hz => br_t rfl (h0 (fun z => z.2.elim (fun q hq => hz q hq.1 hq.2)))))) (fun he => br_t rfl (h0 (fun z => he z.1)))
  subst ep
  have hh := h1 he p hp rfl
  refine gl_pick (fun f x y => wY_busy_23 post (nI p) (nI n) o v a b f x y) n (fun e => cd_Nm o a b e ∧ ¬ fl_Miss n o v a b p e) post (by omega) ?_ ?_ hh
  · intro f x h
    exact br_t (nI_le (Nat.le_refl _) (by omega)) h
  · intro f k y hk h0 h1
    exact br_f (nI_ge hk (by omega)) (fy_isName (by omega) (fun hN => br_f (by decide) (fy_missed ok hp hk (fun hm => br_f (by decide) (gl_i (h0 (fun z => z.2 hm)))) (fun hm => br_t rfl (nm_e (gl_i (h1 ⟨hN, hm⟩)))))) (fun hN => br_t rfl (gl_i (h0 (fun z => hN z.1)))))
theorem fy_agree {u : SY} {x1 x2 : Int32} (h1 : cd_Eg x1 → cd_Eg x2 → post 1) (h0 : ¬ (cd_Eg x1 ∧ cd_Eg x2) → post 0) : wpY_agree post u x1 x2 := by
  obtain ⟨_, _, _, _, _⟩ := u
  unfold wpY_agree
  dsimp only
  exact fy_engine (fun he => br_f (by decide) (fy_engine (fun hf => br_f (by decide) (h1 he hf)) (fun hf => br_t rfl (h0 (fun z => hf z.2))))) (fun he => br_t rfl (h0 (fun z => he z.1)))
theorem fy_isBefore (ok : cd_Ok n o v a b) {q p : Nat} (hq : q < n) (hp : p < n) (h1 : fl_Bf n o b q p → post 1) (h0 : ¬ fl_Bf n o b q p → post 0) : wpY_isBefore post ((nI n), o, v, a, b) (nI q) (nI p) := by
  have hn := ok.1
  unfold wpY_isBefore
  dsimp only
  refine fy_start (fy_flowE ok rfl se_0 (se_shl (by omega)) ?_) hn
  by_cases hb : fl_Bf n o b q p
  · exact br_t ((se_h0 (by omega)).mpr hb) (h1 hb)
  · exact br_f (fun z => hb ((se_h0 (by omega)).mp z)) (h0 hb)
theorem fy_before (ok : cd_Ok n o v a b) {x : Int32} (h1 : ∀ p, p < n → x = nI p → fl_R n o b p → post (se_S (fun q => q < n ∧ fl_Bf n o b q p))) (h0 : ¬ (∃ p, p < n ∧ x = nI p ∧ fl_R n o b p) → post (-1)) : wpY_before post ((nI n), o, v, a, b) x := by
  have hn := ok.1
  unfold wpY_before
  dsimp only
  refine fy_canReach ok (fun p hp ep hR => br_f (by decide) ?_) (fun hz => br_t rfl (h0 hz))
  subst ep
  refine gl_pick (fun f x y => wY_before_14 post (nI p) (nI n) o v a b f x y) n (fun q => fl_Bf n o b q p) post (by omega) ?_ ?_ (h1 p hp rfl hR)
  · intro f x h
    exact br_t (nI_le (Nat.le_refl _) (by omega)) h
  · intro f k y hk h0 h1
    exact br_f (nI_ge hk (by omega)) (fy_isBefore ok hk hp (fun hb => br_f (by decide) (nm_e (gl_i (h1 hb)))) (fun hb => br_t rfl (gl_i (h0 hb))))
theorem fl_F32 {A B C : Nat → Prop} (hn : n ≤ 20) {p : Nat} (hp : p < n) (hA : ∀ i, A i → i = p) : ∀ i, i < 32 → fl_F n o b A B C i → i ≤ 20 :=
  fun _ _ z => fl_Fl hn (fun j hj => by have := hA j hj; omega) z
theorem fy_after (ok : cd_Ok n o v a b) {x : Int32} (h1 : ∀ p, p < n → x = nI p → fl_End n o b (fun _ => False) p → post (se_S (fun q => q < n ∧ ¬ fl_End n o b (fun j => j = q) p))) (h0 : ¬ (∃ p, p < n ∧ x = nI p ∧ fl_End n o b (fun _ => False) p) → post (-1)) : wpY_after post ((nI n), o, v, a, b) x := by
  have hn := ok.1
  unfold wpY_after
  dsimp only
  refine fy_in hn (fun p hp ep => br_f (by decide) ?_) (fun hz => br_t rfl (h0 (fun z => z.elim (fun q hq => hz q hq.1 hq.2.1))))
  subst ep
  refine fy_flowE ok (se_shl (by omega)) se_0 se_0 ?_
  by_cases hE : fl_End n o b (fun _ => False) p
  · refine br_f (fun z => (se_s20 (fl_F32 hn hp (fun _ z => z))).mp z hE) ?_
    refine gl_pick (fun f x y => wY_after_29 post (nI p) (nI n) o v a b f x y) n (fun q => ¬ fl_End n o b (fun j => j = q) p) post (by omega) ?_ ?_ (h1 p hp rfl hE)
    · intro f x h
      exact br_t (nI_le (Nat.le_refl _) (by omega)) h
    · intro f k y hk h0 h1
      refine br_f (nI_ge hk (by omega)) (fy_flowE ok (se_shl (by omega)) se_0 (se_shl (by omega)) ?_)
      by_cases hK : fl_End n o b (fun j => j = k) p
      · exact br_f (fun z => (se_s20 (fl_F32 hn hp (fun _ z => z))).mp z hK) (gl_i (h0 (fun z => z hK)))
      · exact br_t ((se_s20 (fl_F32 hn hp (fun _ z => z))).mpr hK) (nm_e (gl_i (h1 hK)))
  · refine br_t ((se_s20 (fl_F32 hn hp (fun _ z => z))).mpr hE) (h0 ?_)
    rintro ⟨q, hq, e, z⟩
    have := (nI_eq (by omega) (by omega)).mp e
    subst this
    exact hE z
theorem fy_frontier (ok : cd_Ok n o v a b) {x : Int32} (h1 : ∀ p, p < n → x = nI p → fl_R n o b p → post (se_S (fl_Fr n o b p))) (h0 : ¬ (∃ p, p < n ∧ x = nI p ∧ fl_R n o b p) → post (-1)) : wpY_frontier post ((nI n), o, v, a, b) x := by
  have hn := ok.1
  unfold wpY_frontier
  dsimp only
  refine fy_canReach ok (fun p hp ep hR => br_f (by decide) ?_) (fun hz => br_t rfl (h0 hz))
  subst ep
  have hh := h1 p hp rfl hR
  refine gl_un (fun f x y => wY_frontier_14 post (nI p) (nI n) o v a b f x y) n (fun r => fl_R n o b r ∧ fl_Bf n o b p r) (fun r => cd_G n o b r) (fun x => ∃ n55 : Nat, wY_frontier_55 post (nI p) (nI n) o v a b n55 x 0) ?_ ?_ ?_
  · intro f x h
    exact br_t (nI_le (Nat.le_refl _) (by omega)) h
  · intro f k y hk h0 h1
    refine br_f (nI_ge hk (by omega)) (fy_canReachN ok hk (fun hR => br_f (by decide) (fy_isBefore ok hp hk (fun hb => br_f (by decide) (fy_goingOn ok hk (nm_e (gl_i (h1 ⟨hR, hb⟩ _ rfl))))) (fun hb => br_t rfl (gl_i (h0 (fun z => hb z.2)))))) (fun hR => br_t rfl (gl_i (h0 (fun z => hR z.1)))))
  · have key : ∀ d k, k + d = n → wY_frontier_55 post (nI p) (nI n) o v a b (d + 1) (se_S (fun i => (∃ r, r < n ∧ (fl_R n o b r ∧ fl_Bf n o b p r) ∧ cd_G n o b r i) ∧ ¬ (i < k ∧ i ≠ p ∧ fl_Bf n o b p i))) (nI k) := by
      intro d
      induction d with
      | zero =>
        intro k hk
        have ek : k = n := by omega
        subst ek
        refine br_t (nI_le (Nat.le_refl _) (by omega)) (fy_reachable ok ?_)
        rw [se_and]
        have e : se_S (fl_Fr k o b p) = se_S (fun i => ((∃ r, r < k ∧ (fl_R k o b r ∧ fl_Bf k o b p r) ∧ cd_G k o b r i) ∧ ¬ (i < k ∧ i ≠ p ∧ fl_Bf k o b p i)) ∧ fl_R k o b i) := se_ext (fun i _ => ⟨fun z => ⟨⟨z.1, z.2.1⟩, z.2.2⟩, fun z => ⟨z.1.1, z.1.2, z.2⟩⟩)
        rw [← e]; exact hh
      | succ d ih =>
        intro k hk
        have ih := ih (k + 1) (by omega)
        have keep : (k = p ∨ ¬ fl_Bf n o b p k) → se_S (fun i => (∃ r, r < n ∧ (fl_R n o b r ∧ fl_Bf n o b p r) ∧ cd_G n o b r i) ∧ ¬ (i < k + 1 ∧ i ≠ p ∧ fl_Bf n o b p i)) = se_S (fun i => (∃ r, r < n ∧ (fl_R n o b r ∧ fl_Bf n o b p r) ∧ cd_G n o b r i) ∧ ¬ (i < k ∧ i ≠ p ∧ fl_Bf n o b p i)) := by
          intro hc
          refine se_ext (fun i _ => ⟨fun z => ⟨z.1, fun w => z.2 ⟨by omega, w.2⟩⟩, fun z => ⟨z.1, fun w => ?_⟩⟩)
          by_cases ei : i = k
          · subst ei
            exact hc.elim w.2.1 (fun q => q w.2.2)
          · exact z.2 ⟨by omega, w.2⟩
        refine br_f (nI_ge (by omega) (by omega)) ?_
        by_cases ekp : k = p
        · rw [keep (Or.inl ekp)] at ih
          exact br_t (by rw [ekp]) (gl_i ih)
        · refine br_f (fun z => ekp ((nI_eq (by omega) (by omega)).mp z)) (fy_isBefore ok hp (by omega) (fun hb => br_f (by decide) (nm_r ?_ (gl_i ih))) (fun hb => br_t rfl ?_))
          · rw [se_shl (by omega), se_not, se_and]
            refine se_ext (fun i _ => ⟨fun z => ⟨z.1.1, fun w => ?_⟩, fun z => ⟨⟨z.1, fun w => z.2 ⟨by omega, w.2⟩⟩, fun w => ?_⟩⟩)
            · by_cases ei : i = k
              · exact z.2 ei
              · exact z.1.2 ⟨by omega, w.2⟩
            · subst w
              exact z.2 ⟨by omega, ekp, hb⟩
          · rw [keep (Or.inr hb)] at ih
            exact gl_i ih
    have k0 := key n 0 (by omega)
    have e : se_S (fun i => (∃ r, r < n ∧ (fl_R n o b r ∧ fl_Bf n o b p r) ∧ cd_G n o b r i) ∧ ¬ (i < 0 ∧ i ≠ p ∧ fl_Bf n o b p i)) = se_S (fun i => ∃ r, r < n ∧ (fl_R n o b r ∧ fl_Bf n o b p r) ∧ cd_G n o b r i) := se_ext (fun i _ => ⟨fun z => z.1, fun z => ⟨z, fun w => by omega⟩⟩)
    rw [e] at k0
    exact ⟨_, k0⟩
theorem fl_JR {x : Int32} {i : Nat} (h : lf_L (fl_JE n o b) (fl_JA n o v b x) i) : fl_R n o b i :=
  h (fun i => fl_R n o b i) (fun _ z => z.elim (fun _ w => w.2.2.2.2)) (fun _ _ _ e => e.2.2.2)
theorem fy_joins (ok : cd_Ok n o v a b) {x : Int32} (h1 : ¬ x < 0 → ¬ 5 < x → post (se_S (lf_L (fl_JE n o b) (fl_JA n o v b x)))) (h0 : ¬ (¬ x < 0 ∧ ¬ 5 < x) → post (-1)) : wpY_joins post ((nI n), o, v, a, b) x := by
  have hn := ok.1
  unfold wpY_joins
  dsimp only
  refine fy_variable (fun g1 g2 => br_f (by decide) (fy_writers hn (fy_start (fy_reachable ok (nm_r (e' := se_S (fl_JB n o v b x)) ?_ ?_)) hn))) (fun g => br_t rfl (h0 g))
  · rw [se_or, se_and]; rfl
  · have hh := h1 g1 g2
    have hg := gl_sat (fun f P r => wY_joins_31 post (se_S (fl_JB n o v b x)) (nI n) o v a b f (se_S P) (nI r)) (fl_JE n o b) (fl_JA n o v b x) n 21 0 (by omega) (fun x y z => z.1) (fun P => post (se_S P)) ?_ ?_ ?_ (fun _ => False) (fun i z => z.elim) (Or.inr rfl) (Or.inr (Nat.zero_le _))
    · rw [← se_0] at hg
      exact hg
    · intro f P h
      exact br_t (nI_le (a := 21) (b := 21) (by omega) (by omega)) h
    · intro f r P hr hP hk _
      refine br_f (nI_ge (b := 21) hr (by omega)) ?_
      refine gl_pass (fun g Q k => wY_joins_41 post (wY_joins_31 post (se_S (fl_JB n o v b x)) (nI n) o v a b f) (se_S (fl_JB n o v b x)) (nI r) (nI n) o v a b g (se_S Q) (nI k)) (lf_L (fl_JE n o b) (fl_JA n o v b x)) (fun k y => (fl_JB n o v b x k ∨ P k) ∧ fl_Fr n o b k y) n P hP (fun Q => wY_joins_31 post (se_S (fl_JB n o v b x)) (nI n) o v a b f (se_S Q) (nI (r + 1))) ?_ ?_ ?_
      · intro g Q hd
        exact br_t (nI_le (Nat.le_refl _) (by omega)) (gl_i hd)
      · intro g k Q hk1 h1 h2 hk2
        refine br_f (nI_ge hk1 (by omega)) ?_
        rw [se_or]
        by_cases hQ : fl_JB n o v b x k ∨ Q k
        · refine br_t ((se_h1 (P := fun i => fl_JB n o v b x i ∨ Q i) (by omega)).mpr hQ) ?_
          have hR : fl_R n o b k := hQ.elim (fun z => z.2) (fun z => fl_JR (h2 k z))
          refine fy_frontier ok (fun q hq eq _ => ?_) (fun z => absurd ⟨k, hk1, rfl, hR⟩ z)
          have e3 := (nI_eq (by omega) (by omega)).mp eq
          subst e3
          refine nm_r (se_or _ _) (gl_i (hk2 (fun i => Q i ∨ fl_Fr n o b k i) (fun _ z => Or.inl z) (fun i z => z.elim (h2 i) (fun w => ?_)) (fun y hc => Or.inr hc.2)))
          exact hQ.elim (fun z => lf_i ⟨k, hk1, z, w⟩) (fun z => lf_s (h2 k z) ⟨hk1, w⟩)
        · refine br_f (fun z => hQ ((se_h1 (P := fun i => fl_JB n o v b x i ∨ Q i) (by omega)).mp z)) ?_
          exact gl_i (hk2 Q (fun _ z => z) h2 (fun y hc => absurd (hc.1.imp id (h1 k)) hQ))
      · intro P' g1 g2 g3
        exact hk P' g1 (fun i z => z.elim (fun k w => g3 k i w.1 ⟨Or.inl w.2.1, w.2.2⟩)) g2 (fun x y hx e => g3 x y e.1 ⟨Or.inr hx, e.2⟩)
    · intro P hP
      have e : se_S P = se_S (lf_L (fl_JE n o b) (fl_JA n o v b x)) := se_ext (fun i _ => hP i)
      show post (se_S P)
      rw [e]; exact hh
theorem fy_loop (ok : cd_Ok n o v a b) {x : Int32} (h1 : ∀ p, p < n → x = nI p → fl_R n o b p → post (se_S (fl_Lp n o b p))) (h0 : ¬ (∃ p, p < n ∧ x = nI p ∧ fl_R n o b p) → post (-1)) : wpY_loop post ((nI n), o, v, a, b) x := by
  have hn := ok.1
  unfold wpY_loop
  dsimp only
  refine fy_canReach ok (fun p hp ep hR => br_f (by decide) ?_) (fun hz => br_t rfl (h0 hz))
  subst ep
  have hh := h1 p hp rfl hR
  refine gl_pick (fun f x y => wY_loop_14 post (nI p) (nI n) o v a b f x y) n (fun r => fl_R n o b r ∧ cd_G n o b r p ∧ fl_Bf n o b p r) (fun x2 => ((x2 = 0 → (∃ n95 : Nat, wY_loop_95 post (nI p) x2 (nI n) o v a b n95 0 0)) ∧ (¬ x2 = 0 → (∀ x3_10 : Int32, x3_10 = (1 : Int32) <<< (nI p &&& 31) → (∃ n95 : Nat, wY_loop_95 post (nI p) x2 (nI n) o v a b n95 x3_10 0))))) (by omega) ?_ ?_ ?_
  · intro f x h
    exact br_t (nI_le (Nat.le_refl _) (by omega)) h
  · intro f k y hk h0 h1
    refine br_f (nI_ge hk (by omega)) (fy_canReachN ok hk (fun hR => br_f (by decide) (fy_goingOn ok hk ?_)) (fun hR => br_t rfl (br_t rfl (gl_i (h0 (fun z => hR z.1))))))
    by_cases hG : cd_G n o b k p
    · exact br_t ((se_h1 (by omega)).mpr hG) (fy_isBefore ok hp hk (fun hb => br_f (by decide) (br_f (by decide) (nm_e (gl_i (h1 ⟨hR, hG, hb⟩))))) (fun hb => br_t rfl (br_t rfl (gl_i (h0 (fun z => hb z.2.2))))))
    · exact br_f (fun z => hG ((se_h1 (by omega)).mp z)) (br_t rfl (gl_i (h0 (fun z => hG z.2.1))))
  · show (se_S (fl_Bk n o b p) = 0 → _) ∧ (¬ se_S (fl_Bk n o b p) = 0 → _)
    by_cases hB : ∃ r, fl_Bk n o b p r
    · have hnz : ¬ se_S (fl_Bk n o b p) = 0 := se_nz.mpr (hB.elim (fun r hr => ⟨r, by have := hr.1; omega, hr⟩))
      refine br_f hnz (nm_r (se_shl (by omega)) ?_)
      refine gl_col (fun f x y => wY_loop_95 post (nI p) (se_S (fl_Bk n o b p)) (nI n) o v a b f x y) n (fun q i => (fl_R n o b q ∧ ∃ r, fl_F n o b (fun j => j = q) (fun _ => False) (fun j => j = p) r ∧ fl_Bk n o b p r) ∧ i = q) post (fun i => i = p) ?_ ?_ ?_
      · intro f x h
        exact br_t (nI_le (Nat.le_refl _) (by omega)) h
      · intro f k y hk h
        refine br_f (nI_ge hk (by omega)) (br_f hnz (fy_canReachN ok hk (fun hR => br_f (by decide) (fy_flowE ok (se_shl (by omega)) se_0 (se_shl (by omega)) ?_)) (fun hR => br_t rfl (br_t rfl (gl_i (h y (se_n (fun i z => hR z.1.1))))))))
        have hb : ∀ i, fl_F n o b (fun j => j = k) (fun _ => False) (fun j => j = p) i → fl_Bk n o b p i → i < 32 := fun i _ z => by have := z.1; omega
        by_cases hm : ∃ r, fl_F n o b (fun j => j = k) (fun _ => False) (fun j => j = p) r ∧ fl_Bk n o b p r
        · exact br_f (fun z => (se_mt hb).mp z hm) (br_f (by decide) (nm_e (gl_i (h _ (se_own (by omega) ⟨hR, hm⟩)))))
        · exact br_t ((se_mt hb).mpr hm) (br_t rfl (gl_i (h y (se_n (fun i z => hm z.1.2)))))
      · have e : se_S (fl_Lp n o b p) = se_S (fun i => i = p ∨ ∃ q, q < n ∧ (fl_R n o b q ∧ ∃ r, fl_F n o b (fun j => j = q) (fun _ => False) (fun j => j = p) r ∧ fl_Bk n o b p r) ∧ i = q) := by
          refine se_ext (fun i _ => ⟨fun z => z.2.imp id (fun w => ⟨i, w.1, w.2, rfl⟩), fun z => ⟨hB, z.imp id (fun ⟨q, h1, h2, h3⟩ => ?_)⟩⟩)
          subst h3; exact ⟨h1, h2⟩
        rw [← e]; exact hh
    · have hz : se_S (fl_Bk n o b p) = 0 := se_z.mpr (fun i _ z => hB ⟨i, z⟩)
      have e : se_S (fl_Lp n o b p) = 0 := se_z.mpr (fun i _ z => hB z.1)
      rw [e] at hh
      refine br_t hz ⟨1, br_c (fun _ => hh) (fun _ => br_t hz hh)⟩
theorem fy_unset (ok : cd_Ok n o v a b) {x : Int32} (h1 : ∀ p, p < n → x = nI p → fl_R n o b p → post (se_S (fun i => i < 6 ∧ fl_Un n o v b p i))) (h0 : ¬ (∃ p, p < n ∧ x = nI p ∧ fl_R n o b p) → post (-1)) : wpY_unset post ((nI n), o, v, a, b) x := by
  have hn := ok.1
  unfold wpY_unset
  dsimp only
  refine fy_canReach ok (fun p hp ep hR => br_f (by decide) ?_) (fun hz => br_t rfl (h0 hz))
  subst ep
  refine gl_pick (fun f x y => wY_unset_14 post (nI p) (nI n) o v a b f x y) 6 (fun i => fl_Un n o v b p i) post (by omega) ?_ ?_ (h1 p hp rfl hR)
  · intro f x h
    exact br_t (nI_le (a := 6) (b := 6) (by omega) (by omega)) h
  · intro f k y hk h0 h1
    refine br_f (nI_ge (b := 6) hk (by omega)) (fy_start (fy_writers hn (fy_flowE ok rfl rfl se_0 ?_)) hn)
    by_cases hu : fl_Un n o v b p k
    · exact br_t ((se_h1 (P := fl_F n o b (fl_st n) (fl_W n o v (nI k)) (fun _ => False)) (by omega)).mpr hu) (nm_e (gl_i (h1 hu)))
    · exact br_f (fun z => hu ((se_h1 (P := fl_F n o b (fl_st n) (fl_W n o v (nI k)) (fun _ => False)) (by omega)).mp z)) (gl_i (h0 hu))
theorem fy_dead (ok : cd_Ok n o v a b) (h : post (se_S (fun d => d < n ∧ (cd_Wr o d ∧ ¬ fl_Us n o v a b d) ∧ fl_R n o b d))) : wpY_dead post ((nI n), o, v, a, b) := by
  have hn := ok.1
  unfold wpY_dead
  dsimp only
  refine gl_pick (fun f x y => wY_dead_4 post (nI n) o v a b f x y) n (fun d => (cd_Wr o d ∧ ¬ fl_Us n o v a b d) ∧ fl_R n o b d) post (by omega) ?_ ?_ h
  · intro f x h
    exact br_t (nI_le (Nat.le_refl _) (by omega)) h
  · intro f k y hk h0 h1
    refine br_f (nI_ge hk (by omega)) ⟨ix_in (by omega), ?_⟩
    have used : ∀ g j : Nat, j ≤ 20 → ¬ (cd_Wr o k ∧ ¬ fl_Us n o v a b k) → wY_dead_34 post (wY_dead_4 post (nI n) o v a b f) y (nI k) (nI n) o v a b (g + 1) 1 (nI j) := by
      intro g j hj hz
      have h88 : wY_dead_88 post (wY_dead_4 post (nI n) o v a b f) y (nI k) 1 (nI n) o v a b := br_f (by decide) (gl_i (h0 (fun z => hz z.1)))
      exact br_c (fun _ => h88) (fun _ => br_f (by decide) h88)
    refine fy_writes (fun hw => br_f (by decide) ?_) (fun hw => br_t rfl ⟨1, used 0 0 (by omega) ?_⟩)
    · rw [ix_cl (by omega : k < 20)] at hw
      obtain ⟨i, hi, ev⟩ := (ok.2 k hk).2.1 hw
      have key : ∀ d j, j + d = n → (¬ ∃ p, p < j ∧ cd_G n o b k p ∧ fl_Live n o v a b p i) → wY_dead_34 post (wY_dead_4 post (nI n) o v a b f) y (nI k) (nI n) o v a b (d + 2) 0 (nI j) := by
        intro d
        induction d with
        | zero =>
          intro j hj hu
          have ej : j = n := by omega
          subst ej
          refine br_t (nI_le (Nat.le_refl _) (by omega)) (br_t rfl (fy_canReachN ok hk (fun hR => br_f (by decide) (nm_e (gl_i (h1 ⟨⟨hw, ?_⟩, hR⟩)))) (fun hR => br_t rfl (gl_i (h0 (fun z => hR z.2))))))
          rintro ⟨p, hp, hG, i', hi', ev', hl⟩
          rw [ev] at ev'
          have := (nI_eq (by omega) (by omega)).mp ev'
          subst this
          exact hu ⟨p, hp, hG, hl⟩
        | succ d ih =>
          intro j hj hu
          refine br_f (nI_ge (by omega) (by omega)) (br_t rfl (fy_goingOn ok hk ?_))
          by_cases hG : cd_G n o b k j
          · refine br_t ((se_h1 (by omega)).mpr hG) ⟨ix_in (by omega), ?_⟩
            rw [ix_cl (by omega : k < 20), ev]
            refine fy_isLive ok (by omega) (fun hl => br_f (by decide) (gl_i (used _ _ (by omega) (fun z => z.2 ⟨j, by omega, hG, i, hi, ev, hl⟩)))) (fun hl => br_t rfl (gl_i (ih (j + 1) (by omega) ?_)))
            rintro ⟨p, hp, hG', hl'⟩
            by_cases e : p = j
            · subst e; exact hl hl'
            · exact hu ⟨p, by omega, hG', hl'⟩
          · refine br_f (fun z => hG ((se_h1 (by omega)).mp z)) (gl_i (ih (j + 1) (by omega) ?_))
            rintro ⟨p, hp, hG', hl'⟩
            by_cases e : p = j
            · subst e; exact hG hG'
            · exact hu ⟨p, by omega, hG', hl'⟩
      exact ⟨_, key n 0 (by omega) (fun z => z.elim (fun p w => by omega))⟩
    · rw [ix_cl (by omega : k < 20)] at hw
      exact fun z => z.1 hw
end
end
section
/-! the component's small methods, ways, survey -/
theorem pk_us {f : Nat → Int32} {k : Nat} {x : Int32} : upd f k x k = x := if_pos rfl
theorem pk_un {f : Nat → Int32} {k j : Nat} {x : Int32} (h : j ≠ k) : upd f k x j = f j := if_neg h
theorem fl_nC {n : Nat} {o b : Nat → Int32} {A B C : Nat → Prop} {q : Nat} (h : fl_F n o b A B C q) : ¬ C q :=
  h (fun q => ¬ C q) (fun _ z => z.2) (fun _ _ _ e => e.2.2)
theorem fl_A {n : Nat} {o b : Nat → Int32} {A A' B C : Nat → Prop} {q : Nat} (hA : ∀ i, A i → A' i) (h : fl_F n o b A B C q) : fl_F n o b A' B C q :=
  h (fl_F n o b A' B C) (fun i z => lf_i ⟨hA i z.1, z.2⟩) (fun _ _ z e => lf_s z e)
theorem fl_sp {n : Nat} {o b : Nat → Int32} {B C : Nat → Prop} {q : Nat} (hn : 0 < n) : fl_F n o b (fun i => i = cd_sp n 0) B C q ↔ fl_F n o b (fl_st n) B C q := by
  have e : cd_sp n 0 = 0 := cd_spi hn
  rw [e]
  exact ⟨fl_A (fun i z => ⟨hn, z⟩), fl_A (fun i z => z.2)⟩
theorem fl_Rn {n : Nat} {o b : Nat → Int32} {q : Nat} (h : fl_R n o b q) : 0 < n := by have := h.2; omega
section
variable {n : Nat} {rc : Int32} {o v a b wt rd cm nx bh sd kp mk tg fa nt : Nat → Int32} {post : Int32 → Prop}
theorem fx_hasV {u : SX} {x : Int32} (h1 : ¬ 3 < x → post 1) (h0 : 3 < x → post 0) : wpX_hasV post u x := by
  obtain ⟨_, _, _, _, _, _, _, _, _, _, _, _, _, _, _, _⟩ := u
  exact br_c h0 h1
theorem fx_isVariable {u : SX} {x : Int32} (h1 : ¬ x < 0 → ¬ 6 ≤ x → post 1) (h0 : ¬ (¬ x < 0 ∧ ¬ 6 ≤ x) → post 0) : wpX_isVariable post u x := by
  obtain ⟨_, _, _, _, _, _, _, _, _, _, _, _, _, _, _, _⟩ := u
  exact br_c (fun h => h0 (fun z => z.1 h)) (fun h => br_c (fun g => h0 (fun z => z.2 g)) (fun g => h1 h g))
theorem fx_hasA {u : SX} {x : Int32} (h1 : (¬ x = 0 ∧ ¬ x = 5) → post 1) (h0 : ¬ (¬ x = 0 ∧ ¬ x = 5) → post 0) : wpX_hasA post u x := by
  obtain ⟨_, _, _, _, _, _, _, _, _, _, _, _, _, _, _, _⟩ := u
  exact br_c (fun h => h0 (fun z => z.1 h)) (fun h => br_c (fun g => h0 (fun z => z.2 g)) (fun g => h1 ⟨h, g⟩))
theorem fx_computes {u : SX} {x : Int32} (h1 : x = 2 ∨ x = 3 → post 1) (h0 : ¬ (x = 2 ∨ x = 3) → post 0) : wpX_computes post u x := by
  obtain ⟨_, _, _, _, _, _, _, _, _, _, _, _, _, _, _, _⟩ := u
  exact br_c (fun h => h1 (Or.inl h)) (fun h => br_c (fun g => h1 (Or.inr g)) (fun g => h0 (fun z => z.elim h g)))
theorem fx_jumps {u : SX} {x : Int32} (h1 : x = 5 ∨ x = 6 → post 1) (h0 : ¬ (x = 5 ∨ x = 6) → post 0) : wpX_jumps post u x := by
  obtain ⟨_, _, _, _, _, _, _, _, _, _, _, _, _, _, _, _⟩ := u
  exact br_c (fun h => h1 (Or.inl h)) (fun h => br_c (fun g => h1 (Or.inr g)) (fun g => h0 (fun z => z.elim h g)))
theorem fx_isEngine {u : SX} {x : Int32} (h1 : cd_Eg x → post 1) (h0 : ¬ cd_Eg x → post 0) : wpX_isEngine post u x := by
  obtain ⟨_, _, _, _, _, _, _, _, _, _, _, _, _, _, _, _⟩ := u
  exact br_c (fun h => h0 (fun z => z.1 h)) (fun h => br_c (fun g => h0 (fun z => z.2 g)) (fun g => h1 ⟨h, g⟩))
theorem fx_asks {u : SX} {x : Int32} (h1 : x = 2 ∨ x = 3 → post 1) (h0 : ¬ (x = 2 ∨ x = 3) → post 0) : wpX_asksWhatFails post u x := by
  obtain ⟨_, _, _, _, _, _, _, _, _, _, _, _, _, _, _, _⟩ := u
  exact br_c (fun h => h1 (Or.inl h)) (fun h => br_c (fun g => h1 (Or.inr g)) (fun g => h0 (fun z => z.elim h g)))
theorem fx_looks {u : SX} {x : Int32} (h1 : x = 0 ∨ x = 2 ∨ x = 4 → post 1) (h0 : ¬ (x = 0 ∨ x = 2 ∨ x = 4) → post 0) : wpX_looksBack post u x := by
  obtain ⟨_, _, _, _, _, _, _, _, _, _, _, _, _, _, _, _⟩ := u
  exact br_c (fun h => h1 (Or.inl h)) (fun h => br_c (fun g => h1 (Or.inr (Or.inl g))) (fun g => br_c (fun k => h1 (Or.inr (Or.inr k))) (fun k => h0 (fun z => z.elim h (fun w => w.elim g k)))))
theorem fx_has {u : SX} {x : Int32} {P : Nat → Prop} {p : Nat} (hp : p < 32) (hx : x = se_S P) (h1 : P p → post 1) (h0 : ¬ P p → post 0) : wpX_has post u x (nI p) := by
  obtain ⟨_, _, _, _, _, _, _, _, _, _, _, _, _, _, _, _⟩ := u
  subst hx
  exact br_c (fun h => h0 ((se_h0 hp).mp h)) (fun h => h1 (Classical.byContradiction fun z => h ((se_h0 hp).mpr z)))
theorem fx_spot {x : Int32} {t : Nat} (hn : n ≤ 20) (ht : t ≤ 20) (hx : x = nI t) (h : post (se_S (fun i => i = cd_sp n t))) : wpX_spot post ((nI n), rc, o, a, b, wt, rd, cm, nx, bh, sd, kp, mk, tg, fa, nt) x := by
  subst hx
  by_cases g : t < n
  · refine br_f (nI_ge g (by omega)) ?_
    rw [se_shl (by omega)]
    rw [cd_spi g] at h
    exact h
  · refine br_t (nI_le (by omega) (by omega)) ?_
    have e : ((1 : Int32) <<< ((20 : Int32) &&& 31)) = se_S (fun i => i = 20) := se_shl (p := 20) (by omega)
    rw [e]
    unfold cd_sp at h
    rw [if_neg g] at h
    exact h
theorem fx_wholeCode (hn : n ≤ 20) (h : post (se_S (fun i => i < n))) : wpX_wholeCode post ((nI n), rc, o, a, b, wt, rd, cm, nx, bh, sd, kp, mk, tg, fa, nt) := by
  unfold wpX_wholeCode
  dsimp only
  rw [se_all hn]; exact h
theorem fx_isInCode (hn : n ≤ 20) {x : Int32} (h1 : ∀ p, p < n → x = nI p → post 1) (h0 : (∀ p, p < n → x ≠ nI p) → post 0) : wpX_isInCode post ((nI n), rc, o, a, b, wt, rd, cm, nx, bh, sd, kp, mk, tg, fa, nt) x := by
  rcases ix_c x hn with ⟨p, hp, e⟩ | ⟨h, g⟩
  · subst e
    exact br_f (nI_pos (by omega)) (br_f (nI_ge hp (by omega)) (h1 p hp rfl))
  · rcases h with h | h
    · exact br_t h (h0 g)
    · exact br_f h.1 (br_t h.2 (h0 g))
theorem fx_isReachable (hn : n ≤ 20) {R : Nat → Prop} (hR : rc = se_S R) {x : Int32} (h1 : ∀ p, p < n → x = nI p → R p → post 1) (h0 : ¬ (∃ p, p < n ∧ x = nI p ∧ R p) → post 0) : wpX_isReachable post ((nI n), rc, o, a, b, wt, rd, cm, nx, bh, sd, kp, mk, tg, fa, nt) x := by
  unfold wpX_isReachable
  dsimp only
  refine fx_isInCode hn (fun p hp e => br_f (by decide) ?_) (fun g => br_t rfl (h0 (fun ⟨p, hp, e, _⟩ => g p hp e)))
  subst e
  refine fx_has (by omega) hR (fun z => br_f (by decide) (h1 p hp rfl z)) (fun z => br_t rfl (h0 ?_))
  rintro ⟨q, hq, e, w⟩
  have := (nI_eq (by omega) (by omega)).mp e
  subst this
  exact z w
theorem fx_onward (hn : n ≤ 20) {N : Nat → Nat → Prop} (hN : ∀ p, p < n → nx p = se_S (N p)) {x : Int32} {P : Nat → Prop} (hx : x = se_S P) (h : post (se_S (fun i => ∃ p, p < n ∧ P p ∧ N p i))) : wpX_onwardFrom post ((nI n), rc, o, a, b, wt, rd, cm, nx, bh, sd, kp, mk, tg, fa, nt) x := by
  unfold wpX_onwardFrom
  dsimp only
  refine gl_un (fun f y z => wX_onwardFrom_4 post x (nI n) rc o a b wt rd cm nx bh sd kp mk tg fa nt f y z) n P N post ?_ ?_ h
  · intro f x h
    exact br_t (nI_le (Nat.le_refl _) (by omega)) h
  · intro f k y hk h0 h1
    refine br_f (nI_ge hk (by omega)) (fx_has (by omega) hx (fun hc => br_f (by decide) ⟨ix_in (by omega), ?_⟩) (fun hc => br_t rfl (gl_i (h0 hc))))
    rw [ix_cl (by omega : k < 20)]
    exact fun z ez => gl_i (h1 hc z (by rw [ez, hN k hk]))
theorem fx_goingOnAt (hn : n ≤ 20) {N : Nat → Nat → Prop} (hN : ∀ p, p < n → nx p = se_S (N p)) {q : Nat} (hq : q < 32) (h : post (se_S (fun i => i < n ∧ N i q))) : wpX_goingOnAt post ((nI n), rc, o, a, b, wt, rd, cm, nx, bh, sd, kp, mk, tg, fa, nt) (nI q) := by
  unfold wpX_goingOnAt
  dsimp only
  refine gl_pick (fun f y z => wX_goingOnAt_4 post (nI q) (nI n) rc o a b wt rd cm nx bh sd kp mk tg fa nt f y z) n (fun i => N i q) post (by omega) ?_ ?_ h
  · intro f x h
    exact br_t (nI_le (Nat.le_refl _) (by omega)) h
  · intro f k y hk h0 h1
    refine br_f (nI_ge hk (by omega)) ⟨ix_in (by omega), ?_⟩
    rw [ix_cl (by omega : k < 20)]
    exact fx_has hq (hN k hk) (fun hc => br_f (by decide) (nm_e (gl_i (h1 hc)))) (fun hc => br_t rfl (gl_i (h0 hc)))
theorem fx_ways (hn : n ≤ 20) (hN : ∀ p, p < n → nx p = se_S (cd_G n o b p)) {x y : Int32} {p : Nat} {C : Nat → Prop} (hx : x = nI p) (hp : p ≤ 20) (hC : y = se_S C) (h : post (se_S (fl_F n o b (fun i => i = cd_sp n p) (fun _ => False) C))) : wpX_waysFrom post ((nI n), rc, o, a, b, wt, rd, cm, nx, bh, sd, kp, mk, tg, fa, nt) x y := by
  subst hC
  unfold wpX_waysFrom
  dsimp only
  refine fx_spot hn hp hx (nm_r (e' := se_S (fun i => i = cd_sp n p ∧ ¬ C i)) (by rw [se_not, se_and]) ?_)
  refine gl_clo (fun f y z => wX_waysFrom_13 post (se_S C) (nI n) rc o a b wt rd cm nx bh sd kp mk tg fa nt f y z) (fl_E n o b (fun _ => False) C) (fun i => i = cd_sp n p ∧ ¬ C i) post _ ?_ (fun i z => lf_i z) ?_ ?_ h
  · intro i z
    have := fl_Fl (A := fun i => i = cd_sp n p) hn (fun i z => by rw [z]; exact cd_spl hn) z
    omega
  · intro f x h
    exact br_t (nI_lt (a := 20) (b := 21) (by omega) (by omega)) h
  · intro f k P hk hP h0P hh
    refine br_f (nI_nlt (a := 20) (by omega) (by omega)) (fx_onward hn hN rfl (nm_r (e' := se_S (fun i => P i ∨ (i = cd_sp n p ∧ ¬ C i) ∨ ∃ q, P q ∧ fl_E n o b (fun _ => False) C q i)) ?_ ?_))
    · rw [se_or, se_not, se_and]
      refine se_ext (fun i _ => ⟨?_, ?_⟩)
      · rintro ⟨z | ⟨q, h1, h2, h3⟩, w⟩
        · exact Or.inl z
        · exact Or.inr (Or.inr ⟨q, h2, h3, fun z => z, w⟩)
      · rintro (z | z | ⟨q, h1, h2⟩)
        · exact ⟨Or.inl z, fl_nC (hP i z)⟩
        · exact ⟨Or.inl (h0P i z), z.2⟩
        · exact ⟨Or.inr ⟨q, h2.1.1, h1, h2.1⟩, h2.2.2⟩
    · have g := hh _ rfl
      exact ⟨g.1, fun z => gl_i (g.2 z)⟩
end
section
variable {n : Nat} {rc : Int32} {o v a b wt rd cm nx bh sd kp mk tg fa nt : Nat → Int32}
theorem fx_survey3 {post : SX → Prop} (hn : n ≤ 20) (hN : ∀ p, p < n → nx p = se_S (cd_G n o b p)) (hR : rc = se_S (fl_R n o b)) (h : ∀ bh', (∀ p, p < n → bh' p = se_S (fun i => fl_R n o b i ∧ fl_Bf n o b p i)) → post ((nI n), rc, o, a, b, wt, rd, cm, nx, bh', sd, kp, mk, tg, fa, nt)) : ∃ f, wX_survey_96 post (nI n) rc f 0 o a b wt rd cm nx bh sd kp mk tg fa nt := by
  have key : ∀ d k bh', k + d = n → (∀ p, p < k → bh' p = se_S (fun i => fl_R n o b i ∧ fl_Bf n o b p i)) → wX_survey_96 post (nI n) rc (d + 1) (nI k) o a b wt rd cm nx bh' sd kp mk tg fa nt := by
    intro d
    induction d with
    | zero =>
      intro k bh' hk hb
      have e : k = n := by omega
      subst e
      exact br_t (nI_le (Nat.le_refl _) (by omega)) (h bh' hb)
    | succ d ih =>
      intro k bh' hk hb
      refine br_f (nI_ge (by omega) (by omega)) (fx_ways hn hN (p := 0) nI_0.symm (by omega) (se_shl (by omega)) ⟨ix_in (by omega), ?_⟩)
      rw [ix_cl (by omega : k < 20)]
      refine nm_r (e' := upd bh' k (se_S (fun i => fl_R n o b i ∧ fl_Bf n o b k i))) ?_ (gl_i (ih (k + 1) _ (by omega) ?_))
      · rw [hR, se_not, se_and]
        refine congrArg _ (se_ext (fun i _ => ⟨fun z => ⟨z.1, fun w => z.2 ?_⟩, fun z => ⟨z.1, fun w => z.2 ?_⟩⟩))
        · exact (fl_sp (by omega)).mpr w
        · exact (fl_sp (by omega)).mp w
      · intro p hp
        by_cases e : p = k
        · subst e; exact pk_us
        · rw [pk_un e]; exact hb p (by omega)
  exact ⟨_, key n 0 bh (by omega) (fun p hp => by omega)⟩
theorem fx_survey {post : SX → Prop} (ok : cd_Ok n o v a b) (h : ∀ nx' bh', (∀ p, p < n → nx' p = se_S (cd_G n o b p)) → (∀ p, p < n → bh' p = se_S (fun i => fl_R n o b i ∧ fl_Bf n o b p i)) → post ((nI n), se_S (fl_R n o b), o, a, b, wt, rd, cm, nx', bh', sd, kp, mk, tg, fa, nt)) : wpX_survey post ((nI n), rc, o, a, b, wt, rd, cm, nx, bh, sd, kp, mk, tg, fa, nt) := by
  have hn := ok.1
  have key : ∀ d k nx', k + d = n → (∀ p, p < k → nx' p = se_S (cd_G n o b p)) → wX_survey_2 post (nI n) rc (d + 1) (nI k) o a b wt rd cm nx' bh sd kp mk tg fa nt := by
    intro d
    induction d with
    | zero =>
      intro k nx' hk hb
      have e : k = n := by omega
      subst e
      refine br_t (nI_le (Nat.le_refl _) (by omega)) (fx_ways hn hb (p := 0) nI_0.symm (by omega) se_0 (fx_wholeCode hn (nm_r (e' := se_S (fl_R k o b)) ?_ (fx_survey3 hn hb rfl (fun bh' hbh => h nx' bh' hb hbh)))))
      rw [se_and]
      refine se_ext (fun i _ => ⟨fun z => ⟨(fl_sp (by have := z.2; omega)).mp z.1, z.2⟩, fun z => ⟨(fl_sp (by have := z.2; omega)).mpr z.1, z.2⟩⟩)
    | succ d ih =>
      intro k nx' hk hb
      have hi : vp_in (nI k) 20 := ix_in (by omega)
      have hkn : k < n := by omega
      obtain ⟨_, _, _, _, hj⟩ := ok.2 k hkn
      refine br_f (nI_ge (by omega) (by omega)) ⟨hi, ?_⟩
      have H36 : ∀ z0 : Int32, (z0 = se_S (fun i => ¬ o k = 5 ∧ i = cd_sp n (k + 1))) → wX_survey_36 post (wX_survey_2 post (nI n) rc (d + 1)) (nI k) z0 (nI k) (nI n) rc o a b wt rd cm nx' bh sd kp mk tg fa nt := by
        intro z0 hz0
        unfold wX_survey_36
        rw [ix_cl (by omega : k < 20)]
        refine ⟨hi, nm_e ⟨hi, hi, ?_⟩⟩
        refine fx_jumps (fun hj5 => br_f (by decide) ⟨hi, ?_⟩) (fun hj5 => br_t rfl ⟨hi, nm_e (gl_i (ih (k + 1) _ (by omega) ?_))⟩)
        · obtain ⟨t, ht, et⟩ := hj hj5
          refine fx_spot hn ht et ⟨hi, nm_e (gl_i (ih (k + 1) _ (by omega) ?_))⟩
          intro p hp
          by_cases e : p = k
          · subst e
            rw [pk_us, pk_us, hz0, se_or]
            refine se_ext (fun i _ => ?_)
            unfold cd_G
            rw [et, nI_clamp (by omega)]
            exact ⟨fun z => ⟨hkn, z.imp id (fun w => ⟨hj5, w⟩)⟩, fun z => z.2.imp id (fun w => w.2)⟩
          · rw [pk_un e, pk_un e]; exact hb p (by omega)
        · intro p hp
          by_cases e : p = k
          · subst e
            rw [pk_us, pk_us, se_or0, hz0]
            refine se_ext (fun i _ => ?_)
            exact ⟨fun z => ⟨hkn, Or.inl z⟩, fun z => z.2.elim id (fun w => absurd w.1 hj5)⟩
          · rw [pk_un e, pk_un e]; exact hb p (by omega)
      rw [ix_cl (by omega : k < 20)]
      refine br_c (fun h5 => H36 0 ?_) (fun h5 => fx_spot hn (t := k + 1) (by omega) (nI_1 k) (H36 _ ?_))
      · rw [se_0]; exact se_ext (fun i _ => ⟨fun z => z.elim, fun z => z.1 h5⟩)
      · exact se_ext (fun i _ => ⟨fun z => ⟨h5, z⟩, fun z => z.2⟩)
  exact ⟨_, key n 0 nx (by omega) (fun p hp => by omega)⟩
end
end
section
/-! the relation; emit and drop -/
def cd_Cm (o a b : Nat → Int32) (p i : Nat) : Prop := i ≤ p ∧ cd_Nm o a b i ∧ cd_Sm o a b i p
def rl_X (n : Nat) (rc : Int32) (o v a b wt rd cm nx bh : Nat → Int32) : Prop := cd_Ok n o v a b ∧ rc = se_S (fl_R n o b) ∧ (∀ p, p < n → wt p = se_S (cd_Wt o v p)) ∧ (∀ p, p < n → rd p = se_S (cd_Rd o a b p)) ∧ (∀ p, p < n → cm p = se_S (cd_Cm o a b p)) ∧ (∀ p, p < n → nx p = se_S (cd_G n o b p)) ∧ (∀ p, p < n → bh p = se_S (fun i => fl_R n o b i ∧ fl_Bf n o b p i))
def rl_V (x1 x2 x3 x4 : Int32) : Prop := (¬ x1 < 0 ∧ x1 ≤ 6) ∧ (¬ 3 < x1 → ¬ x2 < 0 ∧ ¬ 5 < x2) ∧ ((¬ x1 = 0 ∧ ¬ x1 = 5) → ¬ x3 < 0 ∧ ¬ 5 < x3) ∧ ((x1 = 2 ∨ x1 = 3) → ¬ x4 < 0 ∧ ¬ 5 < x4) ∧ ((x1 = 5 ∨ x1 = 6) → ¬ x4 < 0 ∧ ¬ 20 < x4)
theorem ix_56 {x : Int32} : ¬ 6 ≤ x ↔ ¬ 5 < x := by
  rw [Int32.le_iff_toInt_le, Int32.lt_iff_toInt_lt]
  have e1 : (6 : Int32).toInt = 6 := by decide
  have e2 : (5 : Int32).toInt = 5 := by decide
  rw [e1, e2]
  omega
theorem ix_2021 {x : Int32} : x ≤ 20 ↔ ¬ 20 < x := by
  rw [Int32.not_lt]
theorem ix_v5 {x : Int32} (h : ¬ x < 0 ∧ ¬ 5 < x) : ∃ i, i < 6 ∧ x = nI i := by
  obtain ⟨j, hj, e⟩ := nI_of2 (x := x) (M := 5) (n := 5) (by decide) h.1 (Int32.not_lt.mp h.2)
  exact ⟨j, by omega, e⟩
theorem ix_v20 {x : Int32} (h : ¬ x < 0 ∧ ¬ 20 < x) : ∃ i, i ≤ 20 ∧ x = nI i :=
  nI_of2 (x := x) (M := 20) (n := 20) (by decide) h.1 (Int32.not_lt.mp h.2)
theorem ix_j : ∀ j, j < 7 → (¬ nI j < 5 ↔ (nI j = 5 ∨ nI j = 6)) := by decide +kernel
section
variable {n : Nat} {rc : Int32} {o v a b wt rd cm nx bh sd kp mk tg fa nt : Nat → Int32}
theorem fx_leastLike {post : Int32 → Prop} {p : Nat} (hp : p < 20) (h : ∀ q, q ≤ p → (o q = o p ∧ a q = a p ∧ b q = b p) → (∀ j, j < q → ¬ (o j = o p ∧ a j = a p ∧ b j = b p)) → post (nI q)) : wpX_leastLike post ((nI n), rc, o, a, b, wt, rd, cm, nx, bh, sd, kp, mk, tg, fa, nt) (nI p) := by
  unfold wpX_leastLike
  dsimp only
  have key : ∀ d k, k + d = p → (∀ j, j < k → ¬ (o j = o p ∧ a j = a p ∧ b j = b p)) → wX_leastLike_2 post (nI p) (nI n) rc o a b wt rd cm nx bh sd kp mk tg fa nt (d + 1) (nI k) := by
    intro d
    induction d with
    | zero =>
      intro k hk hu
      have e : k = p := by omega
      subst e
      exact br_t (nI_le (Nat.le_refl _) (by omega)) (h k (Nat.le_refl _) ⟨rfl, rfl, rfl⟩ hu)
    | succ d ih =>
      intro k hk hu
      have i1 : vp_in (nI k) 20 := ix_in (by omega)
      have i2 : vp_in (nI p) 20 := ix_in (by omega)
      have next : ¬ (o k = o p ∧ a k = a p ∧ b k = b p) → wX_leastLike_2 post (nI p) (nI n) rc o a b wt rd cm nx bh sd kp mk tg fa nt (d + 1) (nI (k + 1)) := by
        intro hne
        refine ih (k + 1) (by omega) (fun j hj => ?_)
        by_cases e : j = k
        · subst e; exact hne
        · exact hu j (by omega)
      refine br_f (nI_ge (by omega) (by omega)) ⟨i1, i2, ?_⟩
      rw [ix_cl (by omega : k < 20), ix_cl hp]
      refine br_c (fun e1 => ⟨i1, i2, br_c (fun e2 => ⟨i1, i2, br_c (fun e3 => h k (by omega) ⟨e1, e2, e3⟩ hu) (fun e3 => gl_i (next (fun z => e3 z.2.2)))⟩) (fun e2 => gl_i (next (fun z => e2 z.2.1)))⟩) (fun e1 => gl_i (next (fun z => e1 z.1)))
  exact ⟨_, key p 0 (by omega) (fun j hj => by omega)⟩
theorem cd_Cm1 {p q : Nat} (hc : cd_Cp o p) (hq : q ≤ p) (h1 : o q = o p ∧ a q = a p ∧ b q = b p) (h2 : ∀ j, j < q → ¬ (o j = o p ∧ a j = a p ∧ b j = b p)) (i : Nat) : i = q ↔ cd_Cm o a b p i := by
  constructor
  · intro e
    subst e
    have hci : cd_Cp o i := by unfold cd_Cp; rw [h1.1]; exact hc
    refine ⟨hq, ⟨hci, fun j hj hs => h2 j hj ⟨hs.2.1.trans h1.1, hs.2.2.1.trans h1.2.1, hs.2.2.2.trans h1.2.2⟩⟩, hci, h1⟩
  · rintro ⟨hip, ⟨hci, hm⟩, hs⟩
    rcases Nat.lt_trichotomy i q with hl | hl | hl
    · exact absurd hs.2 (h2 i hl)
    · exact hl
    · refine absurd ?_ (hm q hl)
      have hcq : cd_Cp o q := by unfold cd_Cp; rw [h1.1]; exact hc
      exact ⟨hcq, h1.1.trans hs.2.1.symm, h1.2.1.trans hs.2.2.1.symm, h1.2.2.trans hs.2.2.2.symm⟩
theorem cd_Cm0 {p : Nat} (hc : ¬ cd_Cp o p) (i : Nat) : ¬ cd_Cm o a b p i := by
  rintro ⟨_, _, hs⟩
  refine hc ?_
  have := hs.1
  unfold cd_Cp at this ⊢
  rw [← hs.2.1]; exact this
theorem cd_Smc {o' a' b' : Nat → Int32} {i p : Nat} (hi : o' i = o i ∧ a' i = a i ∧ b' i = b i) (hp : o' p = o p ∧ a' p = a p ∧ b' p = b p) : cd_Sm o' a' b' i p ↔ cd_Sm o a b i p := by
  unfold cd_Sm cd_Cp
  rw [hi.1, hi.2.1, hi.2.2, hp.1, hp.2.1, hp.2.2]
theorem cd_Cmc {o' a' b' : Nat → Int32} {p : Nat} (h : ∀ q, q ≤ p → o' q = o q ∧ a' q = a q ∧ b' q = b q) (i : Nat) : cd_Cm o' a' b' p i ↔ cd_Cm o a b p i := by
  unfold cd_Cm
  by_cases hi : i ≤ p
  · have hN : cd_Nm o' a' b' i ↔ cd_Nm o a b i := by
      unfold cd_Nm
      have hc : cd_Cp o' i ↔ cd_Cp o i := by unfold cd_Cp; rw [(h i hi).1]
      rw [hc]
      refine and_congr Iff.rfl ⟨fun z q hq => ?_, fun z q hq => ?_⟩
      · rw [← cd_Smc (h q (by omega)) (h i hi)]; exact z q hq
      · rw [cd_Smc (h q (by omega)) (h i hi)]; exact z q hq
    rw [hN, cd_Smc (h i hi) (h p (Nat.le_refl _))]
  · exact ⟨fun z => absurd z.1 hi, fun z => absurd z.1 hi⟩
theorem fx_e215 {post : Int32 → SX → Prop} (ok : cd_Ok (n + 1) o v a b) (hW : ∀ p, p < n + 1 → wt p = se_S (cd_Wt o v p)) (hRd : ∀ p, p < n + 1 → rd p = se_S (cd_Rd o a b p)) (hC : ∀ p, p < n → cm p = se_S (cd_Cm o a b p)) {z0 : Int32} (hz : z0 = se_S (cd_Cm o a b n))
    (h : ∀ rc' wt' rd' cm' nx' bh', rl_X (n + 1) rc' o v a b wt' rd' cm' nx' bh' → post (nI n) (nI (n + 1), rc', o, a, b, wt', rd', cm', nx', bh', sd, kp, mk, tg, fa, nt)) : wX_emit_215 post (nI n) z0 (nI n) (nI n) rc o a b wt rd cm nx bh sd kp mk tg fa nt := by
  have hn := ok.1
  unfold wX_emit_215
  rw [ix_cl (by omega : n < 20)]
  refine ⟨ix_in (by omega), nm_e (nm_r (nI_1 n) ?_)⟩
  refine fx_survey ok (fun nx' bh' h1 h2 => ?_)
  refine h _ _ _ _ _ _ ⟨ok, rfl, hW, hRd, ?_, h1, h2⟩
  intro p hp
  by_cases e : p = n
  · subst e; rw [pk_us]; exact hz
  · rw [pk_un e]; exact hC p (by omega)
theorem fx_e187 {post : Int32 → SX → Prop} (ok : cd_Ok (n + 1) o v a b) (hW : ∀ p, p < n + 1 → wt p = se_S (cd_Wt o v p)) (hRd : ∀ p, p < n → rd p = se_S (cd_Rd o a b p)) (hC : ∀ p, p < n → cm p = se_S (cd_Cm o a b p)) {z0 z1 x1 : Int32} (hz : z1 ||| z0 = se_S (cd_Rd o a b n)) (hx : x1 = o n)
    (h : ∀ rc' wt' rd' cm' nx' bh', rl_X (n + 1) rc' o v a b wt' rd' cm' nx' bh' → post (nI n) (nI (n + 1), rc', o, a, b, wt', rd', cm', nx', bh', sd, kp, mk, tg, fa, nt)) : wX_emit_187 post x1 (nI n) z0 z1 (nI n) (nI n) rc o a b wt rd cm nx bh sd kp mk tg fa nt := by
  have hn := ok.1
  unfold wX_emit_187
  rw [ix_cl (by omega : n < 20)]
  refine ⟨ix_in (by omega), nm_e ?_⟩
  have hRd' : ∀ p, p < n + 1 → upd rd n (z1 ||| z0) p = se_S (cd_Rd o a b p) := by
    intro p hp
    by_cases e : p = n
    · subst e; rw [pk_us]; exact hz
    · rw [pk_un e]; exact hRd p (by omega)
  subst hx
  refine fx_computes (fun hc => br_f (by decide) (fx_leastLike (by omega) (fun q hq g1 g2 => ?_))) (fun hc => br_t rfl ?_)
  · refine fx_e215 ok hW hRd' hC ?_ h
    rw [se_shl (by omega)]
    exact se_ext (fun i _ => cd_Cm1 hc hq g1 g2 i)
  · refine fx_e215 ok hW hRd' hC ?_ h
    exact (se_z.mpr (fun i _ => cd_Cm0 hc i)).symm
theorem fx_e85 {post : Int32 → SX → Prop} {x1 x2 x3 x4 : Int32} (rel : rl_X n rc o v a b wt rd cm nx bh) (hV : rl_V x1 x2 x3 x4) (hlt : n < 20)
    (h : ∀ rc' wt' rd' cm' nx' bh', rl_X (n + 1) rc' (upd o n x1) (upd v n x2) (upd a n x3) (upd b n x4) wt' rd' cm' nx' bh' → post (nI n) (nI (n + 1), rc', upd o n x1, upd a n x3, upd b n x4, wt', rd', cm', nx', bh', sd, kp, mk, tg, fa, nt)) : wX_emit_85 post x1 x2 x3 x4 (nI n) rc o a b wt rd cm nx bh sd kp mk tg fa nt := by
  obtain ⟨ok, hR, hW, hRd, hC, hN, hB⟩ := rel
  have eo : ∀ p, p < n → upd o n x1 p = o p := fun p hp => pk_un (by omega)
  have ev : ∀ p, p < n → upd v n x2 p = v p := fun p hp => pk_un (by omega)
  have ea : ∀ p, p < n → upd a n x3 p = a p := fun p hp => pk_un (by omega)
  have eb : ∀ p, p < n → upd b n x4 p = b p := fun p hp => pk_un (by omega)
  have fo : upd o n x1 n = x1 := pk_us
  have fv : upd v n x2 n = x2 := pk_us
  have fa' : upd a n x3 n = x3 := pk_us
  have fb : upd b n x4 n = x4 := pk_us
  obtain ⟨hop, hv, ha, hb, hj⟩ := hV
  have ok' : cd_Ok (n + 1) (upd o n x1) (upd v n x2) (upd a n x3) (upd b n x4) := by
    refine ⟨by omega, fun p hp => ?_⟩
    by_cases e : p = n
    · subst e
      unfold cd_Op cd_Wr cd_Rf cd_Cp
      rw [fo, fv, fa', fb]
      exact ⟨hop, fun z => ix_v5 (hv z), fun z => ix_v5 (ha z), fun z => ix_v5 (hb z), fun z => ix_v20 (hj z)⟩
    · have := ok.2 p (by omega)
      unfold cd_Op cd_Wr cd_Rf cd_Cp at this ⊢
      rw [eo p (by omega), ev p (by omega), ea p (by omega), eb p (by omega)]
      exact this
  have hW0 : ∀ p, p < n → wt p = se_S (cd_Wt (upd o n x1) (upd v n x2) p) := by
    intro p hp
    unfold cd_Wt cd_Wr
    rw [eo p hp, ev p hp]; exact hW p hp
  have hRd0 : ∀ p, p < n → rd p = se_S (cd_Rd (upd o n x1) (upd a n x3) (upd b n x4) p) := by
    intro p hp
    unfold cd_Rd cd_Rf cd_Cp
    rw [eo p hp, ea p hp, eb p hp]; exact hRd p hp
  have hC0 : ∀ p, p < n → cm p = se_S (cd_Cm (upd o n x1) (upd a n x3) (upd b n x4) p) := by
    intro p hp
    rw [hC p hp]
    exact se_ext (fun i _ => (cd_Cmc (fun q hq => ⟨eo q (by omega), ea q (by omega), eb q (by omega)⟩) i).symm)
  have i20 : vp_in (nI n) 20 := ix_in hlt
  unfold wX_emit_85
  rw [ix_cl hlt]
  refine br_t (nI_lt (b := 20) hlt (by omega)) ⟨i20, nm_e ⟨i20, nm_e ⟨i20, nm_e ?_⟩⟩⟩
  have H171 : ∀ (z0 : Int32) (wt' : Nat → Int32), (∀ p, p < n + 1 → wt' p = se_S (cd_Wt (upd o n x1) (upd v n x2) p)) → z0 = se_S (fun i => cd_Rf (upd o n x1) n ∧ x3 = nI i) → wX_emit_171 post x1 x4 (nI n) z0 (nI n) (nI n) rc (upd o n x1) (upd a n x3) (upd b n x4) wt' rd cm nx bh sd kp mk tg fa nt := by
    intro z0 wt' hW' hz
    unfold wX_emit_171
    refine fx_computes (fun hc => br_f (by decide) ?_) (fun hc => br_t rfl ?_)
    · refine fx_e187 ok' hW' hRd0 hC0 ?_ fo.symm h
      obtain ⟨t, ht, et⟩ := ix_v5 (hb hc)
      rw [hz, et, se_shl (by omega), se_or]
      refine se_ext (fun i hi => ?_)
      unfold cd_Rd cd_Cp
      rw [fo, fa', pk_us]
      refine or_congr Iff.rfl ⟨fun z => ⟨hc, by rw [z]⟩, fun z => ?_⟩
      have := (nI_eq (by omega) (by omega)).mp z.2
      omega
    · refine fx_e187 ok' hW' hRd0 hC0 ?_ fo.symm h
      rw [hz, se_or0]
      refine se_ext (fun i hi => ?_)
      unfold cd_Rd cd_Cp
      rw [fo, fa']
      exact ⟨Or.inl, fun z => z.elim id (fun w => absurd w.1 hc)⟩
  have H149 : ∀ z0 : Int32, z0 = se_S (cd_Wt (upd o n x1) (upd v n x2) n) → wX_emit_149 post x1 x3 x4 (nI n) z0 (nI n) (nI n) rc (upd o n x1) (upd a n x3) (upd b n x4) wt rd cm nx bh sd kp mk tg fa nt := by
    intro z0 hz
    unfold wX_emit_149
    rw [ix_cl hlt]
    refine ⟨i20, nm_e ?_⟩
    have hW' : ∀ p, p < n + 1 → upd wt n z0 p = se_S (cd_Wt (upd o n x1) (upd v n x2) p) := by
      intro p hp
      by_cases e : p = n
      · subst e; rw [pk_us]; exact hz
      · rw [pk_un e]; exact hW0 p (by omega)
    refine fx_hasA (fun hc => br_f (by decide) (H171 _ _ hW' ?_)) (fun hc => br_t rfl (H171 _ _ hW' ?_))
    · obtain ⟨t, ht, et⟩ := ix_v5 (ha hc)
      rw [et, se_shl (by omega)]
      refine se_ext (fun i hi => ?_)
      unfold cd_Rf
      rw [fo]
      refine ⟨fun z => ⟨hc, by rw [z]⟩, fun z => ?_⟩
      have := (nI_eq (by omega) (by omega)).mp z.2
      omega
    · refine (se_z.mpr (fun i _ z => ?_)).symm
      unfold cd_Rf at z
      rw [fo] at z
      exact hc z.1
  refine fx_hasV (fun hc => br_f (by decide) (H149 _ ?_)) (fun hc => br_t rfl (H149 _ ?_))
  · obtain ⟨t, ht, et⟩ := ix_v5 (hv hc)
    rw [et, se_shl (by omega)]
    refine se_ext (fun i hi => ?_)
    unfold cd_Wt cd_Wr
    rw [fo, pk_us]
    refine ⟨fun z => ⟨hc, by rw [z]⟩, fun z => ?_⟩
    have := (nI_eq (by omega) (by omega)).mp z.2
    omega
  · refine (se_z.mpr (fun i _ z => ?_)).symm
    unfold cd_Wt cd_Wr at z
    rw [fo] at z
    exact z.1 hc
theorem fx_emit {post : Int32 → SX → Prop} {x1 x2 x3 x4 : Int32} (h1 : rl_V x1 x2 x3 x4 → wX_emit_85 post x1 x2 x3 x4 (nI n) rc o a b wt rd cm nx bh sd kp mk tg fa nt) (h0 : ¬ rl_V x1 x2 x3 x4 → post (-1) ((nI n), rc, o, a, b, wt, rd, cm, nx, bh, sd, kp, mk, tg, fa, nt)) : wpX_emit post ((nI n), rc, o, a, b, wt, rd, cm, nx, bh, sd, kp, mk, tg, fa, nt) x1 x2 x3 x4 := by
  unfold wpX_emit
  dsimp only
  refine br_c (fun g => h0 (fun z => z.1.1 g)) (fun g => br_c (fun g6 => ?_) (fun g6 => h0 (fun z => g6 z.1.2)))
  have H63 : (¬ 3 < x1 → ¬ x2 < 0 ∧ ¬ 5 < x2) → ((¬ x1 = 0 ∧ ¬ x1 = 5) → ¬ x3 < 0 ∧ ¬ 5 < x3) → ((x1 = 2 ∨ x1 = 3) → ¬ x4 < 0 ∧ ¬ 5 < x4) → wX_emit_63 post x1 x2 x3 x4 (nI n) rc o a b wt rd cm nx bh sd kp mk tg fa nt := by
    intro q1 q2 q3
    unfold wX_emit_63
    refine fx_jumps (fun hj => br_f (by decide) (br_c (fun y => h0 (fun z => (z.2.2.2.2 hj).1 y)) (fun y => br_c (fun w => h1 ⟨⟨g, g6⟩, q1, q2, q3, fun _ => ⟨y, ix_2021.mp w⟩⟩) (fun w => h0 (fun z => w (ix_2021.mpr (z.2.2.2.2 hj).2)))))) (fun hj => br_t rfl (h1 ⟨⟨g, g6⟩, q1, q2, q3, fun z => absurd z hj⟩))
  have H46 : (¬ 3 < x1 → ¬ x2 < 0 ∧ ¬ 5 < x2) → ((¬ x1 = 0 ∧ ¬ x1 = 5) → ¬ x3 < 0 ∧ ¬ 5 < x3) → wX_emit_46 post x1 x2 x3 x4 (nI n) rc o a b wt rd cm nx bh sd kp mk tg fa nt := by
    intro q1 q2
    unfold wX_emit_46
    refine fx_computes (fun hc => br_f (by decide) (fx_isVariable (fun y w => br_f (by decide) (H63 q1 q2 (fun _ => ⟨y, ix_56.mp w⟩))) (fun y => br_t rfl (h0 (fun z => y ⟨(z.2.2.2.1 hc).1, ix_56.mpr (z.2.2.2.1 hc).2⟩))))) (fun hc => br_t rfl (H63 q1 q2 (fun z => absurd z hc)))
  have H28 : (¬ 3 < x1 → ¬ x2 < 0 ∧ ¬ 5 < x2) → wX_emit_28 post x1 x2 x3 x4 (nI n) rc o a b wt rd cm nx bh sd kp mk tg fa nt := by
    intro q1
    unfold wX_emit_28
    refine fx_hasA (fun hc => br_f (by decide) (fx_isVariable (fun y w => br_f (by decide) (H46 q1 (fun _ => ⟨y, ix_56.mp w⟩))) (fun y => br_t rfl (h0 (fun z => y ⟨(z.2.2.1 hc).1, ix_56.mpr (z.2.2.1 hc).2⟩))))) (fun hc => br_t rfl (H46 q1 (fun z => absurd z hc)))
  refine fx_hasV (fun hc => br_f (by decide) (fx_isVariable (fun y w => br_f (by decide) (H28 (fun _ => ⟨y, ix_56.mp w⟩))) (fun y => br_t rfl (h0 (fun z => y ⟨(z.2.1 hc).1, ix_56.mpr (z.2.1 hc).2⟩))))) (fun hc => br_t rfl (H28 (fun z => absurd hc z)))
theorem fy_emit {post : Int32 → SY → Prop} {x1 x2 x3 x4 : Int32} (h1 : rl_V x1 x2 x3 x4 → wY_emit_83 post x1 x2 x3 x4 1 (nI n) o v a b) (h0 : ¬ rl_V x1 x2 x3 x4 → post (-1) ((nI n), o, v, a, b)) : wpY_emit post ((nI n), o, v, a, b) x1 x2 x3 x4 := by
  unfold wpY_emit
  dsimp only
  refine br_c (fun g => h0 (fun z => z.1.1 g)) (fun g => br_c (fun g6 => ?_) (fun g6 => h0 (fun z => g6 z.1.2)))
  obtain ⟨j, hj, ej⟩ := ix_07 g g6
  have hj5 : ¬ x1 < 5 ↔ (x1 = 5 ∨ x1 = 6) := by rw [ej]; exact ix_j j (by omega)
  have H82 : ¬ rl_V x1 x2 x3 x4 → wY_emit_82 post x1 x2 x3 x4 (nI n) o v a b := fun z => br_t rfl (h0 z)
  have H61 : (¬ 3 < x1 → ¬ x2 < 0 ∧ ¬ 5 < x2) → ((¬ x1 = 0 ∧ ¬ x1 = 5) → ¬ x3 < 0 ∧ ¬ 5 < x3) → ((x1 = 2 ∨ x1 = 3) → ¬ x4 < 0 ∧ ¬ 5 < x4) → wY_emit_61 post x1 x2 x3 x4 (nI n) o v a b := by
    intro q1 q2 q3
    unfold wY_emit_61
    refine br_c (fun y => h1 ⟨⟨g, g6⟩, q1, q2, q3, fun z => absurd y (hj5.mpr z)⟩) (fun y => br_c (fun w => H82 (fun z => (z.2.2.2.2 (hj5.mp y)).1 w)) (fun w => br_c (fun w2 => H82 (fun z => (z.2.2.2.2 (hj5.mp y)).2 w2)) (fun w2 => h1 ⟨⟨g, g6⟩, q1, q2, q3, fun _ => ⟨w, w2⟩⟩)))
  have H44 : (¬ 3 < x1 → ¬ x2 < 0 ∧ ¬ 5 < x2) → ((¬ x1 = 0 ∧ ¬ x1 = 5) → ¬ x3 < 0 ∧ ¬ 5 < x3) → wY_emit_44 post x1 x2 x3 x4 (nI n) o v a b := by
    intro q1 q2
    unfold wY_emit_44
    refine fy_computes (fun hc => br_f (by decide) (fy_variable (fun y w => br_f (by decide) (H61 q1 q2 (fun _ => ⟨y, w⟩))) (fun y => br_t rfl (H82 (fun z => y (z.2.2.2.1 hc)))))) (fun hc => br_t rfl (H61 q1 q2 (fun z => absurd z hc)))
  have H28 : (¬ 3 < x1 → ¬ x2 < 0 ∧ ¬ 5 < x2) → wY_emit_28 post x1 x2 x3 x4 (nI n) o v a b := by
    intro q1
    unfold wY_emit_28
    refine fy_readsFirst g g6 (fun hc => br_f (by decide) (fy_variable (fun y w => br_f (by decide) (H44 q1 (fun _ => ⟨y, w⟩))) (fun y => br_t rfl (H82 (fun z => y (z.2.2.1 hc)))))) (fun hc => br_t rfl (H44 q1 (fun z => absurd z hc)))
  refine fy_writes (fun hc => br_f (by decide) (fy_variable (fun y w => br_f (by decide) (H28 (fun _ => ⟨y, w⟩))) (fun y => br_t rfl (H82 (fun z => y (z.2.1 hc)))))) (fun hc => br_t rfl (H28 (fun z => absurd hc z)))
end
end
section
/-! a question, as the component poses it -/
theorem se_m32 {P Q : Nat → Prop} : (se_S P &&& se_S Q) = 0 ↔ ¬ ∃ i, i < 32 ∧ P i ∧ Q i := by
  rw [se_and, se_z]
  exact ⟨fun z w => w.elim (fun i hi => z i hi.1 hi.2), fun z i h hi => z ⟨i, h, hi⟩⟩
def qs_Sp (n : Nat) (o v a b : Nat → Int32) (p e : Nat) : Prop := ∃ q, q < n ∧ (∃ i, i < 32 ∧ cd_Rd o a b q i ∧ cd_Wt o v p i) ∧ cd_Cm o a b q e
def qs_Nms (n : Nat) (o a b : Nat → Int32) (e : Nat) : Prop := ∃ p, p < n ∧ cd_Cm o a b p e
def qs_K (n : Nat) (o v a b : Nat → Int32) : Nat → Nat → Nat → Prop
  | 0 => fun p f => ¬ (f < n ∧ ∃ i, i < 32 ∧ cd_Wt o v f i ∧ cd_Wt o v p i)
  | 1 => fun p f => ¬ cd_Wt o v p f
  | 2 => fun p f => ¬ cd_Cm o a b p f
  | 3 => fun p f => ¬ cd_Cm o a b p f
  | _ => fun p f => ¬ cd_Wt o v p f
def qs_M (n : Nat) (o v a b : Nat → Int32) : Nat → Nat → Nat → Prop
  | 0 => fun p f => (∃ i, i < 32 ∧ cd_Wt o v p i) ∧ f = p
  | 1 => fun p f => cd_Rd o a b p f
  | 2 => fun p f => qs_Sp n o v a b p f
  | 3 => fun p f => qs_Sp n o v a b p f ∧ ¬ cd_Cm o a b p f
  | _ => fun _ _ => False
def qs_O (n : Nat) (o a b : Nat → Int32) : Nat → Nat → Prop
  | 0 => fun _ => False
  | 1 => fun _ => False
  | 2 => fun f => qs_Nms n o a b f
  | 3 => fun f => qs_Nms n o a b f
  | _ => fun f => f < 6
def qs_bk (Q : Nat) : Prop := Q = 0 ∨ Q = 2 ∨ Q = 4
def qs_S (n : Nat) (o a b : Nat → Int32) (Q p f : Nat) : Prop := (qs_bk Q → p = 0) ∧ (¬ qs_bk Q → cd_G n o b p 20) ∧ qs_O n o a b Q f
def qs_T (n : Nat) (o b : Nat → Int32) (Q p q : Nat) : Prop := (qs_bk Q → fl_R n o b p ∧ cd_G n o b p q ∧ fl_R n o b q) ∧ (¬ qs_bk Q → q < n ∧ cd_G n o b q p)
section
variable {n : Nat} {rc : Int32} {o v a b wt rd cm nx bh sd kp mk tg fa nt : Nat → Int32}
theorem fx_names {post : Int32 → Prop} (hn : n ≤ 20) (hC : ∀ p, p < n → cm p = se_S (cd_Cm o a b p)) (h : post (se_S (qs_Nms n o a b))) : wpX_names post ((nI n), rc, o, a, b, wt, rd, cm, nx, bh, sd, kp, mk, tg, fa, nt) := by
  unfold wpX_names
  dsimp only
  refine gl_col0 (fun f y z => wX_names_4 post (nI n) rc o a b wt rd cm nx bh sd kp mk tg fa nt f y z) n (fun p => cd_Cm o a b p) post ?_ ?_ h
  · intro f x h
    exact br_t (nI_le (Nat.le_refl _) (by omega)) h
  · intro f k y hk hh
    refine br_f (nI_ge hk (by omega)) ⟨ix_in (by omega), ?_⟩
    rw [ix_cl (by omega : k < 20)]
    exact fun z ez => gl_i (hh z (by rw [ez, hC k hk]))
theorem fx_writersOf {post : Int32 → Prop} (hn : n ≤ 20) (hW : ∀ p, p < n → wt p = se_S (cd_Wt o v p)) {x : Int32} {V : Nat → Prop} (hx : x = se_S V) (h : post (se_S (fun p => p < n ∧ ∃ i, i < 32 ∧ cd_Wt o v p i ∧ V i))) : wpX_writersOf post ((nI n), rc, o, a, b, wt, rd, cm, nx, bh, sd, kp, mk, tg, fa, nt) x := by
  unfold wpX_writersOf
  dsimp only
  refine gl_pick (fun f y z => wX_writersOf_4 post x (nI n) rc o a b wt rd cm nx bh sd kp mk tg fa nt f y z) n (fun p => ∃ i, i < 32 ∧ cd_Wt o v p i ∧ V i) post (by omega) ?_ ?_ h
  · intro f x h
    exact br_t (nI_le (Nat.le_refl _) (by omega)) h
  · intro f k y hk h0 h1
    refine br_f (nI_ge hk (by omega)) ⟨ix_in (by omega), ?_⟩
    rw [ix_cl (by omega : k < 20), hW k hk, hx]
    exact br_c (fun z => gl_i (by rw [← hx]; exact h0 (se_m32.mp z))) (fun z => nm_e (gl_i (by rw [← hx]; exact h1 (Classical.byContradiction fun w => z (se_m32.mpr w)))))
theorem fx_spoiledBy {post : Int32 → Prop} (hn : n ≤ 20) (hW : ∀ p, p < n → wt p = se_S (cd_Wt o v p)) (hRd : ∀ p, p < n → rd p = se_S (cd_Rd o a b p)) (hC : ∀ p, p < n → cm p = se_S (cd_Cm o a b p)) {p : Nat} (hp : p < n) (h : post (se_S (qs_Sp n o v a b p))) : wpX_spoiledBy post ((nI n), rc, o, a, b, wt, rd, cm, nx, bh, sd, kp, mk, tg, fa, nt) (nI p) := by
  unfold wpX_spoiledBy
  dsimp only
  refine gl_un (fun f y z => wX_spoiledBy_4 post (nI p) (nI n) rc o a b wt rd cm nx bh sd kp mk tg fa nt f y z) n (fun q => ∃ i, i < 32 ∧ cd_Rd o a b q i ∧ cd_Wt o v p i) (fun q => cd_Cm o a b q) post ?_ ?_ h
  · intro f x h
    exact br_t (nI_le (Nat.le_refl _) (by omega)) h
  · intro f k y hk h0 h1
    refine br_f (nI_ge hk (by omega)) ⟨ix_in (by omega), ix_in (by omega), ?_⟩
    rw [ix_cl (by omega : k < 20), ix_cl (by omega : p < 20), hW p hp, hRd k hk]
    exact br_c (fun z => gl_i (h0 (se_m32.mp z))) (fun z => ⟨ix_in (by omega), fun y ey => gl_i (h1 (Classical.byContradiction fun w => z (se_m32.mpr w)) y (by rw [ey, hC k hk]))⟩)
theorem fx_poseStep {post : SX → Prop} (hn : n ≤ 20) (hW : ∀ p, p < n → wt p = se_S (cd_Wt o v p)) (hRd : ∀ p, p < n → rd p = se_S (cd_Rd o a b p)) (hC : ∀ p, p < n → cm p = se_S (cd_Cm o a b p)) {Q p : Nat} (hQ : Q < 5) (hp : p < n) (h : post ((nI n), rc, o, a, b, wt, rd, cm, nx, bh, sd, upd kp p (se_S (qs_K n o v a b Q p)), upd mk p (se_S (qs_M n o v a b Q p)), tg, fa, nt)) : wpX_poseStep post ((nI n), rc, o, a, b, wt, rd, cm, nx, bh, sd, kp, mk, tg, fa, nt) (nI Q) (nI p) := by
  have hi : vp_in (nI p) 20 := ix_in (by omega)
  unfold wpX_poseStep
  dsimp only
  rw [ix_cl (by omega : p < 20), hW p hp, hRd p hp, hC p hp]
  have hcase : Q = 0 ∨ Q = 1 ∨ Q = 2 ∨ Q = 3 ∨ Q = 4 := by omega
  rcases hcase with e | e | e | e | e <;> subst e
  · refine br_t (by decide) ⟨hi, fx_writersOf hn hW rfl ⟨hi, nm_r (congrArg _ (se_not _)) ⟨hi, br_c (fun z => ⟨hi, nm_e ?_⟩) (fun z => ⟨hi, nm_e ?_⟩)⟩⟩⟩
    · have e : (0 : Int32) = se_S (qs_M n o v a b 0 p) := (se_z.mpr (fun i _ w => w.1.elim (fun j hj => se_z.mp z j hj.1 hj.2))).symm
      rw [e]; exact h
    · have e : ((1 : Int32) <<< (nI p &&& 31)) = se_S (qs_M n o v a b 0 p) := by
        rw [se_shl (by omega)]
        exact se_ext (fun i _ => ⟨fun w => ⟨se_nz.mp z, w⟩, fun w => w.2⟩)
      rw [e]; exact h
  · refine br_f (by decide) (br_t (by decide) ⟨hi, hi, nm_r (congrArg _ (se_not _)) ⟨hi, hi, nm_e h⟩⟩)
  · refine br_f (by decide) (br_f (by decide) (br_t (by decide) ⟨hi, hi, nm_r (congrArg _ (se_not _)) (fx_spoiledBy hn hW hRd hC hp ⟨hi, nm_e h⟩)⟩))
  · refine br_f (by decide) (br_f (by decide) (br_f (by decide) (br_t (by decide) ⟨hi, hi, nm_r (congrArg _ (se_not _)) (fx_spoiledBy hn hW hRd hC hp ⟨hi, hi, nm_r (congrArg _ (by rw [se_not, se_and]; rfl)) h⟩)⟩)))
  · refine br_f (by decide) (br_f (by decide) (br_f (by decide) (br_f (by decide) ⟨hi, hi, nm_r (congrArg _ (se_not _)) ⟨hi, nm_r ?_ h⟩⟩)))
    exact congrArg _ se_0
theorem qs_bkI : ∀ Q, Q < 5 → ((nI Q = 0 ∨ nI Q = 2 ∨ nI Q = 4) ↔ (Q = 0 ∨ Q = 2 ∨ Q = 4)) := by decide +kernel
theorem qs_afI : ∀ Q, Q < 5 → ((nI Q = 2 ∨ nI Q = 3) ↔ (Q = 2 ∨ Q = 3)) := by decide +kernel
theorem fx_pose27 {post : SX → Prop} (rel : rl_X n rc o v a b wt rd cm nx bh) {Q : Nat} (hQ : Q < 5)
    (h : ∀ sd' kp' mk' tg', (∀ p, p < n → sd' p = se_S (qs_S n o a b Q p)) → (∀ p, p < n → kp' p = se_S (qs_K n o v a b Q p)) → (∀ p, p < n → mk' p = se_S (qs_M n o v a b Q p)) → (∀ p, p < n → tg' p = se_S (qs_T n o b Q p)) → post ((nI n), rc, o, a, b, wt, rd, cm, nx, bh, sd', kp', mk', tg', fa, nt)) : ∃ f, wX_pose_27 post (nI Q) (se_S (qs_O n o a b Q)) f 0 (nI n) rc o a b wt rd cm nx bh sd kp mk tg fa nt := by
  obtain ⟨ok, hR, hW, hRd, hC, hN, hB⟩ := rel
  have hn := ok.1
  have key : ∀ d k sd' kp' mk' tg', k + d = n → (∀ p, p < k → sd' p = se_S (qs_S n o a b Q p)) → (∀ p, p < k → kp' p = se_S (qs_K n o v a b Q p)) → (∀ p, p < k → mk' p = se_S (qs_M n o v a b Q p)) → (∀ p, p < k → tg' p = se_S (qs_T n o b Q p)) → wX_pose_27 post (nI Q) (se_S (qs_O n o a b Q)) (d + 1) (nI k) (nI n) rc o a b wt rd cm nx bh sd' kp' mk' tg' fa nt := by
    intro d
    induction d with
    | zero =>
      intro k sd' kp' mk' tg' hk h1 h2 h3 h4
      have e : k = n := by omega
      subst e
      exact br_t (nI_le (Nat.le_refl _) (by omega)) (h _ _ _ _ h1 h2 h3 h4)
    | succ d ih =>
      intro k sd' kp' mk' tg' hk h1 h2 h3 h4
      have hkn : k < n := by omega
      have hi : vp_in (nI k) 20 := ix_in (by omega)
      have ec : (nI k).toNatClampNeg = k := ix_cl (by omega)
      have up : ∀ {g : Nat → Int32} {F : Nat → Nat → Prop}, (∀ p, p < k → g p = se_S (F p)) → ∀ p, p < k + 1 → upd g k (se_S (F k)) p = se_S (F p) := by
        intro g F hg p hp
        by_cases e : p = k
        · subst e; exact pk_us
        · rw [pk_un e]; exact hg p (by omega)
      have fin := fun sd'' (hsd : sd'' = upd sd' k (se_S (qs_S n o a b Q k))) tg'' (htg : tg'' = upd tg' k (se_S (qs_T n o b Q k))) => ih (k + 1) sd'' (upd kp' k (se_S (qs_K n o v a b Q k))) (upd mk' k (se_S (qs_M n o v a b Q k))) tg'' (by omega) (by rw [hsd]; exact up h1) (up h2) (up h3) (by rw [htg]; exact up h4)
      refine br_f (nI_ge hkn (by omega)) (fx_poseStep hn hW hRd hC hQ hkn ?_)
      dsimp only
      refine fx_looks (fun hb => br_f (by decide) ?_) (fun hb => br_t rfl ⟨hi, ?_⟩)
      · have hb' : qs_bk Q := (qs_bkI Q hQ).mp hb
        have H63 : ∀ z0 : Int32, z0 = se_S (qs_S n o a b Q k) → wX_pose_63 post (wX_pose_27 post (nI Q) (se_S (qs_O n o a b Q)) (d + 1)) (nI Q) (se_S (qs_O n o a b Q)) (nI k) z0 (nI k) (nI n) rc o a b wt rd cm nx bh sd' (upd kp' k (se_S (qs_K n o v a b Q k))) (upd mk' k (se_S (qs_M n o v a b Q k))) tg' fa nt := by
          intro z0 hz
          unfold wX_pose_63
          rw [ec, hz]
          refine ⟨hi, fun sd'' hsd => fx_has (by omega) hR (fun hr => br_f (by decide) ⟨hi, hi, fun tg'' htg => gl_i (fin sd'' hsd tg'' (htg.trans (congrArg _ ?_)))⟩) (fun hr => br_t rfl ⟨hi, fun tg'' htg => gl_i (fin sd'' hsd tg'' (htg.trans (congrArg _ ?_)))⟩)⟩
          · rw [hN k hkn, hR, se_and]
            exact se_ext (fun i _ => ⟨fun w => ⟨fun _ => ⟨hr, w.1, w.2⟩, fun nb => absurd hb' nb⟩, fun w => (w.1 hb').2⟩)
          · exact (se_z.mpr (fun i _ w => hr (w.1 hb').1)).symm
        refine br_c (fun e0 => H63 _ ?_) (fun e0 => H63 _ ?_)
        · have ek : k = 0 := (nI_eq (b := 0) (by omega) (by omega)).mp e0
          exact se_ext (fun i _ => ⟨fun w => ⟨fun _ => ek, fun nb => absurd hb' nb, w⟩, fun w => w.2.2⟩)
        · have ek : ¬ k = 0 := fun z => e0 (by rw [z]; exact nI_0)
          exact (se_z.mpr (fun i _ w => ek (w.1 hb'))).symm
      · have hb' : ¬ qs_bk Q := fun z => hb ((qs_bkI Q hQ).mpr z)
        have H125 : ∀ z0 : Int32, z0 = se_S (qs_S n o a b Q k) → wX_pose_125 post (wX_pose_27 post (nI Q) (se_S (qs_O n o a b Q)) (d + 1)) (nI Q) (se_S (qs_O n o a b Q)) (nI k) z0 (nI k) (nI n) rc o a b wt rd cm nx bh sd' (upd kp' k (se_S (qs_K n o v a b Q k))) (upd mk' k (se_S (qs_M n o v a b Q k))) tg' fa nt := by
          intro z0 hz
          unfold wX_pose_125
          rw [ec, hz]
          refine ⟨hi, fun sd'' hsd => fx_goingOnAt hn hN (by omega) ⟨hi, fun tg'' htg => gl_i (fin sd'' hsd tg'' (htg.trans (congrArg _ ?_)))⟩⟩
          exact se_ext (fun i _ => ⟨fun w => ⟨fun q => absurd q hb', fun _ => w⟩, fun w => w.2 hb'⟩)
        rw [ec]
        refine fx_has (p := 20) (by omega) (hN k hkn) (fun hg => br_f (by decide) (H125 _ ?_)) (fun hg => br_t rfl (H125 _ ?_))
        · exact se_ext (fun i _ => ⟨fun w => ⟨fun q => absurd q hb', fun _ => hg, w⟩, fun w => w.2.2⟩)
        · exact (se_z.mpr (fun i _ w => hg (w.2.1 hb'))).symm
  exact ⟨_, key n 0 sd kp mk tg (by omega) (fun p hp => by omega) (fun p hp => by omega) (fun p hp => by omega) (fun p hp => by omega)⟩
theorem fx_pose {post : SX → Prop} (rel : rl_X n rc o v a b wt rd cm nx bh) {Q : Nat} (hQ : Q < 5)
    (h : ∀ sd' kp' mk' tg', (∀ p, p < n → sd' p = se_S (qs_S n o a b Q p)) → (∀ p, p < n → kp' p = se_S (qs_K n o v a b Q p)) → (∀ p, p < n → mk' p = se_S (qs_M n o v a b Q p)) → (∀ p, p < n → tg' p = se_S (qs_T n o b Q p)) → post ((nI n), rc, o, a, b, wt, rd, cm, nx, bh, sd', kp', mk', tg', fa, nt)) : wpX_pose post ((nI n), rc, o, a, b, wt, rd, cm, nx, bh, sd, kp, mk, tg, fa, nt) (nI Q) := by
  have hh := fx_pose27 (sd := sd) (kp := kp) (mk := mk) (tg := tg) (fa := fa) (nt := nt) rel hQ h
  have hn := rel.1.1
  have hC := rel.2.2.2.2.1
  have hcase : Q = 0 ∨ Q = 1 ∨ Q = 2 ∨ Q = 3 ∨ Q = 4 := by omega
  have e0 : se_S (qs_O n o a b 0) = 0 := se_z.mpr (fun i _ z => z)
  have e1 : se_S (qs_O n o a b 1) = 0 := se_z.mpr (fun i _ z => z)
  have e4 : se_S (qs_O n o a b 4) = 63 := se_63.symm
  unfold wpX_pose
  dsimp only
  rcases hcase with e | e | e | e | e <;> subst e
  · rw [e0] at hh
    refine br_f (by decide) (fx_asks (fun z => absurd z (by decide)) (fun _ => br_t rfl hh))
  · rw [e1] at hh
    refine br_f (by decide) (fx_asks (fun z => absurd z (by decide)) (fun _ => br_t rfl hh))
  · refine br_f (by decide) (fx_asks (fun _ => br_f (by decide) (fx_names hn hC hh)) (fun z => absurd (by decide) z))
  · refine br_f (by decide) (fx_asks (fun _ => br_f (by decide) (fx_names hn hC hh)) (fun z => absurd (by decide) z))
  · rw [e4] at hh
    refine br_t (by decide) (fx_asks (fun z => absurd z (by decide)) (fun _ => br_t rfl hh))
end
end
section
/-! the three engines: each finds, at each position, the facts f of which the position lies in the least set en_L f -/
theorem se_Nor {P Q : Nat → Prop} : ∀ k, se_N (fun i => P i ∨ Q i) k ≤ se_N P k + se_N Q k := by
  intro k
  induction k with
  | zero => exact Nat.le_refl _
  | succ k ih =>
    rw [se_N, se_N, se_N]
    by_cases hp : P k
    · rw [if_pos hp, if_pos (Or.inl hp)]; omega
    · by_cases hq : Q k
      · rw [if_neg hp, if_pos hq, if_pos (Or.inr hq)]; omega
      · rw [if_neg hp, if_neg hq, if_neg (fun z => z.elim hp hq)]; omega
theorem se_Nsg (c : Nat) : ∀ k, se_N (fun i => i = c) k ≤ (if c < k then 1 else 0) := by
  intro k
  induction k with
  | zero => exact Nat.zero_le _
  | succ k ih =>
    rw [se_N]
    by_cases e : k = c
    · subst e
      rw [if_neg (by omega)] at ih
      rw [if_pos rfl, if_pos (by omega)]
      omega
    · rw [if_neg e]
      by_cases h : c < k
      · rw [if_pos h] at ih
        rw [if_pos (by omega)]
        omega
      · rw [if_neg h] at ih
        omega
theorem se_Nins {P : Nat → Prop} {c k : Nat} : se_N (fun i => P i ∨ i = c) k ≤ se_N P k + 1 := by
  have h1 := se_Nor (P := P) (Q := fun i => i = c) k
  have h2 := se_Nsg c k
  split at h2 <;> omega
def en_E (n : Nat) (K T : Nat → Nat → Prop) (f r q : Nat) : Prop := r < n ∧ T r q ∧ K r f
def en_A (n : Nat) (S M T : Nat → Nat → Prop) (f q : Nat) : Prop := (q < n ∧ S q f) ∨ ∃ r, r < n ∧ T r q ∧ M r f
def en_L (n : Nat) (S K M T : Nat → Nat → Prop) (f q : Nat) : Prop := lf_L (en_E n K T f) (en_A n S M T f) q
def en_H (n : Nat) (sd kp mk tg : Nat → Int32) (S K M T : Nat → Nat → Prop) : Prop := n ≤ 20 ∧ (∀ p, p < n → sd p = se_S (S p)) ∧ (∀ p, p < n → kp p = se_S (K p)) ∧ (∀ p, p < n → mk p = se_S (M p)) ∧ (∀ p, p < n → tg p = se_S (T p)) ∧ (∀ p f, p < n → f < 32 → S p f → f < 20) ∧ (∀ p f, p < n → f < 32 → M p f → f < 20) ∧ (∀ p q, p < n → T p q → q < n)
def en_F (fa : Nat → Int32) (p f : Nat) : Prop := f < 32 ∧ bt (fa p) f = true
def en_P (K M : Nat → Nat → Prop) (fa : Nat → Int32) (p f : Nat) : Prop := (en_F fa p f ∧ K p f) ∨ M p f
def en_I (n : Nat) (S K M T : Nat → Nat → Prop) (fa : Nat → Int32) : Prop := (∀ p f, p < n → f < 32 → S p f → en_F fa p f) ∧ (∀ p f, p < n → en_F fa p f → en_L n S K M T f p)
noncomputable def en_N (fa : Nat → Int32) : Nat := se_N (fun j => en_F fa (j / 20) (j % 20)) 400
theorem en_Fe {fa : Nat → Int32} (p : Nat) : fa p = se_S (en_F fa p) := se_of (fun _ hi => ⟨fun z => ⟨hi, z⟩, fun z => z.2⟩)
theorem en_Fs {fa : Nat → Int32} {p f : Nat} {P : Nat → Prop} (h : fa p = se_S P) : en_F fa p f ↔ f < 32 ∧ P f := by
  unfold en_F
  rw [h]
  exact ⟨fun z => ⟨z.1, (se_b z.1).mp z.2⟩, fun z => ⟨z.1, (se_b z.1).mpr z.2⟩⟩
theorem en_Fus {fa : Nat → Int32} {k f : Nat} {P : Nat → Prop} : en_F (upd fa k (se_S P)) k f ↔ f < 32 ∧ P f := en_Fs pk_us
theorem en_Fun {fa : Nat → Int32} {k p f : Nat} {x : Int32} (h : p ≠ k) : en_F (upd fa k x) p f ↔ en_F fa p f := by
  unfold en_F; rw [pk_un h]
theorem en_grow {fa : Nat → Int32} {k : Nat} {P : Nat → Prop} (hk : k < 20) (hs : ∀ f, en_F fa k f → P f) (hn : ∃ f, f < 20 ∧ P f ∧ ¬ en_F fa k f) : en_N fa + 1 ≤ en_N (upd fa k (se_S P)) := by
  refine se_Nlt 400 (fun j hj z => ?_) ?_
  · by_cases e : j / 20 = k
    · rw [e] at z ⊢
      exact en_Fus.mpr ⟨z.1, hs _ z⟩
    · exact (en_Fun e).mpr z
  · obtain ⟨f, hf, h1, h2⟩ := hn
    have e1 : (20 * k + f) / 20 = k := by omega
    have e2 : (20 * k + f) % 20 = f := by omega
    refine ⟨20 * k + f, by omega, ?_, ?_⟩
    · rw [e1, e2]; exact en_Fus.mpr ⟨by omega, h1⟩
    · rw [e1, e2]; exact h2
section
variable {n : Nat} {rc : Int32} {o v a b wt rd cm nx bh sd kp mk tg fa nt : Nat → Int32} {S K M T : Nat → Nat → Prop}
theorem en_b (H : en_H n sd kp mk tg S K M T) {f q : Nat} (hf : f < 32) (h : en_L n S K M T f q) : f < 20 := by
  obtain ⟨hn, _, _, _, _, hS, hM, hT⟩ := H
  exact h (fun _ => f < 20) (fun a z => z.elim (fun w => hS a f w.1 hf w.2) (fun ⟨r, h1, h2, h3⟩ => hM r f h1 hf h3)) (fun _ _ z _ => z)
theorem en_Pl (hI : en_I n S K M T fa) {f r q : Nat} (hr : r < n) (hT : T r q) (h : en_P K M fa r f) : en_L n S K M T f q := by
  rcases h with h | h
  · exact lf_s (hI.2 r f hr h.1) ⟨hr, hT, h.2⟩
  · exact lf_i (Or.inr ⟨r, hr, hT, h⟩)
theorem en_fin (H : en_H n sd kp mk tg S K M T) (hI : en_I n S K M T fa) (hc : ∀ f r q, r < n → q < n → T r q → f < 32 → en_P K M fa r f → en_F fa q f) : ∀ p, p < n → fa p = se_S (fun f => en_L n S K M T f p) := by
  obtain ⟨hn, _, _, _, _, hS, hM, hT⟩ := H
  intro p hp
  rw [en_Fe (fa := fa) p]
  refine se_ext (fun f hf => ⟨fun z => hI.2 p f hp z, fun z => ?_⟩)
  refine (z (fun q => q < n ∧ en_F fa q f) (fun q w => ?_) (fun x y w e => ?_)).2
  · rcases w with w | ⟨r, h1, h2, h3⟩
    · exact ⟨w.1, hI.1 q f w.1 hf w.2⟩
    · have hq := hT r q h1 h2
      exact ⟨hq, hc f r q h1 hq h2 hf (Or.inr h3)⟩
  · have hy := hT x y e.1 e.2.1
    exact ⟨hy, hc f x y e.1 hy e.2.1 hf (Or.inl ⟨w.2, e.2.2⟩)⟩
theorem fx_passedOn {post : Int32 → Prop} (H : en_H n sd kp mk tg S K M T) {p : Nat} (hp : p < n) (h : post (se_S (en_P K M fa p))) : wpX_passedOn post ((nI n), rc, o, a, b, wt, rd, cm, nx, bh, sd, kp, mk, tg, fa, nt) (nI p) := by
  obtain ⟨hn, _, hK, hM, _⟩ := H
  have hi : vp_in (nI p) 20 := ix_in (by omega)
  unfold wpX_passedOn
  dsimp only
  rw [ix_cl (by omega : p < 20), hK p hp, hM p hp, en_Fe (fa := fa) p, se_and, se_or]
  exact ⟨hi, hi, hi, h⟩
theorem fx_gatheredAt {post : Int32 → Prop} (H : en_H n sd kp mk tg S K M T) {q : Nat} (hq : q < n) (h : post (se_S (fun f => ∃ r, r < n ∧ T r q ∧ en_P K M fa r f))) : wpX_gatheredAt post ((nI n), rc, o, a, b, wt, rd, cm, nx, bh, sd, kp, mk, tg, fa, nt) (nI q) := by
  have hn := H.1
  have hT := H.2.2.2.2.1
  unfold wpX_gatheredAt
  dsimp only
  refine gl_un (fun f y z => wX_gatheredAt_4 post (nI q) (nI n) rc o a b wt rd cm nx bh sd kp mk tg fa nt f y z) n (fun r => T r q) (fun r => en_P K M fa r) post ?_ ?_ h
  · intro f x h
    exact br_t (nI_le (Nat.le_refl _) (by omega)) h
  · intro f k y hk h0 h1
    refine br_f (nI_ge hk (by omega)) ⟨ix_in (by omega), ?_⟩
    rw [ix_cl (by omega : k < 20)]
    exact fx_has (by omega) (hT k hk) (fun hc => br_f (by decide) (fx_passedOn H hk (fun y ey => gl_i (h1 hc y ey)))) (fun hc => br_t rfl (gl_i (h0 hc)))
theorem fx_sweep {post : SX → Prop} (H : en_H n sd kp mk tg S K M T) (hI : en_I n S K M T fa) (h : ∀ fa', (∀ p, p < n → fa' p = se_S (fun f => en_L n S K M T f p)) → post ((nI n), rc, o, a, b, wt, rd, cm, nx, bh, sd, kp, mk, tg, fa', nt)) : wpX_sweep post ((nI n), rc, o, a, b, wt, rd, cm, nx, bh, sd, kp, mk, tg, fa, nt) := by
  have hn := H.1
  have key : ∀ d r fa, r + d = 420 → en_I n S K M T fa → r ≤ en_N fa → wX_sweep_2 post (nI n) rc (d + 1) (nI r) o a b wt rd cm nx bh sd kp mk tg fa nt := by
    intro d
    induction d with
    | zero =>
      intro r fa hr hI hc
      have := se_Nle (fun j => en_F fa (j / 20) (j % 20)) 400
      unfold en_N at hc
      omega
    | succ d ih =>
      intro r fa hr hI hc
      refine br_f (nI_ge (b := 420) (by omega) (by omega)) ?_
      have inner : ∀ dd k fa' x2, k + dd = n → en_I n S K M T fa' → ((x2 = 0 ∧ fa' = fa ∧ ∀ q f, q < k → f < 32 → (∃ r, r < n ∧ T r q ∧ en_P K M fa r f) → en_F fa q f) ∨ (x2 = 1 ∧ en_N fa + 1 ≤ en_N fa')) → wX_sweep_13 post (wX_sweep_2 post (nI n) rc (d + 1)) (nI r) (nI n) rc (dd + 1) x2 (nI k) o a b wt rd cm nx bh sd kp mk tg fa' nt := by
        intro dd
        induction dd with
        | zero =>
          intro k fa' x2 hk hI' hx
          have e : k = n := by omega
          subst e
          refine br_t (nI_le (Nat.le_refl _) (by omega)) ?_
          rcases hx with ⟨e2, e3, hc2⟩ | ⟨e2, hc2⟩
          · subst e2 e3
            exact br_t rfl (h fa' (en_fin H hI (fun f r q hr hq hT hf hP => hc2 q f hq hf ⟨r, hr, hT, hP⟩)))
          · subst e2
            exact br_f (by decide) (gl_i (ih (r + 1) fa' (by omega) hI' (by omega)))
        | succ dd ih2 =>
          intro k fa' x2 hk hI' hx
          have hkn : k < n := by omega
          have hi : vp_in (nI k) 20 := ix_in (by omega)
          refine br_f (nI_ge hkn (by omega)) ⟨hi, fx_gatheredAt H hkn ?_⟩
          rw [ix_cl (by omega : k < 20)]
          refine nm_r (e' := se_S (fun f => en_F fa' k f ∨ ∃ r, r < n ∧ T r k ∧ en_P K M fa' r f)) (by rw [en_Fe (fa := fa') k, se_or]) ⟨hi, ?_⟩
          refine br_c (fun heq => gl_i (ih2 (k + 1) fa' x2 (by omega) hI' ?_)) (fun hne => ⟨hi, nm_e (gl_i (ih2 (k + 1) _ 1 (by omega) ?_ (Or.inr ⟨rfl, ?_⟩)))⟩)
          · rcases hx with ⟨e2, e3, hc2⟩ | hx
            · subst e3
              refine Or.inl ⟨e2, rfl, fun q f hq hf hp => ?_⟩
              by_cases e : q = k
              · subst e
                rw [en_Fe (fa := fa') q] at heq
                exact (se_inj heq hf).mp (Or.inr hp)
              · exact hc2 q f (by omega) hf hp
            · exact Or.inr hx
          · refine ⟨fun p f hp hf hs => ?_, fun p f hp z => ?_⟩
            · by_cases e : p = k
              · subst e
                exact en_Fus.mpr ⟨hf, Or.inl (hI'.1 p f hp hf hs)⟩
              · exact (en_Fun e).mpr (hI'.1 p f hp hf hs)
            · by_cases e : p = k
              · subst e
                rcases (en_Fus.mp z).2 with w | ⟨r, h1, h2, h3⟩
                · exact hI'.2 p f hp w
                · exact en_Pl hI' h1 h2 h3
              · exact hI'.2 p f hp ((en_Fun e).mp z)
          · have hnew : ∃ f, f < 20 ∧ (en_F fa' k f ∨ ∃ r, r < n ∧ T r k ∧ en_P K M fa' r f) ∧ ¬ en_F fa' k f := by
              refine Classical.byContradiction fun z => hne ?_
              rw [en_Fe (fa := fa') k]
              refine se_ext (fun f hf => ⟨fun w => Classical.byContradiction fun w2 => ?_, Or.inl⟩)
              rcases w with w | w
              · exact w2 w
              · obtain ⟨r, h1, h2, h3⟩ := w
                exact z ⟨f, en_b H hf (en_Pl hI' h1 h2 h3), Or.inr ⟨r, h1, h2, h3⟩, w2⟩
            have g := en_grow (fa := fa') (k := k) (P := fun f => en_F fa' k f ∨ ∃ r, r < n ∧ T r k ∧ en_P K M fa' r f) (by omega) (fun f z => Or.inl z) hnew
            rcases hx with ⟨_, e3, _⟩ | ⟨_, hc2⟩
            · rw [e3] at g ⊢; exact g
            · omega
      exact ⟨_, inner n 0 fa 0 (by omega) hI (Or.inl ⟨rfl, rfl, fun q f hq => by omega⟩)⟩
  exact ⟨_, key 420 0 fa (by omega) hI (Nat.zero_le _)⟩
theorem fx_leastOf {post : Int32 → Prop} {P : Nat → Prop} (hx : ∃ p, p < 20 ∧ P p) (h : ∀ p, p < 20 → P p → post (nI p)) : wpX_leastOf post ((nI n), rc, o, a, b, wt, rd, cm, nx, bh, sd, kp, mk, tg, fa, nt) (se_S P) := by
  have key : ∀ d k, k + d = 19 → (∀ j, j < k → ¬ P j) → wX_leastOf_2 post (se_S P) (nI n) rc o a b wt rd cm nx bh sd kp mk tg fa nt (d + 1) (nI k) := by
    intro d
    induction d with
    | zero =>
      intro k hk hu
      have e : k = 19 := by omega
      subst e
      refine br_t (nI_le (a := 19) (b := 19) (by omega) (by omega)) (h 19 (by omega) ?_)
      obtain ⟨p, hp, z⟩ := hx
      by_cases e : p = 19
      · subst e; exact z
      · exact absurd z (hu p (by omega))
    | succ d ih =>
      intro k hk hu
      refine br_f (nI_ge (b := 19) (by omega) (by omega)) (fx_has (by omega) rfl (fun z => br_f (by decide) (h k (by omega) z)) (fun z => br_t rfl (gl_i (ih (k + 1) (by omega) (fun j hj => ?_)))))
      by_cases e : j = k
      · subst e; exact z
      · exact hu j (by omega)
  exact ⟨_, key 19 0 (by omega) (fun j hj => by omega)⟩
theorem fx_handOut {post : Int32 → SX → Prop} (H : en_H n sd kp mk tg S K M T) (hI : en_I n S K M T fa) {p : Nat} (hp : p < n)
    (h : ∀ fa' G, en_I n S K M T fa' → (∀ q, G q → q < n) → (∀ q f, en_F fa' q f ↔ en_F fa q f ∨ (G q ∧ f < 32 ∧ en_P K M fa p f)) → (∀ q f, q < n → T p q → f < 32 → en_P K M fa p f → en_F fa' q f) → en_N fa + se_N G 20 ≤ en_N fa' → post (se_S G) ((nI n), rc, o, a, b, wt, rd, cm, nx, bh, sd, kp, mk, tg, fa', nt)) : wpX_handOut post ((nI n), rc, o, a, b, wt, rd, cm, nx, bh, sd, kp, mk, tg, fa, nt) (nI p) := by
  have hn := H.1
  have hT := H.2.2.2.2.1
  unfold wpX_handOut
  dsimp only
  refine fx_passedOn H hp ?_
  have key : ∀ d k fa' G, k + d = n → en_I n S K M T fa' → (∀ q, G q → q < k) → (∀ q f, en_F fa' q f ↔ en_F fa q f ∨ (G q ∧ f < 32 ∧ en_P K M fa p f)) → (∀ q f, q < k → T p q → f < 32 → en_P K M fa p f → en_F fa' q f) → en_N fa + se_N G 20 ≤ en_N fa' → wX_handOut_11 post (nI p) (se_S (en_P K M fa p)) (nI n) rc (d + 1) (se_S G) (nI k) o a b wt rd cm nx bh sd kp mk tg fa' nt := by
    intro d
    induction d with
    | zero =>
      intro k fa' G hk h1 h2 h3 h4 h5
      have e : k = n := by omega
      subst e
      exact br_t (nI_le (Nat.le_refl _) (by omega)) (h fa' G h1 h2 h3 h4 h5)
    | succ d ih =>
      intro k fa' G hk h1 h2 h3 h4 h5
      have hkn : k < n := by omega
      have hi : vp_in (nI k) 20 := ix_in (by omega)
      have stay : (T p k → ∀ f, f < 32 → en_P K M fa p f → en_F fa' k f) → wX_handOut_11 post (nI p) (se_S (en_P K M fa p)) (nI n) rc (d + 1) (se_S G) (nI (k + 1)) o a b wt rd cm nx bh sd kp mk tg fa' nt := by
        intro hs
        refine ih (k + 1) fa' G (by omega) h1 (fun q z => by have := h2 q z; omega) h3 (fun q f hq ht hf hpp => ?_) h5
        by_cases e : q = k
        · subst e; exact hs ht f hf hpp
        · exact h4 q f (by omega) ht hf hpp
      refine br_f (nI_ge hkn (by omega)) ⟨ix_in (by omega), ?_⟩
      rw [ix_cl (by omega : p < 20)]
      refine fx_has (by omega) (hT p hp) (fun ht => br_f (by decide) ⟨hi, ?_⟩) (fun ht => br_t rfl (gl_i (stay (fun z => absurd z ht))))
      rw [ix_cl (by omega : k < 20), en_Fe (fa := fa') k, se_not]
      refine br_c (fun hz => gl_i (stay (fun _ f hf hpp => ?_))) (fun hz => ⟨hi, hi, ?_⟩)
      · refine Classical.byContradiction fun w => ?_
        exact se_m32.mp hz ⟨f, hf, hpp, w⟩
      · have hnew : ∃ i, i < 32 ∧ en_P K M fa p i ∧ ¬ en_F fa' k i := Classical.byContradiction fun w => hz (se_m32.mpr w)
        rw [se_or]
        refine nm_e (nm_r (e' := se_S (fun i => G i ∨ i = k)) (by rw [se_shl (by omega), se_or]) (gl_i (ih (k + 1) _ _ (by omega) ?_ ?_ ?_ ?_ ?_)))
        · refine ⟨fun q f hq hf hs => ?_, fun q f hq z => ?_⟩
          · by_cases e : q = k
            · subst e
              exact en_Fus.mpr ⟨hf, Or.inl (h1.1 q f hq hf hs)⟩
            · exact (en_Fun e).mpr (h1.1 q f hq hf hs)
          · by_cases e : q = k
            · subst e
              rcases (en_Fus.mp z).2 with w | w
              · exact h1.2 q f hq w
              · exact en_Pl hI hp ht w
            · exact h1.2 q f hq ((en_Fun e).mp z)
        · intro q z
          rcases z with z | z
          · have := h2 q z; omega
          · omega
        · intro q f
          by_cases e : q = k
          · subst e
            rw [en_Fus, h3 q f]
            constructor
            · rintro ⟨w, (z | z) | z⟩
              · exact Or.inl z
              · exact Or.inr ⟨Or.inl z.1, z.2⟩
              · exact Or.inr ⟨Or.inr rfl, w, z⟩
            · rintro (z | z)
              · exact ⟨z.1, Or.inl (Or.inl z)⟩
              · exact ⟨z.2.1, Or.inr z.2.2⟩
          · rw [en_Fun e, h3 q f]
            exact or_congr Iff.rfl (and_congr ⟨Or.inl, fun z => z.elim id (fun w => absurd w e)⟩ Iff.rfl)
        · intro q f hq htq hf hpp
          by_cases e : q = k
          · subst e
            exact en_Fus.mpr ⟨hf, Or.inr hpp⟩
          · exact (en_Fun e).mpr (h4 q f (by omega) htq hf hpp)
        · obtain ⟨i, hi32, hpi, hni⟩ := hnew
          have g := en_grow (fa := fa') (k := k) (P := fun f => en_F fa' k f ∨ en_P K M fa p f) (by omega) (fun f z => Or.inl z) ⟨i, en_b H hi32 (en_Pl hI hp ht hpi), Or.inr hpi, hni⟩
          have g2 := se_Nins (P := G) (c := k) (k := 20)
          omega
  have e0 : (0 : Int32) = se_S (fun _ => False) := se_0
  have k0 := key n 0 fa (fun _ => False) (by omega) hI (fun q z => z.elim) (fun q f => ⟨Or.inl, fun z => z.elim id (fun w => w.1.elim)⟩) (fun q f hq => by omega) (by
    have : se_N (fun _ => False) 20 ≤ 0 := by
      have := se_Nlt (P := fun _ => False) (Q := fun i => i = 0) 20 (fun _ _ z => z.elim) ⟨0, by omega, rfl, id⟩
      have := se_Nsg 0 20
      rw [if_pos (by omega)] at this
      omega
    omega)
  rw [← e0] at k0
  exact ⟨_, k0⟩
theorem fx_queue {post : SX → Prop} (H : en_H n sd kp mk tg S K M T) (hI : en_I n S K M T fa) (h : ∀ fa', (∀ p, p < n → fa' p = se_S (fun f => en_L n S K M T f p)) → post ((nI n), rc, o, a, b, wt, rd, cm, nx, bh, sd, kp, mk, tg, fa', nt)) : wpX_workOffQueue post ((nI n), rc, o, a, b, wt, rd, cm, nx, bh, sd, kp, mk, tg, fa, nt) := by
  have hn := H.1
  have key : ∀ d t P fa, t + d = 420 → en_I n S K M T fa → (∀ p, P p → p < n) → (∀ p q f, p < n → ¬ P p → q < n → T p q → f < 32 → en_P K M fa p f → en_F fa q f) → t + se_N P 20 ≤ 20 + en_N fa → wX_workOffQueue_7 post (d + 1) (se_S P) (nI t) (nI n) rc o a b wt rd cm nx bh sd kp mk tg fa nt := by
    intro d
    induction d with
    | zero =>
      intro t P fa ht hI hP hc hm
      have e : t = 420 := by omega
      subst e
      have hle := se_Nle (fun j => en_F fa (j / 20) (j % 20)) 400
      unfold en_N at hm
      have hno : ∀ p, ¬ P p := fun p z => by
        have hp20 : p < 20 := by have := hP p z; omega
        have := se_Npos (P := P) (k := 20) hp20 z
        omega
      exact br_t (nI_le (a := 420) (b := 420) (by omega) (by omega)) (h fa (en_fin H hI (fun f r q hr hq hT hf hp => hc r q f hr (hno r) hq hT hf hp)))
    | succ d ih =>
      intro t P fa ht hI hP hc hm
      refine br_f (nI_ge (b := 420) (by omega) (by omega)) ?_
      by_cases hex : ∃ p, P p
      · have hex20 : ∃ p, p < 20 ∧ P p := hex.elim (fun p z => ⟨p, by have := hP p z; omega, z⟩)
        refine br_f (se_nz.mpr (hex20.elim (fun p z => ⟨p, by omega, z.2⟩))) (fx_leastOf hex20 (fun p hp hPp => ?_))
        have hpn := hP p hPp
        refine nm_r (e' := se_S (fun i => P i ∧ ¬ i = p)) (by rw [se_shl (by omega), se_not, se_and]) (fx_handOut H hI hpn (fun fa' G g1 g2 g3 g4 g5 => ?_))
        dsimp only
        refine nm_r (e' := se_S (fun i => (P i ∧ ¬ i = p) ∨ G i)) (se_or _ _) (gl_i (ih (t + 1) _ fa' (by omega) g1 ?_ ?_ ?_))
        · exact fun q z => z.elim (fun w => hP q w.1) (g2 q)
        · intro r q f hr hnw hq hTr hf hpp
          have hnG : ¬ G r := fun z => hnw (Or.inr z)
          have same : ∀ f, en_F fa' r f ↔ en_F fa r f := fun f => (g3 r f).trans ⟨fun z => z.elim id (fun w => absurd w.1 hnG), Or.inl⟩
          have hpp' : en_P K M fa r f := hpp.imp (fun w => ⟨(same f).mp w.1, w.2⟩) id
          by_cases e : r = p
          · subst e
            exact g4 q f hq hTr hf hpp'
          · have hnP : ¬ P r := fun z => hnw (Or.inl ⟨z, e⟩)
            exact (g3 q f).mpr (Or.inl (hc r q f hr hnP hq hTr hf hpp'))
        · have c1 := se_Nor (P := fun i => P i ∧ ¬ i = p) (Q := G) 20
          have c2 := se_Nlt (P := fun i => P i ∧ ¬ i = p) (Q := P) 20 (fun i _ z => z.1) ⟨p, hp, hPp, fun z => z.2 rfl⟩
          omega
      · have hno : ∀ p, ¬ P p := fun p z => hex ⟨p, z⟩
        refine br_t (se_z.mpr (fun i _ => hno i)) (h fa (en_fin H hI (fun f r q hr hq hT hf hp => hc r q f hr (hno r) hq hT hf hp)))
  unfold wpX_workOffQueue
  dsimp only
  refine fx_wholeCode hn ⟨_, key 420 0 (fun i => i < n) fa (by omega) hI (fun _ z => z) (fun p q f hp hnp => absurd hp hnp) ?_⟩
  have := se_Nle (fun i => i < n) 20
  omega
theorem fx_targetsOf {post : Int32 → Prop} (H : en_H n sd kp mk tg S K M T) {x : Int32} {P : Nat → Prop} (hx : x = se_S P) (h : post (se_S (fun i => ∃ p, p < n ∧ P p ∧ T p i))) : wpX_targetsOf post ((nI n), rc, o, a, b, wt, rd, cm, nx, bh, sd, kp, mk, tg, fa, nt) x := by
  have hn := H.1
  have hT := H.2.2.2.2.1
  unfold wpX_targetsOf
  dsimp only
  refine gl_un (fun f y z => wX_targetsOf_4 post x (nI n) rc o a b wt rd cm nx bh sd kp mk tg fa nt f y z) n P T post ?_ ?_ h
  · intro f x h
    exact br_t (nI_le (Nat.le_refl _) (by omega)) h
  · intro f k y hk h0 h1
    refine br_f (nI_ge hk (by omega)) (fx_has (by omega) hx (fun hc => br_f (by decide) ⟨ix_in (by omega), ?_⟩) (fun hc => br_t rfl (gl_i (h0 hc))))
    rw [ix_cl (by omega : k < 20)]
    exact fun z ez => gl_i (h1 hc z (by rw [ez, hT k hk]))
theorem en_ln (H : en_H n sd kp mk tg S K M T) {f q : Nat} (h : en_L n S K M T f q) : q < n := by
  have hT := H.2.2.2.2.2.2.2
  exact h (fun q => q < n) (fun q z => z.elim (fun w => w.1) (fun ⟨r, h1, h2, _⟩ => hT r q h1 h2)) (fun x y _ e => hT x y e.1 e.2.1)
theorem fx_holdersOf {post : Int32 → Prop} (H : en_H n sd kp mk tg S K M T) {f : Nat} (hf : f < 32) (h : post (se_S (fun q => en_L n S K M T f q))) : wpX_holdersOf post ((nI n), rc, o, a, b, wt, rd, cm, nx, bh, sd, kp, mk, tg, fa, nt) (nI f) := by
  have hn := H.1
  have hS := H.2.1
  have hK := H.2.2.1
  have hM := H.2.2.2.1
  have hT := H.2.2.2.2.1
  have key : ∀ d k, k + d = n → wX_holdersOf_7 post (nI f) (nI n) rc o a b wt rd cm nx bh sd kp mk tg fa nt (d + 1) (se_S (fun q => (q < k ∧ S q f) ∨ ∃ r, r < k ∧ T r q ∧ M r f)) (se_S (fun r => r < k ∧ K r f)) (nI k) := by
    intro d
    induction d with
    | zero =>
      intro k hk
      have e : k = n := by omega
      subst e
      refine br_t (nI_le (Nat.le_refl _) (by omega)) ?_
      refine gl_clo (fun g y z => wX_holdersOf_106 post (se_S (fun r => r < k ∧ K r f)) (nI k) rc o a b wt rd cm nx bh sd kp mk tg fa nt g y z) (en_E k K T f) (en_A k S M T f) post (en_A k S M T f) ?_ (fun i z => lf_i z) ?_ ?_ h
      · intro i z
        have := en_ln H z
        omega
      · intro g x h
        exact br_t (nI_lt (a := 20) (b := 21) (by omega) (by omega)) h
      · intro g j P hj hP h0P hh
        refine br_f (nI_nlt (a := 20) (by omega) (by omega)) (fx_targetsOf H (se_and _ _) (nm_r (e' := se_S (fun i => P i ∨ en_A k S M T f i ∨ ∃ q, P q ∧ en_E k K T f q i)) ?_ ?_))
        · rw [se_or]
          refine se_ext (fun i _ => ⟨?_, ?_⟩)
          · rintro (z | ⟨q, h1, h2, h3⟩)
            · exact Or.inl z
            · exact Or.inr (Or.inr ⟨q, h2.1, h1, h3, h2.2.2⟩)
          · rintro (z | z | ⟨q, h1, h2⟩)
            · exact Or.inl z
            · exact Or.inl (h0P i z)
            · exact Or.inr ⟨q, h2.1, ⟨h1, h2.1, h2.2.2⟩, h2.2.1⟩
        · have g := hh _ rfl
          exact ⟨g.1, fun z => gl_i (g.2 z)⟩
    | succ d ih =>
      intro k hk
      have ih := ih (k + 1) (by omega)
      have hkn : k < n := by omega
      have hi : vp_in (nI k) 20 := ix_in (by omega)
      have ec : (nI k).toNatClampNeg = k := ix_cl (by omega)
      have H69 : ∀ z0 z1 : Int32, z1 ||| z0 = se_S (fun q => (q < k + 1 ∧ S q f) ∨ ∃ r, r < k + 1 ∧ T r q ∧ M r f) → wX_holdersOf_69 post (wX_holdersOf_7 post (nI f) (nI n) rc o a b wt rd cm nx bh sd kp mk tg fa nt (d + 1)) (nI f) (se_S (fun r => r < k ∧ K r f)) (nI k) z0 z1 (nI n) rc o a b wt rd cm nx bh sd kp mk tg fa nt := by
        intro z0 z1 hz
        unfold wX_holdersOf_69
        rw [ec]
        refine nm_r hz ⟨hi, fx_has hf (hK k hkn) (fun hc => br_f (by decide) (nm_r ?_ (gl_i ih))) (fun hc => br_t rfl (nm_r ?_ (gl_i ih)))⟩
        · rw [se_shl (by omega), se_or]
          refine se_ext (fun i _ => ⟨fun z => z.elim (fun w => ⟨by omega, w.2⟩) (fun w => ⟨by omega, by rw [w]; exact hc⟩), fun z => ?_⟩)
          by_cases e : i = k
          · exact Or.inr e
          · exact Or.inl ⟨by omega, z.2⟩
        · rw [se_or0]
          refine se_ext (fun i _ => ⟨fun w => ⟨by omega, w.2⟩, fun z => ?_⟩)
          by_cases e : i = k
          · subst e; exact absurd z.2 hc
          · exact ⟨by omega, z.2⟩
      have H40 : ∀ z0 z1 : Int32, z1 ||| z0 = se_S (fun q => (q < k + 1 ∧ S q f) ∨ ∃ r, r < k ∧ T r q ∧ M r f) → wX_holdersOf_40 post (wX_holdersOf_7 post (nI f) (nI n) rc o a b wt rd cm nx bh sd kp mk tg fa nt (d + 1)) (nI f) (se_S (fun r => r < k ∧ K r f)) (nI k) z0 z1 (nI n) rc o a b wt rd cm nx bh sd kp mk tg fa nt := by
        intro z0 z1 hz
        unfold wX_holdersOf_40
        rw [ec]
        refine nm_r hz ⟨hi, fx_has hf (hM k hkn) (fun hc => br_f (by decide) ⟨hi, H69 _ _ ?_⟩) (fun hc => br_t rfl (H69 _ _ ?_))⟩
        · rw [hT k hkn, se_or]
          refine se_ext (fun i _ => ⟨?_, ?_⟩)
          · rintro ((z | ⟨r, h1, h2⟩) | z)
            · exact Or.inl z
            · exact Or.inr ⟨r, by omega, h2⟩
            · exact Or.inr ⟨k, by omega, z, hc⟩
          · rintro (z | ⟨r, h1, h2⟩)
            · exact Or.inl (Or.inl z)
            · by_cases e : r = k
              · subst e; exact Or.inr h2.1
              · exact Or.inl (Or.inr ⟨r, by omega, h2⟩)
        · rw [se_or0]
          refine se_ext (fun i _ => or_congr Iff.rfl ⟨fun ⟨r, h1, h2⟩ => ⟨r, by omega, h2⟩, fun ⟨r, h1, h2⟩ => ?_⟩)
          by_cases e : r = k
          · subst e; exact absurd h2.2 hc
          · exact ⟨r, by omega, h2⟩
      refine br_f (nI_ge hkn (by omega)) ⟨hi, ?_⟩
      rw [ec]
      refine fx_has hf (hS k hkn) (fun hc => br_f (by decide) (H40 _ _ ?_)) (fun hc => br_t rfl (H40 _ _ ?_))
      · rw [se_shl (by omega), se_or]
        refine se_ext (fun i _ => ⟨?_, ?_⟩)
        · rintro ((z | z) | z)
          · exact Or.inl ⟨by omega, z.2⟩
          · exact Or.inr z
          · subst z; exact Or.inl ⟨by omega, hc⟩
        · rintro (z | z)
          · by_cases e : i = k
            · exact Or.inr e
            · exact Or.inl (Or.inl ⟨by omega, z.2⟩)
          · exact Or.inl (Or.inr z)
      · rw [se_or0]
        refine se_ext (fun i _ => or_congr ⟨fun z => ⟨by omega, z.2⟩, fun z => ?_⟩ Iff.rfl)
        by_cases e : i = k
        · subst e; exact absurd z.2 hc
        · exact ⟨by omega, z.2⟩
  unfold wpX_holdersOf
  dsimp only
  have k0 := key n 0 (by omega)
  have e1 : se_S (fun q => (q < 0 ∧ S q f) ∨ ∃ r, r < 0 ∧ T r q ∧ M r f) = 0 := se_z.mpr (fun i _ z => z.elim (fun w => by omega) (fun ⟨r, h1, _⟩ => by omega))
  have e2 : se_S (fun r => r < 0 ∧ K r f) = 0 := se_z.mpr (fun i _ z => by omega)
  rw [e1, e2] at k0
  exact ⟨_, k0⟩
theorem fx_spread {post : SX → Prop} (H : en_H n sd kp mk tg S K M T) (h0 : ∀ p, p < n → fa p = se_S (S p)) (h : ∀ fa', (∀ p, p < n → fa' p = se_S (fun f => en_L n S K M T f p)) → post ((nI n), rc, o, a, b, wt, rd, cm, nx, bh, sd, kp, mk, tg, fa', nt)) : wpX_spreadEachFact post ((nI n), rc, o, a, b, wt, rd, cm, nx, bh, sd, kp, mk, tg, fa, nt) := by
  have hn := H.1
  have key : ∀ d k fa, k + d = 20 → (∀ p, p < n → fa p = se_S (fun f => (f < k ∧ en_L n S K M T f p) ∨ S p f)) → wX_spreadEachFact_2 post (nI n) rc (d + 1) (nI k) o a b wt rd cm nx bh sd kp mk tg fa nt := by
    intro d
    induction d with
    | zero =>
      intro k fa hk hfa
      have e : k = 20 := by omega
      subst e
      refine br_t (nI_le (a := 20) (b := 20) (by omega) (by omega)) (h fa (fun p hp => ?_))
      rw [hfa p hp]
      exact se_ext (fun f hf => ⟨fun z => z.elim (fun w => w.2) (fun w => lf_i (Or.inl ⟨hp, w⟩)), fun z => Or.inl ⟨en_b H hf z, z⟩⟩)
    | succ d ih =>
      intro k fa hk hfa
      refine br_f (nI_ge (b := 20) (by omega) (by omega)) (fx_holdersOf H (by omega) ?_)
      have inner : ∀ dd j fa', j + dd = n → (∀ p, p < n → fa' p = se_S (fun f => ((f < k ∨ (f = k ∧ p < j)) ∧ en_L n S K M T f p) ∨ S p f)) → wX_spreadEachFact_16 post (wX_spreadEachFact_2 post (nI n) rc (d + 1)) (nI k) (se_S (fun q => en_L n S K M T k q)) (nI n) rc (dd + 1) (nI j) o a b wt rd cm nx bh sd kp mk tg fa' nt := by
        intro dd
        induction dd with
        | zero =>
          intro j fa' hj hfa'
          have e : j = n := by omega
          subst e
          refine br_t (nI_le (Nat.le_refl _) (by omega)) (gl_i (ih (k + 1) fa' (by omega) (fun p hp => ?_)))
          rw [hfa' p hp]
          refine se_ext (fun f _ => or_congr (and_congr ⟨fun z => ?_, fun z => ?_⟩ Iff.rfl) Iff.rfl)
          · omega
          · omega
        | succ dd ih2 =>
          intro j fa' hj hfa'
          have hjn : j < n := by omega
          have hi : vp_in (nI j) 20 := ix_in (by omega)
          have other : ∀ (x : Int32) p, p < n → p ≠ j → upd fa' j x p = se_S (fun f => ((f < k ∨ (f = k ∧ p < j + 1)) ∧ en_L n S K M T f p) ∨ S p f) := by
            intro x p hp e
            rw [pk_un e, hfa' p hp]
            refine se_ext (fun f _ => or_congr (and_congr ⟨fun z => ?_, fun z => ?_⟩ Iff.rfl) Iff.rfl)
            · omega
            · omega
          refine br_f (nI_ge hjn (by omega)) ⟨hi, fx_has (by omega) rfl (fun hc => br_f (by decide) ⟨hi, ?_⟩) (fun hc => br_t rfl ⟨hi, ?_⟩)⟩
          · rw [ix_cl (by omega : j < 20)]
            refine nm_e (gl_i (ih2 (j + 1) _ (by omega) (fun p hp => ?_)))
            by_cases e : p = j
            · subst e
              rw [pk_us, hfa' p hp, se_shl (by omega), se_or]
              refine se_ext (fun f _ => ⟨?_, ?_⟩)
              · rintro ((z | z) | z)
                · exact Or.inl ⟨by omega, z.2⟩
                · exact Or.inr z
                · subst z; exact Or.inl ⟨Or.inr ⟨rfl, by omega⟩, hc⟩
              · rintro (z | z)
                · by_cases e2 : f = k
                  · exact Or.inr e2
                  · exact Or.inl (Or.inl ⟨by omega, z.2⟩)
                · exact Or.inl (Or.inr z)
            · exact other _ p hp e
          · rw [ix_cl (by omega : j < 20)]
            refine nm_e (gl_i (ih2 (j + 1) _ (by omega) (fun p hp => ?_)))
            by_cases e : p = j
            · subst e
              rw [pk_us, hfa' p hp, se_or0]
              refine se_ext (fun f _ => or_congr ⟨fun z => ⟨by omega, z.2⟩, fun z => ?_⟩ Iff.rfl)
              by_cases e2 : f = k
              · subst e2; exact absurd z.2 hc
              · exact ⟨by omega, z.2⟩
            · exact other _ p hp e
      exact ⟨_, inner n 0 fa (by omega) (fun p hp => by
        rw [hfa p hp]
        refine se_ext (fun f _ => or_congr (and_congr ⟨Or.inl, fun z => ?_⟩ Iff.rfl) Iff.rfl)
        omega)⟩
  exact ⟨_, key 20 0 fa (by omega) (fun p hp => by
    rw [h0 p hp]
    exact se_ext (fun f _ => ⟨Or.inr, fun z => z.elim (fun w => by omega) id⟩))⟩
end
end
section
/-! find and answerAt; the four answers and unset as least sets -/
def qs_L (n : Nat) (o v a b : Nat → Int32) (Q f p : Nat) : Prop := en_L n (qs_S n o a b Q) (qs_K n o v a b Q) (qs_M n o v a b Q) (qs_T n o b Q) f p
def qs_Fo (n : Nat) (o v a b : Nat → Int32) (Q p f : Nat) : Prop := (qs_bk Q → qs_L n o v a b Q f p) ∧ (¬ qs_bk Q → (qs_L n o v a b Q f p ∧ qs_K n o v a b Q p f) ∨ qs_M n o v a b Q p f)
def qs_An (n : Nat) (o v a b : Nat → Int32) (Q p f : Nat) : Prop := ((Q = 2 ∨ Q = 3) → qs_Nms n o a b f ∧ ¬ qs_Fo n o v a b Q p f) ∧ (¬ (Q = 2 ∨ Q = 3) → qs_Fo n o v a b Q p f)
section
variable {n : Nat} {rc : Int32} {o v a b wt rd cm nx bh sd kp mk tg fa nt : Nat → Int32}
theorem cd_w1 (ok : cd_Ok n o v a b) {p i : Nat} (hp : p < n) (hi : i < 32) (h : cd_Wt o v p i) : i < 6 := by
  obtain ⟨j, hj, e⟩ := (ok.2 p hp).2.1 h.1
  have h2 := h.2
  rw [e] at h2
  have := (nI_eq (by omega) (by omega)).mp h2
  omega
theorem cd_w2 (ok : cd_Ok n o v a b) {p : Nat} (hp : p < n) : (∃ i, i < 32 ∧ cd_Wt o v p i) ↔ cd_Wr o p := by
  constructor
  · rintro ⟨i, _, h⟩; exact h.1
  · intro h
    obtain ⟨j, hj, e⟩ := (ok.2 p hp).2.1 h
    exact ⟨j, by omega, h, e⟩
theorem cd_w3 (ok : cd_Ok n o v a b) {p q : Nat} (hp : p < n) : (∃ i, i < 32 ∧ cd_Wt o v p i ∧ cd_Wt o v q i) ↔ (cd_Wr o p ∧ cd_Wr o q ∧ v q = v p) := by
  constructor
  · rintro ⟨i, _, h1, h2⟩; exact ⟨h1.1, h2.1, h2.2.trans h1.2.symm⟩
  · rintro ⟨h1, h2, e⟩
    obtain ⟨j, hj, ej⟩ := (ok.2 p hp).2.1 h1
    exact ⟨j, by omega, ⟨h1, ej⟩, h2, e.trans ej⟩
theorem cd_r1 (ok : cd_Ok n o v a b) {p i : Nat} (hp : p < n) (hi : i < 32) (h : cd_Rd o a b p i) : i < 6 := by
  rcases h with h | h
  · obtain ⟨j, hj, e⟩ := (ok.2 p hp).2.2.1 h.1
    have h2 := h.2
    rw [e] at h2
    have := (nI_eq (by omega) (by omega)).mp h2
    omega
  · obtain ⟨j, hj, e⟩ := (ok.2 p hp).2.2.2.1 h.1
    have h2 := h.2
    rw [e] at h2
    have := (nI_eq (by omega) (by omega)).mp h2
    omega
theorem cd_cr {p : Nat} (h : cd_Cp o p) : cd_Rf o p := by
  unfold cd_Rf
  rcases h with h | h <;> (rw [h]; decide)
theorem cd_s1 {e : Nat} : qs_Nms n o a b e ↔ e < n ∧ cd_Nm o a b e := by
  constructor
  · rintro ⟨p, hp, h⟩; exact ⟨by have := h.1; omega, h.2.1⟩
  · rintro ⟨he, h⟩; exact ⟨e, he, Nat.le_refl _, h, h.1, rfl, rfl, rfl⟩
theorem cd_sy {p q : Nat} (h : cd_Sm o a b p q) : cd_Sm o a b q p := by
  refine ⟨?_, h.2.1.symm, h.2.2.1.symm, h.2.2.2.symm⟩
  have := h.1
  unfold cd_Cp at this ⊢
  rw [← h.2.1]; exact this
theorem cd_s2 {e p : Nat} (hN : cd_Nm o a b e) : cd_Cm o a b p e ↔ cd_Sm o a b p e := by
  constructor
  · rintro ⟨_, _, h⟩; exact cd_sy h
  · intro h
    refine ⟨?_, hN, cd_sy h⟩
    rcases Nat.lt_or_ge p e with hl | hl
    · exact absurd h (hN.2 p hl)
    · exact hl
theorem cd_s3 (ok : cd_Ok n o v a b) {p e : Nat} (hp : p < n) (he : e < n) (hN : cd_Nm o a b e) : qs_Sp n o v a b p e ↔ cd_Sl o v a b p e := by
  constructor
  · rintro ⟨q, hq, ⟨i, hi, hr, hw⟩, hc⟩
    refine ⟨hw.1, ?_⟩
    have hs := hc.2.2
    rcases hr with hr | hr
    · left; rw [hw.2, hs.2.2.1, hr.2]
    · right; rw [hw.2, hs.2.2.2, hr.2]
  · rintro ⟨hw, hv⟩
    obtain ⟨j, hj, ej⟩ := (ok.2 p hp).2.1 hw
    refine ⟨e, he, ⟨j, by omega, ?_, hw, ej⟩, Nat.le_refl _, hN, hN.1, rfl, rfl, rfl⟩
    rw [ej] at hv
    exact hv.imp (fun z => ⟨cd_cr hN.1, z.symm⟩) (fun z => ⟨hN.1, z.symm⟩)
theorem qs_H (ok : cd_Ok n o v a b) {Q : Nat} (hQ : Q < 5) (h1 : ∀ p, p < n → sd p = se_S (qs_S n o a b Q p)) (h2 : ∀ p, p < n → kp p = se_S (qs_K n o v a b Q p)) (h3 : ∀ p, p < n → mk p = se_S (qs_M n o v a b Q p)) (h4 : ∀ p, p < n → tg p = se_S (qs_T n o b Q p)) : en_H n sd kp mk tg (qs_S n o a b Q) (qs_K n o v a b Q) (qs_M n o v a b Q) (qs_T n o b Q) := by
  have hn := ok.1
  have hcm : ∀ p f, p < n → cd_Cm o a b p f → f < 20 := fun p f hp h => by have := h.1; omega
  have hcase : Q = 0 ∨ Q = 1 ∨ Q = 2 ∨ Q = 3 ∨ Q = 4 := by omega
  refine ⟨hn, h1, h2, h3, h4, fun p f hp hf hs => ?_, fun p f hp hf hm => ?_, fun p q hp ht => ?_⟩
  · have ho := hs.2.2
    rcases hcase with e | e | e | e | e <;> subst e
    · exact ho.elim
    · exact ho.elim
    · have := (cd_s1.mp ho).1; omega
    · have := (cd_s1.mp ho).1; omega
    · have : f < 6 := ho
      omega
  · rcases hcase with e | e | e | e | e <;> subst e
    · have := hm.2; omega
    · have := cd_r1 ok hp hf hm; omega
    · obtain ⟨q, hq, _, hc⟩ := hm
      exact hcm q f hq hc
    · obtain ⟨⟨q, hq, _, hc⟩, _⟩ := hm
      exact hcm q f hq hc
    · exact hm.elim
  · by_cases hb : qs_bk Q
    · exact (ht.1 hb).2.2.2
    · exact (ht.2 hb).1
theorem fx_find {post : SX → Prop} (rel : rl_X n rc o v a b wt rd cm nx bh) {Q : Nat} (hQ : Q < 5) {x1 : Int32}
    (h : ∀ sd' kp' mk' tg' fa', en_H n sd' kp' mk' tg' (qs_S n o a b Q) (qs_K n o v a b Q) (qs_M n o v a b Q) (qs_T n o b Q) → (∀ p, p < n → fa' p = se_S (fun f => qs_L n o v a b Q f p)) → post ((nI n), rc, o, a, b, wt, rd, cm, nx, bh, sd', kp', mk', tg', fa', nt)) : wpX_find post ((nI n), rc, o, a, b, wt, rd, cm, nx, bh, sd, kp, mk, tg, fa, nt) x1 (nI Q) := by
  have ok := rel.1
  have hn := ok.1
  unfold wpX_find
  dsimp only
  refine fx_pose rel hQ (fun sd' kp' mk' tg' g1 g2 g3 g4 => ?_)
  dsimp only
  have H := qs_H ok hQ g1 g2 g3 g4
  have key : ∀ d k fa', k + d = n → (∀ p, p < k → fa' p = se_S (qs_S n o a b Q p)) → wX_find_7 post x1 (nI n) rc (d + 1) (nI k) o a b wt rd cm nx bh sd' kp' mk' tg' fa' nt := by
    intro d
    induction d with
    | zero =>
      intro k fa' hk hf
      have e : k = n := by omega
      subst e
      have hI : en_I k (qs_S k o a b Q) (qs_K k o v a b Q) (qs_M k o v a b Q) (qs_T k o b Q) fa' := ⟨fun p f hp h32 hs => (en_Fs (hf p hp)).mpr ⟨h32, hs⟩, fun p f hp z => lf_i (Or.inl ⟨hp, ((en_Fs (hf p hp)).mp z).2⟩)⟩
      refine br_t (nI_le (Nat.le_refl _) (by omega)) (br_c (fun _ => ?_) (fun _ => br_c (fun _ => ?_) (fun _ => ?_)))
      · exact fx_sweep H hI (fun fa'' g => h _ _ _ _ _ H g)
      · exact fx_queue H hI (fun fa'' g => h _ _ _ _ _ H g)
      · exact fx_spread H hf (fun fa'' g => h _ _ _ _ _ H g)
    | succ d ih =>
      intro k fa' hk hf
      have hi : vp_in (nI k) 20 := ix_in (by omega)
      refine br_f (nI_ge (by omega) (by omega)) ⟨hi, hi, ?_⟩
      rw [ix_cl (by omega : k < 20)]
      refine nm_e (gl_i (ih (k + 1) _ (by omega) (fun p hp => ?_)))
      by_cases e : p = k
      · subst e; rw [pk_us]; exact g1 p (by omega)
      · rw [pk_un e]; exact hf p (by omega)
  exact ⟨_, key n 0 fa (by omega) (fun p hp => by omega)⟩
theorem fx_answerAt {post : Int32 → Prop} (rel : rl_X n rc o v a b wt rd cm nx bh) {Q : Nat} (hQ : Q < 5) (H : en_H n sd kp mk tg (qs_S n o a b Q) (qs_K n o v a b Q) (qs_M n o v a b Q) (qs_T n o b Q)) (hfa : ∀ p, p < n → fa p = se_S (fun f => qs_L n o v a b Q f p)) {p : Nat} (hp : p < n) (h : post (se_S (qs_An n o v a b Q p))) : wpX_answerAt post ((nI n), rc, o, a, b, wt, rd, cm, nx, bh, sd, kp, mk, tg, fa, nt) (nI Q) (nI p) := by
  have hn := rel.1.1
  have hC := rel.2.2.2.2.1
  have H22 : ∀ z0 : Int32, z0 = se_S (qs_Fo n o v a b Q p) → wX_answerAt_22 post (nI Q) z0 (nI n) rc o a b wt rd cm nx bh sd kp mk tg fa nt := by
    intro z0 hz
    subst hz
    unfold wX_answerAt_22
    refine fx_asks (fun z => br_f (by decide) (fx_names hn hC ?_)) (fun z => br_t rfl ?_)
    · have z' := (qs_afI Q hQ).mp z
      rw [se_not, se_and]
      have e : se_S (qs_An n o v a b Q p) = se_S (fun f => qs_Nms n o a b f ∧ ¬ qs_Fo n o v a b Q p f) := se_ext (fun f _ => ⟨fun w => w.1 z', fun w => ⟨fun _ => w, fun nz => absurd z' nz⟩⟩)
      rw [← e]; exact h
    · have z' : ¬ (Q = 2 ∨ Q = 3) := fun w => z ((qs_afI Q hQ).mpr w)
      have e : se_S (qs_An n o v a b Q p) = se_S (qs_Fo n o v a b Q p) := se_ext (fun f _ => ⟨fun w => w.2 z', fun w => ⟨fun nz => absurd nz z', fun _ => w⟩⟩)
      rw [← e]; exact h
  unfold wpX_answerAt
  dsimp only
  refine fx_looks (fun z => br_f (by decide) ⟨ix_in (by omega), ?_⟩) (fun z => br_t rfl (fx_passedOn H hp (H22 _ ?_)))
  · rw [ix_cl (by omega : p < 20)]
    refine H22 _ ?_
    have z' : qs_bk Q := (qs_bkI Q hQ).mp z
    rw [hfa p hp]
    exact se_ext (fun f _ => ⟨fun w => ⟨fun _ => w, fun nz => absurd z' nz⟩, fun w => w.1 z'⟩)
  · have z' : ¬ qs_bk Q := fun w => z ((qs_bkI Q hQ).mpr w)
    refine se_ext (fun f hf => ?_)
    unfold en_P
    rw [en_Fs (hfa p hp)]
    exact ⟨fun w => ⟨fun nz => absurd nz z', fun _ => w.imp (fun y => ⟨y.1.2, y.2⟩) id⟩, fun w => (w.2 z').imp (fun y => ⟨⟨hf, y.1⟩, y.2⟩) id⟩
end
/-! the mathematics: what the component asks and what the reference asks are the same -/
section
variable {n : Nat} {o v a b : Nat → Int32}
theorem bk0 : qs_bk 0 := Or.inl rfl
theorem bk2 : qs_bk 2 := Or.inr (Or.inl rfl)
theorem bk4 : qs_bk 4 := Or.inr (Or.inr rfl)
theorem bk1 : ¬ qs_bk 1 := by unfold qs_bk; omega
theorem bk3 : ¬ qs_bk 3 := by unfold qs_bk; omega
theorem fl_Rs {x y : Nat} (h : fl_R n o b x) (hG : cd_G n o b x y) (hy : y < n) : fl_R n o b y := ⟨lf_s h.1 ⟨hG, id, id⟩, hy⟩
theorem fl_R0 (h : 0 < n) : fl_R n o b 0 := ⟨lf_i ⟨⟨h, rfl⟩, id⟩, h⟩
theorem ma_0 (ok : cd_Ok n o v a b) {p d : Nat} (hp : p < n) : qs_An n o v a b 0 p d ↔ fl_Rea n o v b p d := by
  have e1 : qs_An n o v a b 0 p d ↔ qs_L n o v a b 0 d p := ⟨fun z => (z.2 (by omega)).1 bk0, fun z => ⟨fun w => by omega, fun _ => ⟨fun _ => z, fun w => absurd bk0 w⟩⟩⟩
  rw [e1]
  constructor
  · intro h
    have hh := h (fun q => (d < n ∧ fl_R n o b d ∧ cd_Wr o d) ∧ fl_F n o b (cd_G n o b d) (fl_W n o v (v d)) (fun _ => False) q) ?_ ?_
    · exact ⟨hh.1.1, hh.1.2, hh.2⟩
    · rintro q (⟨_, hs⟩ | ⟨r, hr, ht, hm⟩)
      · exact hs.2.2.elim
      · obtain ⟨hR, hG, hR2⟩ := ht.1 bk0
        obtain ⟨hw, hd⟩ := hm
        subst hd
        exact ⟨⟨hr, hR, (cd_w2 ok hr).mp hw⟩, lf_i ⟨hG, id⟩⟩
    · rintro x y ⟨g1, g2⟩ ⟨hx, ht, hk⟩
      obtain ⟨hR, hG, hR2⟩ := ht.1 bk0
      refine ⟨g1, lf_s g2 ⟨hG, fun w => hk ⟨g1.1, (cd_w3 ok g1.1).mpr ⟨g1.2.2, w.2.1, w.2.2⟩⟩, id⟩⟩
  · rintro ⟨hd, ⟨hR, hW⟩, hF⟩
    refine (hF (fun q => q < n → fl_R n o b q ∧ qs_L n o v a b 0 d q) ?_ ?_ hp).2
    · rintro q ⟨hG, _⟩ hq
      have hRq := fl_Rs hR hG hq
      exact ⟨hRq, lf_i (Or.inr ⟨d, hd, ⟨fun _ => ⟨hR, hG, hRq⟩, fun w => absurd bk0 w⟩, (cd_w2 ok hd).mpr hW, rfl⟩)⟩
    · rintro x y g ⟨hG, hB, _⟩ hy
      obtain ⟨hRx, hL⟩ := g hG.1
      have hRy := fl_Rs hRx hG hy
      refine ⟨hRy, lf_s hL ⟨hG.1, ⟨fun _ => ⟨hRx, hG, hRy⟩, fun w => absurd bk0 w⟩, fun w => hB ?_⟩⟩
      obtain ⟨_, h2, h3⟩ := (cd_w3 ok hd).mp w.2
      exact ⟨hG.1, h2, h3⟩
theorem fl_pE {B : Nat → Prop} {p q : Nat} : fl_F n o b (fun j => j = p) B (fun _ => False) q ↔ lf_L (fl_E n o b B (fun _ => False)) (fun i => i = p) q := by
  unfold fl_F
  simp only [not_false_eq_true, and_true]
theorem fl_bk {B Tq : Nat → Prop} {p : Nat} : (∃ q, fl_F n o b (fun j => j = p) B (fun _ => False) q ∧ Tq q) ↔ lf_L (fun y x => fl_E n o b B (fun _ => False) x y) Tq p := by
  rw [← lf_rev]
  exact ⟨fun ⟨q, h, t⟩ => ⟨q, fl_pE.mp h, t⟩, fun ⟨q, h, t⟩ => ⟨q, fl_pE.mpr h, t⟩⟩
theorem ma_1 (ok : cd_Ok n o v a b) {p f : Nat} (hp : p < n) (hf : f < 32) : qs_An n o v a b 1 p f ↔ f < 6 ∧ fl_Live n o v a b p f := by
  have e1 : qs_An n o v a b 1 p f ↔ (qs_L n o v a b 1 f p ∧ ¬ cd_Wt o v p f) ∨ cd_Rd o a b p f := ⟨fun z => (z.2 (by omega)).2 bk1, fun z => ⟨fun w => by omega, fun _ => ⟨fun w => absurd w bk1, fun _ => z⟩⟩⟩
  have e2 : fl_Live n o v a b p f ↔ lf_L (fun y x => fl_E n o b (fl_W n o v (nI f)) (fun _ => False) x y) (fun q => q < n ∧ cd_Rd o a b q f) p := fl_bk
  rw [e1]
  constructor
  · intro h
    have hl : fl_Live n o v a b p f := by
      rw [e2]
      rcases h with ⟨h, hw⟩ | h
      · obtain ⟨r, hG, hB⟩ := h (fun q => ∃ r, cd_G n o b q r ∧ lf_L (fun y x => fl_E n o b (fl_W n o v (nI f)) (fun _ => False) x y) (fun q => q < n ∧ cd_Rd o a b q f) r) (by
          rintro q (⟨_, hs⟩ | ⟨r, hr, ht, hm⟩)
          · exact hs.2.2.elim
          · exact ⟨r, (ht.2 bk1).2, lf_i ⟨hr, hm⟩⟩) (by
          rintro x y ⟨r, hG, hB⟩ ⟨hx, ht, hk⟩
          exact ⟨x, (ht.2 bk1).2, lf_s hB ⟨hG, fun w => hk w.2, id⟩⟩)
        exact lf_s hB ⟨hG, fun w => hw w.2, id⟩
      · exact lf_i ⟨hp, h⟩
    refine ⟨?_, hl⟩
    obtain ⟨q, _, hq, hr⟩ := hl
    exact cd_r1 ok hq hf hr
  · rintro ⟨_, hl⟩
    rw [e2] at hl
    refine (hl (fun q => q < n ∧ ((qs_L n o v a b 1 f q ∧ ¬ cd_Wt o v q f) ∨ cd_Rd o a b q f)) (fun q z => ⟨z.1, Or.inr z.2⟩) ?_).2
    rintro y x ⟨hy, z⟩ ⟨hG, hB, _⟩
    have hx := hG.1
    have ht : qs_T n o b 1 y x := ⟨fun w => absurd w bk1, fun _ => ⟨hx, hG⟩⟩
    refine ⟨hx, Or.inl ⟨?_, fun w => hB ⟨hx, w⟩⟩⟩
    rcases z with ⟨hL, hw⟩ | hr
    · exact lf_s hL ⟨hy, ht, hw⟩
    · exact lf_i (Or.inr ⟨y, hy, ht, hr⟩)
theorem cd_Gc {x y : Nat} (h : cd_G n o b x y) : y < n ∨ y = 20 := by
  have hs : ∀ t, cd_sp n t < n ∨ cd_sp n t = 20 := by
    intro t
    unfold cd_sp
    by_cases g : t < n
    · rw [if_pos g]; exact Or.inl g
    · rw [if_neg g]; exact Or.inr rfl
  rcases h.2 with ⟨_, e⟩ | ⟨_, e⟩ <;> (rw [e]; exact hs _)
theorem ma_3 (ok : cd_Ok n o v a b) {p e : Nat} (hp : p < n) : qs_An n o v a b 3 p e ↔ e < n ∧ cd_Nm o a b e ∧ ¬ fl_Miss n o v a b p e := by
  have hn := ok.1
  have e1 : qs_An n o v a b 3 p e ↔ (e < n ∧ cd_Nm o a b e) ∧ ¬ ((qs_L n o v a b 3 e p ∧ ¬ cd_Cm o a b p e) ∨ (qs_Sp n o v a b p e ∧ ¬ cd_Cm o a b p e)) := by
    rw [← cd_s1 (n := n)]
    constructor
    · intro z
      have w := z.1 (Or.inr rfl)
      exact ⟨w.1, fun y => w.2 ⟨fun g => absurd g bk3, fun _ => y⟩⟩
    · intro z
      exact ⟨fun _ => ⟨z.1, fun y => z.2 (y.2 bk3)⟩, fun w => absurd (Or.inr rfl) w⟩
  rw [e1, and_assoc]
  refine and_congr_right fun he => and_congr_right fun hN => not_congr ?_
  have e2 : fl_Miss n o v a b p e ↔ lf_L (fun y x => fl_E n o b (fun q => q < n ∧ cd_Sm o a b q e) (fun _ => False) x y) (fun q => q = 20 ∨ (q < n ∧ ¬ cd_Sm o a b q e ∧ cd_Sl o v a b q e)) p := fl_bk
  rw [e2]
  have hnm : qs_Nms n o a b e := cd_s1.mpr ⟨he, hN⟩
  constructor
  · rintro (⟨h, hc⟩ | ⟨h, hc⟩)
    · obtain ⟨r, hG, hB⟩ := h (fun q => ∃ r, cd_G n o b q r ∧ lf_L (fun y x => fl_E n o b (fun q => q < n ∧ cd_Sm o a b q e) (fun _ => False) x y) (fun q => q = 20 ∨ (q < n ∧ ¬ cd_Sm o a b q e ∧ cd_Sl o v a b q e)) r) (by
        rintro q (⟨_, hs⟩ | ⟨r, hr, ht, hm⟩)
        · exact ⟨20, hs.2.1 bk3, lf_i (Or.inl rfl)⟩
        · exact ⟨r, (ht.2 bk3).2, lf_i (Or.inr ⟨hr, fun w => hm.2 ((cd_s2 hN).mpr w), (cd_s3 ok hr he hN).mp hm.1⟩)⟩) (by
        rintro x y ⟨r, hG, hB⟩ ⟨hx, ht, hk⟩
        exact ⟨x, (ht.2 bk3).2, lf_s hB ⟨hG, fun w => hk ((cd_s2 hN).mpr w.2), id⟩⟩)
      exact lf_s hB ⟨hG, fun w => hc ((cd_s2 hN).mpr w.2), id⟩
    · exact lf_i (Or.inr ⟨hp, fun w => hc ((cd_s2 hN).mpr w), (cd_s3 ok hp he hN).mp h⟩)
  · intro hl
    refine hl (fun q => q < n → ((qs_L n o v a b 3 e q ∧ ¬ cd_Cm o a b q e) ∨ (qs_Sp n o v a b q e ∧ ¬ cd_Cm o a b q e))) ?_ ?_ hp
    · rintro q (z | z) hq
      · omega
      · exact Or.inr ⟨(cd_s3 ok hq he hN).mpr z.2.2, fun w => z.2.1 ((cd_s2 hN).mp w)⟩
    · rintro y x g ⟨hG, hB, _⟩ hx
      refine Or.inl ⟨?_, fun w => hB ⟨hx, (cd_s2 hN).mp w⟩⟩
      have ht : qs_T n o b 3 y x := ⟨fun w => absurd w bk3, fun _ => ⟨hx, hG⟩⟩
      rcases cd_Gc hG with hy | hy
      · rcases g hy with ⟨hL, hc⟩ | hs
        · exact lf_s hL ⟨hy, ht, hc⟩
        · exact lf_i (Or.inr ⟨y, hy, ht, hs⟩)
      · subst hy
        exact lf_i (Or.inl ⟨hx, fun w => absurd w bk3, fun _ => hG, hnm⟩)
theorem ma_4 (_ : cd_Ok n o v a b) {p f : Nat} (hp : p < n) : qs_An n o v a b 4 p f ↔ f < 6 ∧ fl_Un n o v b p f := by
  have e1 : qs_An n o v a b 4 p f ↔ qs_L n o v a b 4 f p := ⟨fun z => (z.2 (by omega)).1 bk4, fun z => ⟨fun w => by omega, fun _ => ⟨fun _ => z, fun w => absurd bk4 w⟩⟩⟩
  rw [e1]
  constructor
  · intro h
    refine h (fun q => f < 6 ∧ fl_Un n o v b q f) ?_ ?_
    · rintro q (⟨hq, hs⟩ | ⟨r, hr, ht, hm⟩)
      · have e := hs.1 bk4
        subst e
        exact ⟨hs.2.2, lf_i ⟨⟨hq, rfl⟩, id⟩⟩
      · exact hm.elim
    · rintro x y ⟨g1, g2⟩ ⟨hx, ht, hk⟩
      exact ⟨g1, lf_s g2 ⟨(ht.1 bk4).2.1, fun w => hk w.2, id⟩⟩
  · rintro ⟨h6, h⟩
    refine (h (fun q => q < n → fl_R n o b q ∧ qs_L n o v a b 4 f q) ?_ ?_ hp).2
    · rintro q ⟨⟨h0, e⟩, _⟩ hq
      subst e
      exact ⟨fl_R0 h0, lf_i (Or.inl ⟨h0, fun _ => rfl, fun w => absurd bk4 w, h6⟩)⟩
    · rintro x y g ⟨hG, hB, _⟩ hy
      obtain ⟨hRx, hL⟩ := g hG.1
      have hRy := fl_Rs hRx hG hy
      exact ⟨hRy, lf_s hL ⟨hG.1, ⟨fun _ => ⟨hRx, hG, hRy⟩, fun w => absurd bk4 w⟩, fun w => hB ⟨hG.1, w⟩⟩⟩
theorem wo_R {e r : Nat} (h : fl_R n o b r) : wo_L n o v a b e (2 * r) ∨ wo_L n o v a b e (2 * r + 1) := by
  refine h.1 (fun r => wo_L n o v a b e (2 * r) ∨ wo_L n o v a b e (2 * r + 1)) ?_ ?_
  · rintro i ⟨⟨h0, e⟩, _⟩
    subst e
    exact Or.inl (lf_i ⟨h0, rfl⟩)
  · rintro x y g ⟨hG, _⟩
    have m1 : (2 * x) / 2 = x := by omega
    have m2 : (2 * x + 1) / 2 = x := by omega
    have m3 : (2 * y) / 2 = y := by omega
    have m4 : (2 * y + 1) / 2 = y := by omega
    rcases g with g | g
    · by_cases hg : cd_Sm o a b x e ∧ ¬ cd_Sl o v a b x e
      · exact Or.inr (lf_s g ⟨by rw [m1, m4]; exact hG, fun w => by omega, fun _ => Or.inl ⟨by omega, by rw [m1]; exact hg⟩⟩)
      · exact Or.inl (lf_s g ⟨by rw [m1, m3]; exact hG, fun _ => Or.inl ⟨by omega, by rw [m1]; exact hg⟩, fun w => by omega⟩)
    · by_cases hg : cd_Sl o v a b x e
      · exact Or.inl (lf_s g ⟨by rw [m2, m3]; exact hG, fun _ => Or.inr ⟨by omega, by rw [m2]; exact hg⟩, fun w => by omega⟩)
      · exact Or.inr (lf_s g ⟨by rw [m2, m4]; exact hG, fun w => by omega, fun _ => Or.inr ⟨by omega, by rw [m2]; exact hg⟩⟩)
theorem ma_2 (ok : cd_Ok n o v a b) {p e : Nat} (hp : p < n) : qs_An n o v a b 2 p e ↔ e < n ∧ cd_Nm o a b e ∧ ¬ wo_L n o v a b e (2 * p) := by
  have e1 : qs_An n o v a b 2 p e ↔ (e < n ∧ cd_Nm o a b e) ∧ ¬ qs_L n o v a b 2 e p := by
    rw [← cd_s1 (n := n)]
    constructor
    · intro z
      have w := z.1 (Or.inl rfl)
      exact ⟨w.1, fun y => w.2 ⟨fun _ => y, fun g => absurd bk2 g⟩⟩
    · intro z
      exact ⟨fun _ => ⟨z.1, fun y => z.2 (y.1 bk2)⟩, fun w => absurd (Or.inl rfl) w⟩
  rw [e1, and_assoc]
  refine and_congr_right fun he => and_congr_right fun hN => not_congr ?_
  have hnm : qs_Nms n o a b e := cd_s1.mpr ⟨he, hN⟩
  constructor
  · intro h
    refine h (fun q => wo_L n o v a b e (2 * q)) ?_ ?_
    · rintro q (⟨hq, hs⟩ | ⟨r, hr, ht, hm⟩)
      · have e := hs.1 bk2
        subst e
        exact lf_i ⟨hq, rfl⟩
      · obtain ⟨hR, hG, _⟩ := ht.1 bk2
        have hl := (cd_s3 ok hr he hN).mp hm
        have m1 : (2 * r) / 2 = r := by omega
        have m2 : (2 * r + 1) / 2 = r := by omega
        have m3 : (2 * q) / 2 = q := by omega
        rcases wo_R (v := v) (a := a) (e := e) hR with g | g
        · exact lf_s g ⟨by rw [m1, m3]; exact hG, fun _ => Or.inl ⟨by omega, by rw [m1]; exact fun w => w.2 hl⟩, fun w => by omega⟩
        · exact lf_s g ⟨by rw [m2, m3]; exact hG, fun _ => Or.inr ⟨by omega, by rw [m2]; exact hl⟩, fun w => by omega⟩
    · rintro x y g ⟨hx, ht, hk⟩
      have hG := (ht.1 bk2).2.1
      have m1 : (2 * x) / 2 = x := by omega
      have m3 : (2 * y) / 2 = y := by omega
      exact lf_s g ⟨by rw [m1, m3]; exact hG, fun _ => Or.inl ⟨by omega, by rw [m1]; exact fun w => hk ((cd_s2 hN).mpr w.1)⟩, fun w => by omega⟩
  · intro h
    have hh := h (fun x => x / 2 < n → fl_R n o b (x / 2) ∧ (x % 2 = 0 → qs_L n o v a b 2 e (x / 2))) ?_ ?_
    · have m1 : (2 * p) / 2 = p := by omega
      rw [m1] at hh
      exact (hh hp).2 (by omega)
    · rintro x ⟨h0, e0⟩ hx
      subst e0
      exact ⟨fl_R0 h0, fun _ => lf_i (Or.inl ⟨h0, fun _ => rfl, fun w => absurd bk2 w, hnm⟩)⟩
    · rintro x y g ⟨hG, hE, _⟩ hy
      obtain ⟨hRx, hL⟩ := g hG.1
      have hRy := fl_Rs hRx hG hy
      have ht : qs_T n o b 2 (x / 2) (y / 2) := ⟨fun _ => ⟨hRx, hG, hRy⟩, fun w => absurd bk2 w⟩
      refine ⟨hRy, fun hy0 => ?_⟩
      have viaS : cd_Sl o v a b (x / 2) e → qs_L n o v a b 2 e (y / 2) := fun hs => lf_i (Or.inr ⟨x / 2, hG.1, ht, (cd_s3 ok hG.1 he hN).mpr hs⟩)
      rcases hE hy0 with ⟨hx0, hg⟩ | ⟨_, hs⟩
      · by_cases hs : cd_Sl o v a b (x / 2) e
        · exact viaS hs
        · exact lf_s (hL hx0) ⟨hG.1, ht, fun w => hg ⟨(cd_s2 hN).mp w, hs⟩⟩
      · exact viaS hs
end
end
section
/-! the component's methods -/
section
variable {n : Nat} {rc : Int32} {o v a b wt rd cm nx bh sd kp mk tg fa nt : Nat → Int32}
theorem fx_reaching {post : Int32 → SX → Prop} (rel : rl_X n rc o v a b wt rd cm nx bh) {x1 x2 : Int32} (h1 : cd_Eg x1 → ∀ p, p < n → x2 = nI p → fl_R n o b p → ∀ sd' kp' mk' tg' fa', post (se_S (qs_An n o v a b 0 p)) ((nI n), rc, o, a, b, wt, rd, cm, nx, bh, sd', kp', mk', tg', fa', nt)) (h0 : ¬ (cd_Eg x1 ∧ ∃ p, p < n ∧ x2 = nI p ∧ fl_R n o b p) → post (-1) ((nI n), rc, o, a, b, wt, rd, cm, nx, bh, sd, kp, mk, tg, fa, nt)) : wpX_reaching post ((nI n), rc, o, a, b, wt, rd, cm, nx, bh, sd, kp, mk, tg, fa, nt) x1 x2 := by
  have hn := rel.1.1
  unfold wpX_reaching
  dsimp only
  refine fx_isEngine (fun he => br_f (by decide) (fx_isReachable hn rel.2.1 (fun p hp ep hR => br_f (by decide) ?_) (fun hz => br_t rfl (h0 (fun z => hz z.2))))) (fun he => br_t rfl (h0 (fun z => he z.1)))
  subst ep
  refine fx_find rel (Q := 0) (by omega) (fun sd' kp' mk' tg' fa' H hfa => ?_)
  dsimp only
  exact fx_answerAt rel (Q := 0) (by omega) H hfa hp (h1 he p hp rfl hR _ _ _ _ _)
theorem fx_live {post : Int32 → SX → Prop} (rel : rl_X n rc o v a b wt rd cm nx bh) {x1 x2 : Int32} (h1 : cd_Eg x1 → ∀ p, p < n → x2 = nI p → ∀ sd' kp' mk' tg' fa', post (se_S (qs_An n o v a b 1 p)) ((nI n), rc, o, a, b, wt, rd, cm, nx, bh, sd', kp', mk', tg', fa', nt)) (h0 : ¬ (cd_Eg x1 ∧ ∃ p, p < n ∧ x2 = nI p) → post (-1) ((nI n), rc, o, a, b, wt, rd, cm, nx, bh, sd, kp, mk, tg, fa, nt)) : wpX_live post ((nI n), rc, o, a, b, wt, rd, cm, nx, bh, sd, kp, mk, tg, fa, nt) x1 x2 := by
  have hn := rel.1.1
  unfold wpX_live
  dsimp only
  refine fx_isEngine (fun he => br_f (by decide) (fx_isInCode hn (fun p hp ep => br_f (by decide) ?_) (fun hz => br_t rfl (h0 (fun z => z.2.elim (fun q hq => hz q hq.1 hq.2)))))) (fun he => br_t rfl (h0 (fun z => he z.1)))
  subst ep
  refine fx_find rel (Q := 1) (by omega) (fun sd' kp' mk' tg' fa' H hfa => ?_)
  dsimp only
  exact fx_answerAt rel (Q := 1) (by omega) H hfa hp (h1 he p hp rfl _ _ _ _ _)
theorem fx_available {post : Int32 → SX → Prop} (rel : rl_X n rc o v a b wt rd cm nx bh) {x1 x2 : Int32} (h1 : cd_Eg x1 → ∀ p, p < n → x2 = nI p → fl_R n o b p → ∀ sd' kp' mk' tg' fa', post (se_S (qs_An n o v a b 2 p)) ((nI n), rc, o, a, b, wt, rd, cm, nx, bh, sd', kp', mk', tg', fa', nt)) (h0 : ¬ (cd_Eg x1 ∧ ∃ p, p < n ∧ x2 = nI p ∧ fl_R n o b p) → post (-1) ((nI n), rc, o, a, b, wt, rd, cm, nx, bh, sd, kp, mk, tg, fa, nt)) : wpX_available post ((nI n), rc, o, a, b, wt, rd, cm, nx, bh, sd, kp, mk, tg, fa, nt) x1 x2 := by
  have hn := rel.1.1
  unfold wpX_available
  dsimp only
  refine fx_isEngine (fun he => br_f (by decide) (fx_isReachable hn rel.2.1 (fun p hp ep hR => br_f (by decide) ?_) (fun hz => br_t rfl (h0 (fun z => hz z.2))))) (fun he => br_t rfl (h0 (fun z => he z.1)))
  subst ep
  refine fx_find rel (Q := 2) (by omega) (fun sd' kp' mk' tg' fa' H hfa => ?_)
  dsimp only
  exact fx_answerAt rel (Q := 2) (by omega) H hfa hp (h1 he p hp rfl hR _ _ _ _ _)
theorem fx_busy {post : Int32 → SX → Prop} (rel : rl_X n rc o v a b wt rd cm nx bh) {x1 x2 : Int32} (h1 : cd_Eg x1 → ∀ p, p < n → x2 = nI p → ∀ sd' kp' mk' tg' fa', post (se_S (qs_An n o v a b 3 p)) ((nI n), rc, o, a, b, wt, rd, cm, nx, bh, sd', kp', mk', tg', fa', nt)) (h0 : ¬ (cd_Eg x1 ∧ ∃ p, p < n ∧ x2 = nI p) → post (-1) ((nI n), rc, o, a, b, wt, rd, cm, nx, bh, sd, kp, mk, tg, fa, nt)) : wpX_busy post ((nI n), rc, o, a, b, wt, rd, cm, nx, bh, sd, kp, mk, tg, fa, nt) x1 x2 := by
  have hn := rel.1.1
  unfold wpX_busy
  dsimp only
  refine fx_isEngine (fun he => br_f (by decide) (fx_isInCode hn (fun p hp ep => br_f (by decide) ?_) (fun hz => br_t rfl (h0 (fun z => z.2.elim (fun q hq => hz q hq.1 hq.2)))))) (fun he => br_t rfl (h0 (fun z => he z.1)))
  subst ep
  refine fx_find rel (Q := 3) (by omega) (fun sd' kp' mk' tg' fa' H hfa => ?_)
  dsimp only
  exact fx_answerAt rel (Q := 3) (by omega) H hfa hp (h1 he p hp rfl _ _ _ _ _)
theorem fx_unset {post : Int32 → SX → Prop} (rel : rl_X n rc o v a b wt rd cm nx bh) {x : Int32} (h1 : ∀ p, p < n → x = nI p → fl_R n o b p → ∀ sd' kp' mk' tg' fa', post (se_S (qs_An n o v a b 4 p)) ((nI n), rc, o, a, b, wt, rd, cm, nx, bh, sd', kp', mk', tg', fa', nt)) (h0 : ¬ (∃ p, p < n ∧ x = nI p ∧ fl_R n o b p) → post (-1) ((nI n), rc, o, a, b, wt, rd, cm, nx, bh, sd, kp, mk, tg, fa, nt)) : wpX_unset post ((nI n), rc, o, a, b, wt, rd, cm, nx, bh, sd, kp, mk, tg, fa, nt) x := by
  have hn := rel.1.1
  unfold wpX_unset
  dsimp only
  refine fx_isReachable hn rel.2.1 (fun p hp ep hR => br_f (by decide) ?_) (fun hz => br_t rfl (h0 hz))
  subst ep
  refine fx_find rel (Q := 4) (by omega) (fun sd' kp' mk' tg' fa' H hfa => ?_)
  dsimp only
  exact fx_answerAt rel (Q := 4) (by omega) H hfa hp (h1 p hp rfl hR _ _ _ _ _)
theorem fx_note {post : SX → Prop} (rel : rl_X n rc o v a b wt rd cm nx bh) {Q : Nat} (hQ : Q < 5) (H : en_H n sd kp mk tg (qs_S n o a b Q) (qs_K n o v a b Q) (qs_M n o v a b Q) (qs_T n o b Q)) (hfa : ∀ p, p < n → fa p = se_S (fun f => qs_L n o v a b Q f p)) (h : ∀ nt', (∀ p, p < n → nt' p = se_S (qs_An n o v a b Q p)) → post ((nI n), rc, o, a, b, wt, rd, cm, nx, bh, sd, kp, mk, tg, fa, nt')) : wpX_noteAnswers post ((nI n), rc, o, a, b, wt, rd, cm, nx, bh, sd, kp, mk, tg, fa, nt) (nI Q) := by
  have hn := rel.1.1
  have key : ∀ d k nt', k + d = n → (∀ p, p < k → nt' p = se_S (qs_An n o v a b Q p)) → wX_noteAnswers_2 post (nI Q) (nI n) rc (d + 1) (nI k) o a b wt rd cm nx bh sd kp mk tg fa nt' := by
    intro d
    induction d with
    | zero =>
      intro k nt' hk hh
      have e : k = n := by omega
      subst e
      exact br_t (nI_le (Nat.le_refl _) (by omega)) (h nt' hh)
    | succ d ih =>
      intro k nt' hk hh
      refine br_f (nI_ge (by omega) (by omega)) (fx_answerAt rel hQ H hfa (by omega) ⟨ix_in (by omega), ?_⟩)
      rw [ix_cl (by omega : k < 20)]
      refine nm_e (gl_i (ih (k + 1) _ (by omega) (fun p hp => ?_)))
      by_cases e : p = k
      · subst e; exact pk_us
      · rw [pk_un e]; exact hh p (by omega)
  exact ⟨_, key n 0 nt (by omega) (fun p hp => by omega)⟩
theorem fx_asNoted {post : Int32 → Prop} (rel : rl_X n rc o v a b wt rd cm nx bh) {Q : Nat} (hQ : Q < 5) (H : en_H n sd kp mk tg (qs_S n o a b Q) (qs_K n o v a b Q) (qs_M n o v a b Q) (qs_T n o b Q)) (hfa : ∀ p, p < n → fa p = se_S (fun f => qs_L n o v a b Q f p)) (hnt : ∀ p, p < n → nt p = se_S (qs_An n o v a b Q p)) (h : post 1) : wpX_answersAreAsNoted post ((nI n), rc, o, a, b, wt, rd, cm, nx, bh, sd, kp, mk, tg, fa, nt) (nI Q) := by
  have hn := rel.1.1
  have key : ∀ d k, k + d = n → wX_answersAreAsNoted_2 post (nI Q) (nI n) rc o a b wt rd cm nx bh sd kp mk tg fa nt (d + 1) (nI k) := by
    intro d
    induction d with
    | zero =>
      intro k hk
      have e : k = n := by omega
      subst e
      exact br_t (nI_le (Nat.le_refl _) (by omega)) h
    | succ d ih =>
      intro k hk
      refine br_f (nI_ge (by omega) (by omega)) (fx_answerAt rel hQ H hfa (by omega) ⟨ix_in (by omega), ?_⟩)
      rw [ix_cl (by omega : k < 20)]
      exact br_t (hnt k (by omega)).symm (gl_i (ih (k + 1) (by omega)))
  exact ⟨_, key n 0 (by omega)⟩
theorem fx_agree {post : Int32 → SX → Prop} (rel : rl_X n rc o v a b wt rd cm nx bh) {x1 x2 : Int32} (h1 : cd_Eg x1 → cd_Eg x2 → ∀ sd' kp' mk' tg' fa' nt', post 1 ((nI n), rc, o, a, b, wt, rd, cm, nx, bh, sd', kp', mk', tg', fa', nt')) (h0 : ¬ (cd_Eg x1 ∧ cd_Eg x2) → post 0 ((nI n), rc, o, a, b, wt, rd, cm, nx, bh, sd, kp, mk, tg, fa, nt)) : wpX_agree post ((nI n), rc, o, a, b, wt, rd, cm, nx, bh, sd, kp, mk, tg, fa, nt) x1 x2 := by
  unfold wpX_agree
  dsimp only
  refine fx_isEngine (fun he => br_f (by decide) (fx_isEngine (fun hf => br_f (by decide) ?_) (fun hf => br_t rfl (h0 (fun z => hf z.2))))) (fun he => br_t rfl (h0 (fun z => he z.1)))
  have key : ∀ d k sd' kp' mk' tg' fa' nt', k + d = 4 → wX_agree_20 post x1 x2 (d + 1) (nI k) (nI n) rc o a b wt rd cm nx bh sd' kp' mk' tg' fa' nt' := by
    intro d
    induction d with
    | zero =>
      intro k sd' kp' mk' tg' fa' nt' hk
      have e : k = 4 := by omega
      subst e
      exact br_t (nI_lt (a := 3) (b := 4) (by omega) (by omega)) (h1 he hf _ _ _ _ _ _)
    | succ d ih =>
      intro k sd' kp' mk' tg' fa' nt' hk
      refine br_f (nI_nlt (a := 3) (by omega) (by omega)) (fx_find rel (Q := k) (by omega) (fun sd1 kp1 mk1 tg1 fa1 H1 hfa1 => ?_))
      dsimp only
      refine fx_note rel (by omega) H1 hfa1 (fun nt1 hnt1 => ?_)
      dsimp only
      refine fx_find rel (Q := k) (by omega) (fun sd2 kp2 mk2 tg2 fa2 H2 hfa2 => ?_)
      dsimp only
      exact fx_asNoted rel (by omega) H2 hfa2 hnt1 (br_f (by decide) (gl_i (ih (k + 1) _ _ _ _ _ _ (by omega))))
  exact ⟨_, key 4 0 sd kp mk tg fa nt (by omega)⟩
theorem fx_before {post : Int32 → Prop} (rel : rl_X n rc o v a b wt rd cm nx bh) {x : Int32} (h1 : ∀ p, p < n → x = nI p → fl_R n o b p → post (se_S (fun q => q < n ∧ fl_Bf n o b q p))) (h0 : ¬ (∃ p, p < n ∧ x = nI p ∧ fl_R n o b p) → post (-1)) : wpX_before post ((nI n), rc, o, a, b, wt, rd, cm, nx, bh, sd, kp, mk, tg, fa, nt) x := by
  have hn := rel.1.1
  have hB := rel.2.2.2.2.2.2
  unfold wpX_before
  dsimp only
  refine fx_isReachable hn rel.2.1 (fun p hp ep hR => br_f (by decide) ?_) (fun hz => br_t rfl (h0 hz))
  subst ep
  refine gl_pick (fun f x y => wX_before_14 post (nI p) (nI n) rc o a b wt rd cm nx bh sd kp mk tg fa nt f x y) n (fun q => fl_Bf n o b q p) post (by omega) ?_ ?_ (h1 p hp rfl hR)
  · intro f x h
    exact br_t (nI_le (Nat.le_refl _) (by omega)) h
  · intro f k y hk h0 h1
    refine br_f (nI_ge hk (by omega)) ⟨ix_in (by omega), ?_⟩
    rw [ix_cl (by omega : k < 20)]
    exact fx_has (by omega) (hB k hk) (fun hb => br_f (by decide) (nm_e (gl_i (h1 hb.2)))) (fun hb => br_t rfl (gl_i (h0 (fun z => hb ⟨hR, z⟩))))
theorem fx_canEnd {post : Int32 → Prop} (rel : rl_X n rc o v a b wt rd cm nx bh) {p : Nat} (hp : p < n) {y : Int32} {C : Nat → Prop} (hC : y = se_S C) (h1 : fl_End n o b C p → post 1) (h0 : ¬ fl_End n o b C p → post 0) : wpX_canEnd post ((nI n), rc, o, a, b, wt, rd, cm, nx, bh, sd, kp, mk, tg, fa, nt) (nI p) y := by
  have hn := rel.1.1
  have hN := rel.2.2.2.2.2.1
  unfold wpX_canEnd
  dsimp only
  refine fx_ways hn hN rfl (by omega) hC ?_
  rw [cd_spi hp]
  exact fx_has (p := 20) (by omega) rfl (fun z => ⟨nb_1, h1 z⟩) (fun z => ⟨nb_0, h0 z⟩)
theorem fx_after {post : Int32 → Prop} (rel : rl_X n rc o v a b wt rd cm nx bh) {x : Int32} (h1 : ∀ p, p < n → x = nI p → fl_End n o b (fun _ => False) p → post (se_S (fun q => q < n ∧ ¬ fl_End n o b (fun j => j = q) p))) (h0 : ¬ (∃ p, p < n ∧ x = nI p ∧ fl_End n o b (fun _ => False) p) → post (-1)) : wpX_after post ((nI n), rc, o, a, b, wt, rd, cm, nx, bh, sd, kp, mk, tg, fa, nt) x := by
  have hn := rel.1.1
  unfold wpX_after
  dsimp only
  refine fx_isInCode hn (fun p hp ep => br_f (by decide) ?_) (fun hz => br_t rfl (h0 (fun z => z.elim (fun q hq => hz q hq.1 hq.2.1))))
  subst ep
  refine fx_canEnd rel hp se_0 (fun hE => br_f (by decide) ?_) (fun hE => br_t rfl (h0 ?_))
  · refine gl_pick (fun f x y => wX_after_23 post (nI p) (nI n) rc o a b wt rd cm nx bh sd kp mk tg fa nt f x y) n (fun q => ¬ fl_End n o b (fun j => j = q) p) post (by omega) ?_ ?_ (h1 p hp rfl hE)
    · intro f x h
      exact br_t (nI_le (Nat.le_refl _) (by omega)) h
    · intro f k y hk h0 h1
      exact br_f (nI_ge hk (by omega)) (fx_canEnd rel hp (se_shl (by omega)) (fun hK => br_f (by decide) (gl_i (h0 (fun z => z hK)))) (fun hK => br_t rfl (nm_e (gl_i (h1 hK)))))
  · rintro ⟨q, hq, e, z⟩
    have := (nI_eq (by omega) (by omega)).mp e
    subst this
    exact hE z
theorem fx_frontierOf {post : Int32 → Prop} (rel : rl_X n rc o v a b wt rd cm nx bh) {p : Nat} (hp : p < n) (h : post (se_S (fl_Fr n o b p))) : wpX_frontierOf post ((nI n), rc, o, a, b, wt, rd, cm, nx, bh, sd, kp, mk, tg, fa, nt) (nI p) := by
  obtain ⟨ok, hR, hW, hRd, hC, hN, hB⟩ := rel
  have hn := ok.1
  have hi : vp_in (nI p) 20 := ix_in (by omega)
  unfold wpX_frontierOf
  dsimp only
  rw [ix_cl (by omega : p < 20)]
  refine ⟨hi, fx_onward hn hN (hB p hp) ⟨hi, ?_⟩⟩
  have e : se_S (fun i => ∃ r, r < n ∧ (fl_R n o b r ∧ fl_Bf n o b p r) ∧ cd_G n o b r i) &&& rc &&& ((bh p ^^^ (-1)) ||| ((1 : Int32) <<< (nI p &&& 31))) = se_S (fl_Fr n o b p) := by
    rw [hB p hp, hR, se_not, se_shl (by omega), se_or, se_and, se_and]
    refine se_ext (fun i _ => ⟨fun z => ⟨z.1.1, fun w => ?_, z.1.2⟩, fun z => ⟨⟨z.1, z.2.2⟩, ?_⟩⟩)
    · exact z.2.elim (fun y => y ⟨z.1.2, w.2.2⟩) (fun y => w.2.1 y)
    · by_cases e : i = p
      · exact Or.inr e
      · exact Or.inl (fun w => z.2.1 ⟨z.2.2.2, e, w.2⟩)
  rw [e]; exact h
theorem fx_frontier {post : Int32 → Prop} (rel : rl_X n rc o v a b wt rd cm nx bh) {x : Int32} (h1 : ∀ p, p < n → x = nI p → fl_R n o b p → post (se_S (fl_Fr n o b p))) (h0 : ¬ (∃ p, p < n ∧ x = nI p ∧ fl_R n o b p) → post (-1)) : wpX_frontier post ((nI n), rc, o, a, b, wt, rd, cm, nx, bh, sd, kp, mk, tg, fa, nt) x := by
  have hn := rel.1.1
  unfold wpX_frontier
  dsimp only
  refine fx_isReachable hn rel.2.1 (fun p hp ep hR => br_f (by decide) ?_) (fun hz => br_t rfl (h0 hz))
  subst ep
  exact fx_frontierOf rel hp (h1 p hp rfl hR)
theorem fx_frontiersOf {post : Int32 → Prop} (rel : rl_X n rc o v a b wt rd cm nx bh) {x : Int32} {P : Nat → Prop} (hx : x = se_S P) (h : post (se_S (fun i => ∃ p, p < n ∧ P p ∧ fl_Fr n o b p i))) : wpX_frontiersOf post ((nI n), rc, o, a, b, wt, rd, cm, nx, bh, sd, kp, mk, tg, fa, nt) x := by
  have hn := rel.1.1
  unfold wpX_frontiersOf
  dsimp only
  refine gl_un (fun f y z => wX_frontiersOf_4 post x (nI n) rc o a b wt rd cm nx bh sd kp mk tg fa nt f y z) n P (fun p => fl_Fr n o b p) post ?_ ?_ h
  · intro f x h
    exact br_t (nI_le (Nat.le_refl _) (by omega)) h
  · intro f k y hk h0 h1
    exact br_f (nI_ge hk (by omega)) (fx_has (by omega) hx (fun hc => br_f (by decide) (fx_frontierOf rel hk (fun z ez => gl_i (h1 hc z ez)))) (fun hc => br_t rfl (gl_i (h0 hc))))
theorem fx_joins {post : Int32 → Prop} (rel : rl_X n rc o v a b wt rd cm nx bh) {x : Int32} (h1 : ¬ x < 0 → ¬ 5 < x → post (se_S (lf_L (fl_JE n o b) (fl_JA n o v b x)))) (h0 : ¬ (¬ x < 0 ∧ ¬ 5 < x) → post (-1)) : wpX_joins post ((nI n), rc, o, a, b, wt, rd, cm, nx, bh, sd, kp, mk, tg, fa, nt) x := by
  have ok := rel.1
  have hn := ok.1
  unfold wpX_joins
  dsimp only
  refine fx_isVariable (fun g1 g2 => br_f (by decide) ?_) (fun g => br_t rfl (h0 (fun z => g ⟨z.1, ix_56.mpr z.2⟩)))
  have g2' := ix_56.mp g2
  have hh := h1 g1 g2'
  obtain ⟨t, ht, et⟩ := ix_v5 ⟨g1, g2'⟩
  refine fx_writersOf hn rel.2.2.1 (V := fun i => i = t) (by rw [et, se_shl (by omega)]) (nm_r (e' := se_S (fl_JB n o v b x)) ?_ ?_)
  · rw [se_1, rel.2.1, se_or, se_and]
    refine se_ext (fun p _ => ⟨fun z => ⟨z.1.imp (fun w => ?_) (fun w => ⟨fl_Rn z.2, w⟩), z.2⟩, fun z => ⟨z.1.imp (fun w => ?_) (fun w => w.2), z.2⟩⟩)
    · obtain ⟨hp, i, hi, hw, ei⟩ := w
      subst ei
      exact ⟨hp, hw.1, hw.2.trans et.symm⟩
    · exact ⟨w.1, t, by omega, ⟨w.2.1, w.2.2.trans et⟩, rfl⟩
  · have hg := gl_clo (fun f y z => wX_joins_30 post (se_S (fl_JB n o v b x)) (nI n) rc o a b wt rd cm nx bh sd kp mk tg fa nt f y z) (fl_JE n o b) (fl_JA n o v b x) post (fun _ => False) ?_ (fun i z => z.elim) ?_ ?_ hh
    · rw [← se_0] at hg
      exact hg
    · intro i z
      have := (fl_JR z).2
      omega
    · intro g x h
      exact br_t (nI_lt (a := 20) (b := 21) (by omega) (by omega)) h
    · intro g j P hj hP h0P hh
      refine br_f (nI_nlt (a := 20) (by omega) (by omega)) (fx_frontiersOf rel (se_or _ _) (nm_r (e' := se_S (fun i => P i ∨ fl_JA n o v b x i ∨ ∃ q, P q ∧ fl_JE n o b q i)) ?_ ?_))
      · rw [se_or]
        refine se_ext (fun i _ => or_congr Iff.rfl ⟨?_, ?_⟩)
        · rintro ⟨p, hp, z | z, w⟩
          · exact Or.inl ⟨p, hp, z, w⟩
          · exact Or.inr ⟨p, z, hp, w⟩
        · rintro (⟨p, hp, z, w⟩ | ⟨p, z, hp, w⟩)
          · exact ⟨p, hp, Or.inl z, w⟩
          · exact ⟨p, hp, Or.inr z, w⟩
      · have g := hh _ rfl
        exact ⟨g.1, fun z => gl_i (g.2 z)⟩
theorem fx_loop {post : Int32 → Prop} (rel : rl_X n rc o v a b wt rd cm nx bh) {x : Int32} (h1 : ∀ p, p < n → x = nI p → fl_R n o b p → post (se_S (fl_Lp n o b p))) (h0 : ¬ (∃ p, p < n ∧ x = nI p ∧ fl_R n o b p) → post (-1)) : wpX_loop post ((nI n), rc, o, a, b, wt, rd, cm, nx, bh, sd, kp, mk, tg, fa, nt) x := by
  have ok := rel.1
  have hn := ok.1
  have hR0 := rel.2.1
  have hN := rel.2.2.2.2.2.1
  have hB := rel.2.2.2.2.2.2
  unfold wpX_loop
  dsimp only
  refine fx_isReachable hn rel.2.1 (fun p hp ep hR => br_f (by decide) ⟨?_, ?_⟩) (fun hz => br_t rfl (h0 hz))
  · rw [ep]; exact ix_in (by omega)
  subst ep
  have hh := h1 p hp rfl hR
  rw [ix_cl (by omega : p < 20)]
  refine fx_goingOnAt hn hN (by omega) (nm_r (e' := se_S (fl_Bk n o b p)) ?_ ?_)
  · rw [hB p hp, se_and]
    exact se_ext (fun r _ => ⟨fun z => ⟨z.2.1, z.1.1, z.2.2, z.1.2⟩, fun z => ⟨⟨z.2.1, z.2.2.2⟩, z.1, z.2.2.1⟩⟩)
  · by_cases hBk : ∃ r, fl_Bk n o b p r
    · have hnz : ¬ se_S (fl_Bk n o b p) = 0 := se_nz.mpr (hBk.elim (fun r hr => ⟨r, by have := hr.1; omega, hr⟩))
      refine br_f hnz (nm_r (se_shl (by omega)) ?_)
      refine gl_col (fun f x y => wX_loop_36 post (nI p) (se_S (fl_Bk n o b p)) (nI n) rc o a b wt rd cm nx bh sd kp mk tg fa nt f x y) n (fun q i => (fl_R n o b q ∧ ∃ r, fl_F n o b (fun j => j = q) (fun _ => False) (fun j => j = p) r ∧ fl_Bk n o b p r) ∧ i = q) post (fun i => i = p) ?_ ?_ ?_
      · intro f x h
        exact br_t (nI_le (Nat.le_refl _) (by omega)) h
      · intro f k y hk h
        refine br_f (nI_ge hk (by omega)) (fx_ways hn hN rfl (by omega) (se_shl (by omega)) ?_)
        rw [cd_spi hk]
        refine fx_has (by omega) hR0 (fun hRk => br_f (by decide) ?_) (fun hRk => br_t rfl (gl_i (h y (se_n (fun i z => hRk z.1.1)))))
        have hb : ∀ i, fl_F n o b (fun j => j = k) (fun _ => False) (fun j => j = p) i → fl_Bk n o b p i → i < 32 := fun i _ z => by have := z.1; omega
        by_cases hm : ∃ r, fl_F n o b (fun j => j = k) (fun _ => False) (fun j => j = p) r ∧ fl_Bk n o b p r
        · exact br_f (fun z => (se_mt hb).mp z hm) (nm_e (gl_i (h _ (se_own (by omega) ⟨hRk, hm⟩))))
        · exact br_t ((se_mt hb).mpr hm) (gl_i (h y (se_n (fun i z => hm z.1.2))))
      · have e : se_S (fl_Lp n o b p) = se_S (fun i => i = p ∨ ∃ q, q < n ∧ (fl_R n o b q ∧ ∃ r, fl_F n o b (fun j => j = q) (fun _ => False) (fun j => j = p) r ∧ fl_Bk n o b p r) ∧ i = q) := by
          refine se_ext (fun i _ => ⟨fun z => z.2.imp id (fun w => ⟨i, w.1, w.2, rfl⟩), fun z => ⟨hBk, z.imp id (fun ⟨q, h1, h2, h3⟩ => ?_)⟩⟩)
          subst h3; exact ⟨h1, h2⟩
        rw [← e]; exact hh
    · have hz : se_S (fl_Bk n o b p) = 0 := se_z.mpr (fun i _ z => hBk ⟨i, z⟩)
      have e : se_S (fl_Lp n o b p) = 0 := se_z.mpr (fun i _ z => hBk z.1)
      rw [e] at hh
      exact br_t hz hh
theorem fx_needed {post : Int32 → Prop} (rel : rl_X n rc o v a b wt rd cm nx bh) (H : en_H n sd kp mk tg (qs_S n o a b 1) (qs_K n o v a b 1) (qs_M n o v a b 1) (qs_T n o b 1)) (hfa : ∀ p, p < n → fa p = se_S (fun f => qs_L n o v a b 1 f p)) {p : Nat} (hp : p < n) (h : post (se_S (fun i => ∃ q, q < n ∧ cd_G n o b p q ∧ qs_An n o v a b 1 q i))) : wpX_neededBehind post ((nI n), rc, o, a, b, wt, rd, cm, nx, bh, sd, kp, mk, tg, fa, nt) (nI p) := by
  have hn := rel.1.1
  have hN := rel.2.2.2.2.2.1
  unfold wpX_neededBehind
  dsimp only
  refine gl_un (fun f y z => wX_neededBehind_4 post (nI p) (nI n) rc o a b wt rd cm nx bh sd kp mk tg fa nt f y z) n (fun q => cd_G n o b p q) (fun q => qs_An n o v a b 1 q) post ?_ ?_ h
  · intro f x h
    exact br_t (nI_le (Nat.le_refl _) (by omega)) h
  · intro f k y hk h0 h1
    refine br_f (nI_ge hk (by omega)) ⟨ix_in (by omega), ?_⟩
    rw [ix_cl (by omega : p < 20)]
    exact fx_has (by omega) (hN p hp) (fun hc => br_f (by decide) (fx_answerAt rel (Q := 1) (by omega) H hfa hk (fun z ez => gl_i (h1 hc z ez)))) (fun hc => br_t rfl (gl_i (h0 hc)))
theorem fx_dead {post : Int32 → SX → Prop} (rel : rl_X n rc o v a b wt rd cm nx bh) (h : ∀ sd' kp' mk' tg' fa', post (se_S (fun d => d < n ∧ (cd_Wr o d ∧ ¬ fl_Us n o v a b d) ∧ fl_R n o b d)) ((nI n), rc, o, a, b, wt, rd, cm, nx, bh, sd', kp', mk', tg', fa', nt)) : wpX_dead post ((nI n), rc, o, a, b, wt, rd, cm, nx, bh, sd, kp, mk, tg, fa, nt) := by
  have ok := rel.1
  have hn := ok.1
  have hR := rel.2.1
  have hW := rel.2.2.1
  unfold wpX_dead
  dsimp only
  refine fx_find rel (Q := 1) (by omega) (fun sd' kp' mk' tg' fa' H hfa => ?_)
  dsimp only
  refine gl_pick (fun f x y => wX_dead_10 post (nI n) rc o a b wt rd cm nx bh sd' kp' mk' tg' fa' nt f x y) n (fun d => (cd_Wr o d ∧ ¬ fl_Us n o v a b d) ∧ fl_R n o b d) (fun r => post r ((nI n), rc, o, a, b, wt, rd, cm, nx, bh, sd', kp', mk', tg', fa', nt)) (by omega) ?_ ?_ (h _ _ _ _ _)
  · intro f x h
    exact br_t (nI_le (Nat.le_refl _) (by omega)) h
  · intro f k y hk h0 h1
    refine br_f (nI_ge hk (by omega)) (fx_needed rel H hfa hk (fx_has (by omega) hR (fun hRk => br_f (by decide) ⟨ix_in (by omega), ?_⟩) (fun hRk => br_t rfl (gl_i (h0 (fun z => hRk z.2))))))
    rw [ix_cl (by omega : k < 20), hW k hk]
    refine br_c (fun hz => gl_i (h0 (fun z => ?_))) (fun hz => ⟨ix_in (by omega), ?_⟩)
    · obtain ⟨i, hi, w⟩ := (cd_w2 ok hk).mpr z.1.1
      exact se_z.mp hz i hi w
    · have hw : cd_Wr o k := (cd_w2 ok hk).mp (se_nz.mp hz)
      have hu : (∃ i, i < 32 ∧ (∃ q, q < n ∧ cd_G n o b k q ∧ qs_An n o v a b 1 q i) ∧ cd_Wt o v k i) ↔ fl_Us n o v a b k := by
        constructor
        · rintro ⟨i, hi, ⟨q, hq, hG, hA⟩, hwt⟩
          obtain ⟨h6, hl⟩ := (ma_1 ok hq hi).mp hA
          exact ⟨q, hq, hG, i, h6, hwt.2, hl⟩
        · rintro ⟨q, hq, hG, i, h6, ev, hl⟩
          exact ⟨i, by omega, ⟨q, hq, hG, (ma_1 ok hq (by omega)).mpr ⟨h6, hl⟩⟩, hw, ev⟩
      refine br_c (fun hm => nm_e (gl_i (h1 ⟨⟨hw, fun z => se_m32.mp hm (hu.mpr z)⟩, hRk⟩))) (fun hm => gl_i (h0 (fun z => z.1.2 (hu.mp (Classical.byContradiction fun w => hm (se_m32.mpr w))))))
end
end
section
/-! the owed statements -/
def i_Rel (_ : Nat) (u : SX) (v : SY) : Prop := ∃ (n : Nat) (rc : Int32) (o w a b wt rd cm nx bh sd kp mk tg fa nt : Nat → Int32), u = ((nI n), rc, o, a, b, wt, rd, cm, nx, bh, sd, kp, mk, tg, fa, nt) ∧ v = ((nI n), o, w, a, b) ∧ rl_X n rc o w a b wt rd cm nx bh
theorem rl_i {j n : Nat} {rc : Int32} {o w a b wt rd cm nx bh sd kp mk tg fa nt : Nat → Int32} (rel : rl_X n rc o w a b wt rd cm nx bh) : i_Rel j ((nI n), rc, o, a, b, wt, rd, cm, nx, bh, sd, kp, mk, tg, fa, nt) ((nI n), o, w, a, b) := ⟨n, rc, o, w, a, b, wt, rd, cm, nx, bh, sd, kp, mk, tg, fa, nt, rfl, rfl, rel⟩
theorem rl_q {n p q : Nat} {x : Int32} (hn : n ≤ 20) (hp : p < n) (hq : q < n) (ep : x = nI p) (eq : x = nI q) : q = p := by
  rw [ep] at eq
  exact ((nI_eq (by omega) (by omega)).mp eq).symm
theorem i_up {k : Nat} {u : SX} {v : SY} (h : i_Rel k u v) : i_Rel (k + 5) u v := h
theorem i_vc0 : wpX_init (fun u => wpY_init (fun v => i_Rel 0 u v)) := by
  refine ⟨0, 0, fun _ => 0, fun _ => 0, fun _ => 0, fun _ => 0, fun _ => 0, fun _ => 0, fun _ => 0, fun _ => 0, fun _ => 0, fun _ => 0, fun _ => 0, fun _ => 0, fun _ => 0, fun _ => 0, fun _ => 0, rfl, rfl, ?_⟩
  refine ⟨⟨by omega, fun p hp => by omega⟩, ?_, fun p hp => by omega, fun p hp => by omega, fun p hp => by omega, fun p hp => by omega, fun p hp => by omega⟩
  exact (se_z.mpr (fun i _ z => by have := z.2; omega)).symm
theorem i_vc_emit {k : Nat} {u : SX} {v : SY} (I : i_Rel k u v) (hk : k + 5 ≤ 2560) (v1 : Int32) (v2 : Int32) (v3 : Int32) (v4 : Int32) : wpX_emit (fun r u' => wpY_emit (fun r' v' => r' = r ∧ i_Rel (k + 5) u' v') v v1 v2 v3 v4) u v1 v2 v3 v4 := by
  obtain ⟨n, rc, o, w, a, b, wt, rd, cm, nx, bh, sd, kp, mk, tg, fa, nt, rfl, rfl, rel⟩ := I
  have hn := rel.1.1
  refine fx_emit (fun hV => ?_) (fun hV => fy_emit (fun h => absurd h hV) (fun _ => ⟨rfl, rl_i rel⟩))
  by_cases hlt : n < 20
  · refine fx_e85 rel hV hlt (fun rc' wt' rd' cm' nx' bh' rel' => fy_emit (fun _ => ?_) (fun h => absurd hV h))
    have hi : vp_in (nI n) 20 := ix_in hlt
    unfold wY_emit_83
    rw [ix_cl hlt]
    refine br_f (by decide) (br_t (nI_lt (b := 20) hlt (by omega)) ⟨hi, nm_e ⟨hi, nm_e ⟨hi, nm_e ⟨hi, nm_e (nm_r (nI_1 n) ⟨?_, rl_i rel'⟩)⟩⟩⟩⟩)
    exact nI_pred n
  · have hge : ¬ nI n < 20 := nI_nlt (b := 20) (by omega) (by omega)
    refine br_f hge (fy_emit (fun _ => ?_) (fun h => absurd hV h))
    exact br_f (by decide) (br_f hge ⟨rfl, rl_i rel⟩)
theorem rl_drop {n : Nat} {rc : Int32} {o w a b wt rd cm nx bh nx' bh' : Nat → Int32} (rel : rl_X (n + 1) rc o w a b wt rd cm nx bh) (h1 : ∀ p, p < n → nx' p = se_S (cd_G n o b p)) (h2 : ∀ p, p < n → bh' p = se_S (fun i => fl_R n o b i ∧ fl_Bf n o b p i)) : rl_X n (se_S (fl_R n o b)) o w a b wt rd cm nx' bh' := by
  obtain ⟨ok, hR, hW, hRd, hC, hN, hB⟩ := rel
  exact ⟨⟨by have := ok.1; omega, fun p hp => ok.2 p (by omega)⟩, rfl, fun p hp => hW p (by omega), fun p hp => hRd p (by omega), fun p hp => hC p (by omega), h1, h2⟩
theorem i_vc_drop {k : Nat} {u : SX} {v : SY} (I : i_Rel k u v) (hk : k + 5 ≤ 2560) : wpX_drop (fun r u' => wpY_drop (fun r' v' => r' = r ∧ i_Rel (k + 5) u' v') v) u := by
  obtain ⟨n, rc, o, w, a, b, wt, rd, cm, nx, bh, sd, kp, mk, tg, fa, nt, rfl, rfl, rel⟩ := I
  have hn := rel.1.1
  cases n with
  | zero => exact br_t nI_0 (br_t nI_0 ⟨rfl, rl_i rel⟩)
  | succ m =>
    have hne : ¬ nI (m + 1) = 0 := nI_ne0 (by omega) (by omega)
    have ok' : cd_Ok m o w a b := ⟨by omega, fun p hp => rel.1.2 p (by omega)⟩
    refine br_f hne (nm_r (nI_pred m) (fx_survey ok' (fun nx' bh' h1 h2 => ?_)))
    exact br_f hne (nm_r (nI_pred m) ⟨rfl, rl_i (rl_drop rel h1 h2)⟩)
theorem i_vc_length {k : Nat} {u : SX} {v : SY} (I : i_Rel k u v) (hk : k + 5 ≤ 2560) : wpX_length (fun r => wpY_length (fun r' => r' = r ∧ i_Rel (k + 5) u v) v) u := by
  obtain ⟨n, rc, o, w, a, b, wt, rd, cm, nx, bh, sd, kp, mk, tg, fa, nt, rfl, rfl, rel⟩ := I
  exact ⟨rfl, rl_i rel⟩
theorem i_vc_reachable {k : Nat} {u : SX} {v : SY} (I : i_Rel k u v) (hk : k + 5 ≤ 2560) : wpX_reachable (fun r => wpY_reachable (fun r' => r' = r ∧ i_Rel (k + 5) u v) v) u := by
  obtain ⟨n, rc, o, w, a, b, wt, rd, cm, nx, bh, sd, kp, mk, tg, fa, nt, rfl, rfl, rel⟩ := I
  unfold wpX_reachable
  dsimp only
  exact fy_reachable rel.1 ⟨rel.2.1.symm, rl_i rel⟩
theorem i_vc_reaching {k : Nat} {u : SX} {v : SY} (I : i_Rel k u v) (hk : k + 5 ≤ 2560) (v1 : Int32) (v2 : Int32) : wpX_reaching (fun r u' => wpY_reaching (fun r' => r' = r ∧ i_Rel (k + 5) u' v) v v1 v2) u v1 v2 := by
  obtain ⟨n, rc, o, w, a, b, wt, rd, cm, nx, bh, sd, kp, mk, tg, fa, nt, rfl, rfl, rel⟩ := I
  have ok := rel.1
  refine fx_reaching rel (fun he p hp ep hR sd' kp' mk' tg' fa' => fy_reaching ok (fun _ q hq eq _ => ⟨?_, rl_i rel⟩) (fun hz => absurd ⟨he, p, hp, ep, hR⟩ hz)) (fun hz => fy_reaching ok (fun he q hq eq hR => absurd ⟨he, q, hq, eq, hR⟩ hz) (fun _ => ⟨rfl, rl_i rel⟩))
  rw [rl_q ok.1 hp hq ep eq]
  exact se_ext (fun i _ => (ma_0 ok hp).symm)
theorem i_vc_live {k : Nat} {u : SX} {v : SY} (I : i_Rel k u v) (hk : k + 5 ≤ 2560) (v1 : Int32) (v2 : Int32) : wpX_live (fun r u' => wpY_live (fun r' => r' = r ∧ i_Rel (k + 5) u' v) v v1 v2) u v1 v2 := by
  obtain ⟨n, rc, o, w, a, b, wt, rd, cm, nx, bh, sd, kp, mk, tg, fa, nt, rfl, rfl, rel⟩ := I
  have ok := rel.1
  refine fx_live rel (fun he p hp ep sd' kp' mk' tg' fa' => fy_live ok (fun _ q hq eq => ⟨?_, rl_i rel⟩) (fun hz => absurd ⟨he, p, hp, ep⟩ hz)) (fun hz => fy_live ok (fun he q hq eq => absurd ⟨he, q, hq, eq⟩ hz) (fun _ => ⟨rfl, rl_i rel⟩))
  rw [rl_q ok.1 hp hq ep eq]
  exact se_ext (fun i hi => (ma_1 ok hp hi).symm)
theorem i_vc_available {k : Nat} {u : SX} {v : SY} (I : i_Rel k u v) (hk : k + 5 ≤ 2560) (v1 : Int32) (v2 : Int32) : wpX_available (fun r u' => wpY_available (fun r' => r' = r ∧ i_Rel (k + 5) u' v) v v1 v2) u v1 v2 := by
  obtain ⟨n, rc, o, w, a, b, wt, rd, cm, nx, bh, sd, kp, mk, tg, fa, nt, rfl, rfl, rel⟩ := I
  have ok := rel.1
  refine fx_available rel (fun he p hp ep hR sd' kp' mk' tg' fa' => fy_available ok (fun _ q hq eq _ => ⟨?_, rl_i rel⟩) (fun hz => absurd ⟨he, p, hp, ep, hR⟩ hz)) (fun hz => fy_available ok (fun he q hq eq hR => absurd ⟨he, q, hq, eq, hR⟩ hz) (fun _ => ⟨rfl, rl_i rel⟩))
  rw [rl_q ok.1 hp hq ep eq]
  exact se_ext (fun i _ => (ma_2 ok hp).symm)
theorem i_vc_busy {k : Nat} {u : SX} {v : SY} (I : i_Rel k u v) (hk : k + 5 ≤ 2560) (v1 : Int32) (v2 : Int32) : wpX_busy (fun r u' => wpY_busy (fun r' => r' = r ∧ i_Rel (k + 5) u' v) v v1 v2) u v1 v2 := by
  obtain ⟨n, rc, o, w, a, b, wt, rd, cm, nx, bh, sd, kp, mk, tg, fa, nt, rfl, rfl, rel⟩ := I
  have ok := rel.1
  refine fx_busy rel (fun he p hp ep sd' kp' mk' tg' fa' => fy_busy ok (fun _ q hq eq => ⟨?_, rl_i rel⟩) (fun hz => absurd ⟨he, p, hp, ep⟩ hz)) (fun hz => fy_busy ok (fun he q hq eq => absurd ⟨he, q, hq, eq⟩ hz) (fun _ => ⟨rfl, rl_i rel⟩))
  rw [rl_q ok.1 hp hq ep eq]
  exact se_ext (fun i _ => (ma_3 ok hp).symm)
theorem i_vc_agree {k : Nat} {u : SX} {v : SY} (I : i_Rel k u v) (hk : k + 5 ≤ 2560) (v1 : Int32) (v2 : Int32) : wpX_agree (fun r u' => wpY_agree (fun r' => r' = r ∧ i_Rel (k + 5) u' v) v v1 v2) u v1 v2 := by
  obtain ⟨n, rc, o, w, a, b, wt, rd, cm, nx, bh, sd, kp, mk, tg, fa, nt, rfl, rfl, rel⟩ := I
  exact fx_agree rel (fun he hf sd' kp' mk' tg' fa' nt' => fy_agree (fun _ _ => ⟨rfl, rl_i rel⟩) (fun hz => absurd ⟨he, hf⟩ hz)) (fun hz => fy_agree (fun he hf => absurd ⟨he, hf⟩ hz) (fun _ => ⟨rfl, rl_i rel⟩))
theorem i_vc_before {k : Nat} {u : SX} {v : SY} (I : i_Rel k u v) (hk : k + 5 ≤ 2560) (v1 : Int32) : wpX_before (fun r => wpY_before (fun r' => r' = r ∧ i_Rel (k + 5) u v) v v1) u v1 := by
  obtain ⟨n, rc, o, w, a, b, wt, rd, cm, nx, bh, sd, kp, mk, tg, fa, nt, rfl, rfl, rel⟩ := I
  have ok := rel.1
  refine fx_before rel (fun p hp ep hR => fy_before ok (fun q hq eq _ => ⟨?_, rl_i rel⟩) (fun hz => absurd ⟨p, hp, ep, hR⟩ hz)) (fun hz => fy_before ok (fun q hq eq hR => absurd ⟨q, hq, eq, hR⟩ hz) (fun _ => ⟨rfl, rl_i rel⟩))
  rw [rl_q ok.1 hp hq ep eq]
theorem i_vc_after {k : Nat} {u : SX} {v : SY} (I : i_Rel k u v) (hk : k + 5 ≤ 2560) (v1 : Int32) : wpX_after (fun r => wpY_after (fun r' => r' = r ∧ i_Rel (k + 5) u v) v v1) u v1 := by
  obtain ⟨n, rc, o, w, a, b, wt, rd, cm, nx, bh, sd, kp, mk, tg, fa, nt, rfl, rfl, rel⟩ := I
  have ok := rel.1
  refine fx_after rel (fun p hp ep hR => fy_after ok (fun q hq eq _ => ⟨?_, rl_i rel⟩) (fun hz => absurd ⟨p, hp, ep, hR⟩ hz)) (fun hz => fy_after ok (fun q hq eq hR => absurd ⟨q, hq, eq, hR⟩ hz) (fun _ => ⟨rfl, rl_i rel⟩))
  rw [rl_q ok.1 hp hq ep eq]
theorem i_vc_frontier {k : Nat} {u : SX} {v : SY} (I : i_Rel k u v) (hk : k + 5 ≤ 2560) (v1 : Int32) : wpX_frontier (fun r => wpY_frontier (fun r' => r' = r ∧ i_Rel (k + 5) u v) v v1) u v1 := by
  obtain ⟨n, rc, o, w, a, b, wt, rd, cm, nx, bh, sd, kp, mk, tg, fa, nt, rfl, rfl, rel⟩ := I
  have ok := rel.1
  refine fx_frontier rel (fun p hp ep hR => fy_frontier ok (fun q hq eq _ => ⟨?_, rl_i rel⟩) (fun hz => absurd ⟨p, hp, ep, hR⟩ hz)) (fun hz => fy_frontier ok (fun q hq eq hR => absurd ⟨q, hq, eq, hR⟩ hz) (fun _ => ⟨rfl, rl_i rel⟩))
  rw [rl_q ok.1 hp hq ep eq]
theorem i_vc_joins {k : Nat} {u : SX} {v : SY} (I : i_Rel k u v) (hk : k + 5 ≤ 2560) (v1 : Int32) : wpX_joins (fun r => wpY_joins (fun r' => r' = r ∧ i_Rel (k + 5) u v) v v1) u v1 := by
  obtain ⟨n, rc, o, w, a, b, wt, rd, cm, nx, bh, sd, kp, mk, tg, fa, nt, rfl, rfl, rel⟩ := I
  have ok := rel.1
  exact fx_joins rel (fun g1 g2 => fy_joins ok (fun _ _ => ⟨rfl, rl_i rel⟩) (fun hz => absurd ⟨g1, g2⟩ hz)) (fun hz => fy_joins ok (fun g1 g2 => absurd ⟨g1, g2⟩ hz) (fun _ => ⟨rfl, rl_i rel⟩))
theorem i_vc_loop {k : Nat} {u : SX} {v : SY} (I : i_Rel k u v) (hk : k + 5 ≤ 2560) (v1 : Int32) : wpX_loop (fun r => wpY_loop (fun r' => r' = r ∧ i_Rel (k + 5) u v) v v1) u v1 := by
  obtain ⟨n, rc, o, w, a, b, wt, rd, cm, nx, bh, sd, kp, mk, tg, fa, nt, rfl, rfl, rel⟩ := I
  have ok := rel.1
  refine fx_loop rel (fun p hp ep hR => fy_loop ok (fun q hq eq _ => ⟨?_, rl_i rel⟩) (fun hz => absurd ⟨p, hp, ep, hR⟩ hz)) (fun hz => fy_loop ok (fun q hq eq hR => absurd ⟨q, hq, eq, hR⟩ hz) (fun _ => ⟨rfl, rl_i rel⟩))
  rw [rl_q ok.1 hp hq ep eq]
theorem i_vc_unset {k : Nat} {u : SX} {v : SY} (I : i_Rel k u v) (hk : k + 5 ≤ 2560) (v1 : Int32) : wpX_unset (fun r u' => wpY_unset (fun r' => r' = r ∧ i_Rel (k + 5) u' v) v v1) u v1 := by
  obtain ⟨n, rc, o, w, a, b, wt, rd, cm, nx, bh, sd, kp, mk, tg, fa, nt, rfl, rfl, rel⟩ := I
  have ok := rel.1
  refine fx_unset rel (fun p hp ep hR sd' kp' mk' tg' fa' => fy_unset ok (fun q hq eq _ => ⟨?_, rl_i rel⟩) (fun hz => absurd ⟨p, hp, ep, hR⟩ hz)) (fun hz => fy_unset ok (fun q hq eq hR => absurd ⟨q, hq, eq, hR⟩ hz) (fun _ => ⟨rfl, rl_i rel⟩))
  rw [rl_q ok.1 hp hq ep eq]
  exact se_ext (fun i _ => (ma_4 ok hp).symm)
theorem i_vc_dead {k : Nat} {u : SX} {v : SY} (I : i_Rel k u v) (hk : k + 5 ≤ 2560) : wpX_dead (fun r u' => wpY_dead (fun r' => r' = r ∧ i_Rel (k + 5) u' v) v) u := by
  obtain ⟨n, rc, o, w, a, b, wt, rd, cm, nx, bh, sd, kp, mk, tg, fa, nt, rfl, rfl, rel⟩ := I
  exact fx_dead rel (fun sd' kp' mk' tg' fa' => fy_dead rel.1 ⟨rfl, rl_i rel⟩)
end
