/-! bits of Int32 (rows bt, b_*, s_l out of kit/rows/BITS) and sets se_S P of numbers below 32 -/
def bt (x : Int32) (i : Nat) : Bool := x.toBitVec.getLsbD i
theorem b_ext {x y : Int32} (h : ∀ i, i < 32 → bt x i = bt y i) : x = y := Int32.toBitVec_inj.mp (BitVec.eq_of_getLsbD_eq (fun i hi => h i hi))
theorem b_or (x y : Int32) (i : Nat) : bt (x ||| y) i = (bt x i || bt y i) := by unfold bt; rw [Int32.toBitVec_or, BitVec.getLsbD_or]
theorem b_and (x y : Int32) (i : Nat) : bt (x &&& y) i = (bt x i && bt y i) := by unfold bt; rw [Int32.toBitVec_and, BitVec.getLsbD_and]
theorem b_xor (x y : Int32) (i : Nat) : bt (x ^^^ y) i = (bt x i ^^ bt y i) := by unfold bt; rw [Int32.toBitVec_xor, BitVec.getLsbD_xor]
theorem b_big {x : Int32} {i : Nat} (h : 32 ≤ i) : bt x i = false := BitVec.getLsbD_of_ge _ _ h
theorem b_m1 : ∀ i, i < 32 → bt (-1) i = true := by decide +kernel
theorem b_0 (i : Nat) : bt 0 i = false := BitVec.getLsbD_zero
theorem b_1 : ∀ i, i < 32 → bt 1 i = decide (i = 0) := by decide +kernel
theorem s_l : ∀ n, n < 32 → ((nI n &&& 31).toBitVec.smod 32).toNat = n := by decide +kernel
theorem b_shl (n : Nat) (hn : n < 32) (x : Int32) {i : Nat} (hi : i < 32) : bt (x <<< (nI n &&& 31)) i = (decide (n ≤ i) && bt x (i - n)) := by
  unfold bt
  rw [Int32.toBitVec_shiftLeft]
  show (x.toBitVec <<< ((nI n &&& 31).toBitVec.smod 32).toNat).getLsbD i = _
  rw [s_l n hn, BitVec.getLsbD_shiftLeft]
  rcases Nat.lt_or_ge i n with h | h
  · simp [h, Nat.not_le.mpr h]
  · simp [hi, h, Nat.not_lt.mpr h]
theorem b_sshr (n : Nat) (hn : n < 32) (x : Int32) {i : Nat} (hi : i < 32) : bt (x >>> (nI n &&& 31)) i = if n + i < 32 then bt x (n + i) else bt x 31 := by
  unfold bt
  rw [Int32.toBitVec_shiftRight]
  show (x.toBitVec.sshiftRight ((nI n &&& 31).toBitVec.smod 32).toNat).getLsbD i = _
  rw [s_l n hn, BitVec.getLsbD_sshiftRight, BitVec.msb_eq_getLsbD_last]
  simp [hi]

noncomputable def se_B (P : Nat → Prop) : Nat → BitVec 32
  | 0 => 0#32
  | k + 1 => se_B P k ||| (@ite _ (P k) (Classical.propDecidable _) (BitVec.twoPow 32 k) 0#32)
noncomputable def se_S (P : Nat → Prop) : Int32 := Int32.ofBitVec (se_B P 32)

theorem se_Bg (P : Nat → Prop) : ∀ k i, (se_B P k).getLsbD i = true ↔ i < k ∧ i < 32 ∧ P i := by
  intro k
  induction k with
  | zero => intro i; simp [se_B]
  | succ k ih =>
    intro i
    rw [se_B, BitVec.getLsbD_or, Bool.or_eq_true, ih]
    by_cases h : P k
    · rw [if_pos h, BitVec.getLsbD_twoPow]
      simp only [Bool.and_eq_true, decide_eq_true_eq]
      constructor
      · rintro (⟨a, b, c⟩ | ⟨a, b⟩)
        · exact ⟨by omega, b, c⟩
        · subst b; exact ⟨by omega, a, h⟩
      · rintro ⟨a, b, c⟩
        by_cases e : k = i
        · right; subst e; exact ⟨b, rfl⟩
        · left; exact ⟨by omega, b, c⟩
    · rw [if_neg h]
      simp only [BitVec.getLsbD_zero, Bool.false_eq_true, or_false]
      constructor
      · rintro ⟨a, b, c⟩; exact ⟨by omega, b, c⟩
      · rintro ⟨a, b, c⟩
        refine ⟨?_, b, c⟩
        by_cases e : i = k
        · subst e; exact absurd c h
        · omega

theorem se_b {P : Nat → Prop} {i : Nat} (hi : i < 32) : bt (se_S P) i = true ↔ P i := by
  have h := se_Bg P 32 i
  have e : bt (se_S P) i = (se_B P 32).getLsbD i := rfl
  rw [e, h]
  exact ⟨fun z => z.2.2, fun z => ⟨hi, hi, z⟩⟩
theorem se_of {x : Int32} {P : Nat → Prop} (h : ∀ i, i < 32 → (bt x i = true ↔ P i)) : x = se_S P := by
  apply b_ext
  intro i hi
  rw [Bool.eq_iff_iff, h i hi, se_b hi]
theorem se_ext {P Q : Nat → Prop} (h : ∀ i, i < 32 → (P i ↔ Q i)) : se_S P = se_S Q :=
  se_of (fun i hi => (se_b hi).trans (h i hi))
theorem se_inj {P Q : Nat → Prop} (h : se_S P = se_S Q) {i : Nat} (hi : i < 32) : P i ↔ Q i := by
  rw [← se_b (P := P) hi, h, se_b hi]
theorem se_or (P Q : Nat → Prop) : se_S P ||| se_S Q = se_S (fun i => P i ∨ Q i) :=
  se_of (fun i hi => by rw [b_or, Bool.or_eq_true, se_b hi, se_b hi])
theorem se_and (P Q : Nat → Prop) : se_S P &&& se_S Q = se_S (fun i => P i ∧ Q i) :=
  se_of (fun i hi => by rw [b_and, Bool.and_eq_true, se_b hi, se_b hi])
theorem se_not (P : Nat → Prop) : se_S P ^^^ (-1) = se_S (fun i => ¬ P i) :=
  se_of (fun i hi => by
    rw [b_xor, b_m1 i hi, ← se_b (P := P) hi]
    cases bt (se_S P) i <;> simp)
theorem se_0 : (0 : Int32) = se_S (fun _ => False) :=
  se_of (fun i _ => by rw [b_0]; simp)
theorem se_1 : (1 : Int32) = se_S (fun i => i = 0) :=
  se_of (fun i hi => by rw [b_1 i hi]; simp)
theorem se_shl {p : Nat} (hp : p < 32) : (1 : Int32) <<< (nI p &&& 31) = se_S (fun i => i = p) :=
  se_of (fun i hi => by
    rw [b_shl p hp 1 hi, Bool.and_eq_true, b_1 _ (by omega)]
    simp only [decide_eq_true_eq]
    omega)
theorem se_and1 (x : Int32) : x &&& 1 = 0 ∧ bt x 0 = false ∨ x &&& 1 = 1 ∧ bt x 0 = true := by
  cases h : bt x 0
  · left
    refine ⟨b_ext fun i hi => ?_, rfl⟩
    rw [b_and, b_1 i hi, b_0]
    by_cases e : i = 0
    · subst e; rw [h]; rfl
    · simp [e]
  · right
    refine ⟨b_ext fun i hi => ?_, rfl⟩
    rw [b_and, b_1 i hi]
    by_cases e : i = 0
    · subst e; rw [h]; rfl
    · simp [e]
theorem se_h0 {P : Nat → Prop} {p : Nat} (hp : p < 32) : ((se_S P >>> (nI p &&& 31)) &&& 1) = 0 ↔ ¬ P p := by
  have e : bt (se_S P >>> (nI p &&& 31)) 0 = bt (se_S P) p := by
    rw [b_sshr p hp _ (by omega), if_pos (by omega), Nat.add_zero]
  rcases se_and1 (se_S P >>> (nI p &&& 31)) with ⟨a, b⟩ | ⟨a, b⟩
  · rw [e] at b
    rw [a, ← se_b (P := P) hp, b]; simp
  · rw [e, se_b hp] at b
    rw [a]
    exact ⟨fun z => absurd z (by decide), fun z => absurd b z⟩
theorem se_h1 {P : Nat → Prop} {p : Nat} (hp : p < 32) : ((se_S P >>> (nI p &&& 31)) &&& 1) = 1 ↔ P p := by
  have e : bt (se_S P >>> (nI p &&& 31)) 0 = bt (se_S P) p := by
    rw [b_sshr p hp _ (by omega), if_pos (by omega), Nat.add_zero]
  rcases se_and1 (se_S P >>> (nI p &&& 31)) with ⟨a, b⟩ | ⟨a, b⟩
  · rw [e] at b
    rw [a, ← se_b (P := P) hp, b]
    exact ⟨fun z => absurd z (by decide), fun z => absurd z (by decide)⟩
  · rw [e, se_b hp] at b
    rw [a]
    exact ⟨fun _ => b, fun _ => rfl⟩
theorem se_z {P : Nat → Prop} : se_S P = 0 ↔ ∀ i, i < 32 → ¬ P i := by
  rw [se_0]
  constructor
  · intro h i hi z
    exact ((se_inj h hi).mp z)
  · intro h
    exact se_ext (fun i hi => ⟨fun z => h i hi z, fun z => z.elim⟩)
theorem se_nz {P : Nat → Prop} : ¬ se_S P = 0 ↔ ∃ i, i < 32 ∧ P i := by
  rw [se_z]
  constructor
  · intro h
    refine Classical.byContradiction (fun z => h (fun i hi hp => z ⟨i, hi, hp⟩))
  · rintro ⟨i, hi, hp⟩ h
    exact h i hi hp
theorem se_allb : ∀ n, n < 21 → ∀ i, i < 32 → bt (((1 : Int32) <<< (nI n &&& 31)) - 1) i = decide (i < n) := by decide +kernel
theorem se_all {n : Nat} (hn : n ≤ 20) : ((1 : Int32) <<< (nI n &&& 31)) - 1 = se_S (fun i => i < n) :=
  se_of (fun i hi => by rw [se_allb n (by omega) i hi]; simp)
theorem se_63b : ∀ i, i < 32 → bt 63 i = decide (i < 6) := by decide +kernel
theorem se_63 : (63 : Int32) = se_S (fun i => i < 6) :=
  se_of (fun i hi => by rw [se_63b i hi]; simp)
theorem se_s20 {P : Nat → Prop} (hP : ∀ i, i < 32 → P i → i ≤ 20) : (se_S P >>> ((20 : Int32) &&& 31)) = 0 ↔ ¬ P 20 := by
  have e : ∀ i, i < 32 → (bt (se_S P >>> ((20 : Int32) &&& 31)) i = true ↔ i = 0 ∧ P 20) := by
    intro i hi
    have e1 : bt (se_S P >>> ((20 : Int32) &&& 31)) i = if 20 + i < 32 then bt (se_S P) (20 + i) else bt (se_S P) 31 := b_sshr 20 (by omega) (se_S P) hi
    rw [e1]
    by_cases h : 20 + i < 32
    · rw [if_pos h, se_b h]
      constructor
      · intro z
        have := hP _ h z
        have e0 : i = 0 := by omega
        subst e0
        exact ⟨rfl, z⟩
      · rintro ⟨rfl, z⟩; exact z
    · rw [if_neg h, se_b (by omega)]
      constructor
      · intro z
        have := hP _ (by omega) z
        omega
      · rintro ⟨rfl, z⟩; omega
  rw [se_of e, se_z]
  constructor
  · intro h z; exact h 0 (by omega) ⟨rfl, z⟩
  · rintro h i _ ⟨_, z⟩; exact h z
/-- adding nothing, one's own number, a set -/
theorem se_n {x : Int32} {F : Nat → Prop} (h : ∀ i, ¬ F i) : x = x ||| se_S F := by
  apply b_ext
  intro i hi
  rw [b_or]
  have : bt (se_S F) i = false := by
    cases e : bt (se_S F) i
    · rfl
    · exact absurd ((se_b hi).mp e) (h i)
  rw [this, Bool.or_false]
theorem se_own {x : Int32} {c : Prop} {k : Nat} (hk : k < 32) (hc : c) : x ||| ((1 : Int32) <<< (nI k &&& 31)) = x ||| se_S (fun i => c ∧ i = k) := by
  rw [se_shl hk]
  exact congrArg _ (se_ext fun i _ => ⟨fun z => ⟨hc, z⟩, fun z => z.2⟩)
theorem se_set {x v : Int32} {c : Prop} {N : Nat → Prop} (hc : c) (hv : v = se_S N) : x ||| v = x ||| se_S (fun i => c ∧ N i) := by
  rw [hv]
  exact congrArg _ (se_ext fun i _ => ⟨fun z => ⟨hc, z⟩, fun z => z.2⟩)
theorem se_or0 (x : Int32) : x ||| 0 = x := by
  apply b_ext; intro i _; rw [b_or, b_0, Bool.or_false]
theorem se_0or (x : Int32) : 0 ||| x = x := by
  apply b_ext; intro i _; rw [b_or, b_0, Bool.false_or]
theorem se_and0 (x : Int32) : x &&& 0 = 0 := by
  apply b_ext; intro i _; rw [b_and, b_0, Bool.and_false]
theorem se_n0 (x : Int32) : x &&& ((0 : Int32) ^^^ (-1)) = x := by
  apply b_ext; intro i hi; rw [b_and, b_xor, b_0, b_m1 i hi]; simp
theorem gl_i {P : Int32 → Prop} {k : Nat} (h : P (nI (k + 1))) : ∀ z, z = nI k + 1 → P z := nm_r (nI_1 k) h

/-! counting -/
noncomputable def se_N (P : Nat → Prop) : Nat → Nat
  | 0 => 0
  | k + 1 => se_N P k + @ite _ (P k) (Classical.propDecidable _) 1 0
theorem se_Nle (P : Nat → Prop) : ∀ k, se_N P k ≤ k := by
  intro k
  induction k with
  | zero => exact Nat.le_refl _
  | succ k ih =>
    rw [se_N]
    by_cases h : P k
    · rw [if_pos h]; omega
    · rw [if_neg h]; omega
theorem se_Nmono {P Q : Nat → Prop} : ∀ k, (∀ i, i < k → P i → Q i) → se_N P k ≤ se_N Q k := by
  intro k
  induction k with
  | zero => intro _; exact Nat.le_refl _
  | succ k ih =>
    intro h
    have := ih (fun i hi => h i (by omega))
    rw [se_N, se_N]
    by_cases hp : P k
    · rw [if_pos hp, if_pos (h k (by omega) hp)]; omega
    · rw [if_neg hp]; omega
theorem se_Nlt {P Q : Nat → Prop} : ∀ k, (∀ i, i < k → P i → Q i) → (∃ i, i < k ∧ Q i ∧ ¬ P i) → se_N P k + 1 ≤ se_N Q k := by
  intro k
  induction k with
  | zero => rintro _ ⟨i, hi, _⟩; omega
  | succ k ih =>
    rintro h ⟨i, hi, hq, hp⟩
    rw [se_N, se_N]
    by_cases e : i = k
    · subst e
      have := se_Nmono (P := P) (Q := Q) i (fun j hj => h j (by omega))
      rw [if_pos hq, if_neg hp]; omega
    · have := ih (fun i hi => h i (by omega)) ⟨i, by omega, hq, hp⟩
      by_cases hp : P k
      · rw [if_pos hp, if_pos (h k (by omega) hp)]; omega
      · rw [if_neg hp]; omega
theorem se_Npos {P : Nat → Prop} {k i : Nat} (hi : i < k) (h : P i) : 1 ≤ se_N P k := by
  have := se_Nlt (P := fun _ => False) (Q := P) k (fun _ _ z => z.elim) ⟨i, hi, h, fun z => z⟩
  omega
theorem se_Nfull {P : Nat → Prop} {k : Nat} (h : k ≤ se_N P k) : ∀ i, i < k → P i := by
  intro i hi
  refine Classical.byContradiction fun hp => ?_
  have := se_Nlt (P := P) (Q := fun _ => True) k (fun _ _ _ => trivial) ⟨i, hi, trivial, hp⟩
  have := se_Nle (fun _ => True) k
  omega
/-! least sets -/
def lf_L (E : Nat → Nat → Prop) (A : Nat → Prop) (q : Nat) : Prop := ∀ S : Nat → Prop, (∀ a, A a → S a) → (∀ x y, S x → E x y → S y) → S q
theorem lf_i {E : Nat → Nat → Prop} {A : Nat → Prop} {q : Nat} (h : A q) : lf_L E A q := fun _ a _ => a q h
theorem lf_s {E : Nat → Nat → Prop} {A : Nat → Prop} {x y : Nat} (h : lf_L E A x) (e : E x y) : lf_L E A y := fun S a c => c x y (h S a c) e
theorem lf_sub {E E' : Nat → Nat → Prop} {A A' : Nat → Prop} {q : Nat} (h : lf_L E A q) (ha : ∀ a, A a → lf_L E' A' a) (he : ∀ x y, lf_L E A x → lf_L E' A' x → E x y → lf_L E' A' y) : lf_L E' A' q :=
  (h (fun x => lf_L E A x ∧ lf_L E' A' x) (fun a z => ⟨lf_i z, ha a z⟩) (fun x y z e => ⟨lf_s z.1 e, he x y z.1 z.2 e⟩)).2
/-- forward from p it meets T iff p lies in the least set backward from T -/
theorem lf_rev {E : Nat → Nat → Prop} {T : Nat → Prop} {p : Nat} : (∃ q, lf_L E (fun i => i = p) q ∧ T q) ↔ lf_L (fun y x => E x y) T p := by
  constructor
  · rintro ⟨q, h, t⟩
    have := h (fun x => lf_L (fun y x => E x y) T x → lf_L (fun y x => E x y) T p) (fun a e => by subst e; exact fun z => z) (fun x y z e w => z (lf_s w e))
    exact this (lf_i t)
  · intro h
    refine h (fun p => ∃ q, lf_L E (fun i => i = p) q ∧ T q) (fun a z => ⟨a, lf_i rfl, z⟩) ?_
    rintro x y ⟨q, h, t⟩ e
    refine ⟨q, ?_, t⟩
    exact h (fun z => lf_L E (fun i => i = y) z) (fun a z => by subst z; exact lf_s (lf_i rfl) e) (fun _ _ z e => lf_s z e)
