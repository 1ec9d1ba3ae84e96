/-! bits: rows of kit/rows (bt, b_.., s_l), then sets as bits -/
def bt (x : Int32) (i : Nat) : Bool := x.toBitVec.getLsbD i
theorem b_ext {x y : Int32} (h : ∀ i, i < 32 → bt x i = bt y i) : x = y := Int32.toBitVec_inj.mp (BitVec.eq_of_getLsbD_eq (fun i hi => h i hi))
theorem b_or (x y : Int32) (i : Nat) : bt (x ||| y) i = (bt x i || bt y i) := by unfold bt; rw [Int32.toBitVec_or, BitVec.getLsbD_or]
theorem b_and (x y : Int32) (i : Nat) : bt (x &&& y) i = (bt x i && bt y i) := by unfold bt; rw [Int32.toBitVec_and, BitVec.getLsbD_and]
theorem b_xor (x y : Int32) (i : Nat) : bt (x ^^^ y) i = (bt x i ^^ bt y i) := by unfold bt; rw [Int32.toBitVec_xor, BitVec.getLsbD_xor]
theorem b_big {x : Int32} {i : Nat} (h : 32 ≤ i) : bt x i = false := BitVec.getLsbD_of_ge _ _ h
theorem b_m1 : ∀ i, i < 32 → bt (-1) i = true := by decide +kernel
theorem b_0 (i : Nat) : bt 0 i = false := BitVec.getLsbD_zero
theorem s_l : ∀ n, n < 32 → ((nI n &&& 31).toBitVec.smod 32).toNat = n := by decide +kernel
theorem b_shl (n : Nat) (hn : n < 32) (x : Int32) {i : Nat} (hi : i < 32) : bt (x <<< (nI n &&& 31)) i = (decide (n ≤ i) && bt x (i - n)) := by
  unfold bt
  rw [Int32.toBitVec_shiftLeft]
  show (x.toBitVec <<< ((nI n &&& 31).toBitVec.smod 32).toNat).getLsbD i = _
  rw [s_l n hn, BitVec.getLsbD_shiftLeft]
  rcases Nat.lt_or_ge i n with h | h
  · simp [h, Nat.not_le.mpr h]
  · simp [hi, h, Nat.not_lt.mpr h]
theorem b_sshr (n : Nat) (hn : n < 32) (x : Int32) {i : Nat} (hi : i < 32) : bt (x >>> (nI n &&& 31)) i = if n + i < 32 then bt x (n + i) else bt x 31 := by
  unfold bt
  rw [Int32.toBitVec_shiftRight]
  show (x.toBitVec.sshiftRight ((nI n &&& 31).toBitVec.smod 32).toNat).getLsbD i = _
  rw [s_l n hn, BitVec.getLsbD_sshiftRight, BitVec.msb_eq_getLsbD_last]
  simp [hi]
theorem ep_b1 : ∀ k, k < 32 → ∀ i, i < 32 → bt ((1 : Int32) <<< (nI k &&& 31)) i = decide (i = k) := by decide +kernel
theorem ep_bone {k : Nat} (hk : k < 32) (i : Nat) : bt ((1 : Int32) <<< (nI k &&& 31)) i = decide (i = k) := by
  rcases Nat.lt_or_ge i 32 with h | h
  · exact ep_b1 k hk i h
  · rw [b_big h, decide_eq_false (by omega)]
theorem ep_bnot (x : Int32) {i : Nat} (hi : i < 32) : bt (x ^^^ (-1)) i = !bt x i := by
  rw [b_xor, b_m1 i hi]; cases bt x i <;> rfl
theorem ep_beq {x y : Int32} (h : ∀ i, i < 32 → (bt x i = true ↔ bt y i = true)) : x = y :=
  b_ext fun i hi => Bool.eq_iff_iff.mpr (h i hi)
noncomputable def ep_sI (p : Nat → Prop) : Nat → Int32
  | 0 => 0
  | k + 1 => @ite Int32 (p k) (Classical.propDecidable (p k)) (ep_sI p k ||| ((1 : Int32) <<< (nI k &&& 31))) (ep_sI p k)
theorem ep_sI_t {p : Nat → Prop} {k : Nat} (h : p k) : ep_sI p (k + 1) = ep_sI p k ||| ((1 : Int32) <<< (nI k &&& 31)) := by
  show @ite Int32 (p k) (Classical.propDecidable (p k)) _ _ = _
  rw [if_pos h]
theorem ep_sI_f {p : Nat → Prop} {k : Nat} (h : ¬ p k) : ep_sI p (k + 1) = ep_sI p k := by
  show @ite Int32 (p k) (Classical.propDecidable (p k)) _ _ = _
  rw [if_neg h]
theorem ep_sI_bit (p : Nat → Prop) : ∀ k, k ≤ 32 → ∀ i, bt (ep_sI p k) i = true ↔ i < k ∧ p i := by
  intro k
  induction k with
  | zero =>
    intro _ i
    show bt 0 i = true ↔ _
    rw [b_0]
    exact ⟨fun h => (nomatch h), fun h => absurd h.1 (Nat.not_lt_zero i)⟩
  | succ k ih =>
    intro hk i
    have ih := ih (by omega) i
    by_cases hp : p k
    · rw [ep_sI_t hp, b_or, ep_bone (by omega), Bool.or_eq_true, ih, decide_eq_true_iff]
      constructor
      · rintro (h | h)
        · exact ⟨by omega, h.2⟩
        · subst h; exact ⟨by omega, hp⟩
      · rintro ⟨h1, h2⟩
        by_cases e : i = k
        · exact Or.inr e
        · exact Or.inl ⟨by omega, h2⟩
    · rw [ep_sI_f hp, ih]
      constructor
      · exact fun h => ⟨by omega, h.2⟩
      · rintro ⟨h1, h2⟩
        refine ⟨?_, h2⟩
        have : i ≠ k := fun e => hp (e ▸ h2)
        omega
noncomputable def ep_I (p : Nat → Prop) : Int32 := ep_sI p 10
theorem ep_I_bit (p : Nat → Prop) (i : Nat) : bt (ep_I p) i = true ↔ i < 10 ∧ p i := ep_sI_bit p 10 (by decide) i
theorem ep_I_eq {x : Int32} {p : Nat → Prop} (h : ∀ i, i < 32 → (bt x i = true ↔ i < 10 ∧ p i)) : x = ep_I p :=
  ep_beq fun i hi => (h i hi).trans (ep_I_bit p i).symm
theorem ep_I_ext {p q : Nat → Prop} (h : ∀ i, i < 10 → (p i ↔ q i)) : ep_I p = ep_I q :=
  ep_I_eq fun i _ => (ep_I_bit p i).trans ⟨fun x => ⟨x.1, (h i x.1).1 x.2⟩, fun x => ⟨x.1, (h i x.1).2 x.2⟩⟩
theorem ep_I_inj {p q : Nat → Prop} (h : ep_I p = ep_I q) (i : Nat) (hi : i < 10) : p i ↔ q i := by
  have hp := ep_I_bit p i
  have hq := ep_I_bit q i
  rw [h] at hp
  exact ⟨fun x => (hq.1 (hp.2 ⟨hi, x⟩)).2, fun x => (hp.1 (hq.2 ⟨hi, x⟩)).2⟩
theorem ep_I_or (p q : Nat → Prop) : ep_I p ||| ep_I q = ep_I (fun i => p i ∨ q i) :=
  ep_I_eq fun i _ => by
    rw [b_or, Bool.or_eq_true, ep_I_bit, ep_I_bit]
    exact ⟨fun h => h.elim (fun x => ⟨x.1, Or.inl x.2⟩) (fun x => ⟨x.1, Or.inr x.2⟩), fun h => h.2.elim (fun x => Or.inl ⟨h.1, x⟩) (fun x => Or.inr ⟨h.1, x⟩)⟩
theorem ep_I_and (p q : Nat → Prop) : ep_I p &&& ep_I q = ep_I (fun i => p i ∧ q i) :=
  ep_I_eq fun i _ => by
    rw [b_and, Bool.and_eq_true, ep_I_bit, ep_I_bit]
    exact ⟨fun h => ⟨h.1.1, h.1.2, h.2.2⟩, fun h => ⟨⟨h.1, h.2.1⟩, ⟨h.1, h.2.2⟩⟩⟩
theorem ep_I_diff (p q : Nat → Prop) : ep_I p &&& (ep_I q ^^^ (-1)) = ep_I (fun i => p i ∧ ¬ q i) :=
  ep_I_eq fun i hi => by
    rw [b_and, Bool.and_eq_true, ep_I_bit, ep_bnot _ hi, Bool.not_eq_true', ← Bool.not_eq_true, ep_I_bit]
    exact ⟨fun h => ⟨h.1.1, h.1.2, fun x => h.2 ⟨h.1.1, x⟩⟩, fun h => ⟨⟨h.1, h.2.1⟩, fun x => h.2.2 x.2⟩⟩
theorem ep_I_0 : ep_I (fun _ => False) = 0 :=
  (ep_I_eq fun i _ => by rw [b_0]; exact ⟨fun h => (nomatch h), fun h => h.2.elim⟩).symm
theorem ep_I_m1 (p : Nat → Prop) : ¬ (-1 : Int32) = ep_I p := fun h => by
  have h1 : bt (-1) 31 = true := b_m1 31 (by decide)
  rw [h] at h1
  have := ((ep_I_bit p 31).1 h1).1
  omega
theorem ep_I_of {x : Int32} {c : Nat} (hc : c ≤ 10) (h : ∀ i, bt x i = true → i < c) : x = ep_I (fun i => bt x i = true) :=
  ep_I_eq fun i _ => ⟨fun y => ⟨by have := h i y; omega, y⟩, fun y => y.2⟩
theorem ep_zero {x : Int32} : x = 0 ↔ ∀ i, i < 32 → ¬ bt x i = true :=
  ⟨fun h i _ => by rw [h, b_0]; exact fun z => (nomatch z), fun h => ep_beq fun i hi => ⟨fun y => absurd y (h i hi), fun y => by rw [b_0] at y; exact nomatch y⟩⟩
theorem ep_b01 : ∀ i, i < 32 → bt 1 i = decide (i = 0) := by decide +kernel
theorem ep_bit1 (x : Int32) {v : Nat} (hv : v < 32) : (x >>> (nI v &&& 31)) &&& 1 = if bt x v = true then 1 else 0 := by
  apply ep_beq
  intro i hi
  rw [b_and, ep_b01 i hi, b_sshr v hv x hi]
  by_cases e : i = 0
  · subst e
    rw [if_pos (by omega), Nat.add_zero]
    cases hx : bt x v
    · simp [b_0]
    · simp [ep_b01 0 (by decide)]
  · rw [decide_eq_false e, Bool.and_false]
    cases hx : bt x v
    · simp [b_0]
    · simp [ep_b01 i hi, e]
theorem ep_all : ∀ c, c ≤ 10 → ∀ i, i < 32 → bt (((1 : Int32) <<< (nI c &&& 31)) - 1) i = decide (i < c) := by decide +kernel
theorem ep_I_all {c : Nat} (hc : c ≤ 10) : ((1 : Int32) <<< (nI c &&& 31)) - 1 = ep_I (fun v => v < c) :=
  ep_I_eq fun i hi => by rw [ep_all c hc i hi, decide_eq_true_iff]; exact ⟨fun h => ⟨by omega, h⟩, fun h => h.2⟩

/-! long bits -/
def bl (x : Int64) (i : Nat) : Bool := x.toBitVec.getLsbD i
theorem ep_leq {x y : Int64} (h : ∀ i, i < 64 → (bl x i = true ↔ bl y i = true)) : x = y :=
  Int64.toBitVec_inj.mp (BitVec.eq_of_getLsbD_eq (fun i hi => Bool.eq_iff_iff.mpr (h i hi)))
theorem ep_lor (x y : Int64) (i : Nat) : bl (x ||| y) i = (bl x i || bl y i) := by unfold bl; rw [Int64.toBitVec_or, BitVec.getLsbD_or]
theorem ep_land (x y : Int64) (i : Nat) : bl (x &&& y) i = (bl x i && bl y i) := by unfold bl; rw [Int64.toBitVec_and, BitVec.getLsbD_and]
theorem ep_lxor (x y : Int64) (i : Nat) : bl (x ^^^ y) i = (bl x i ^^ bl y i) := by unfold bl; rw [Int64.toBitVec_xor, BitVec.getLsbD_xor]
theorem ep_lbig {x : Int64} {i : Nat} (h : 64 ≤ i) : bl x i = false := BitVec.getLsbD_of_ge _ _ h
theorem ep_lm1 : ∀ i, i < 64 → bl (-1) i = true := by decide +kernel
theorem ep_l0 (i : Nat) : bl 0 i = false := BitVec.getLsbD_zero
theorem ep_lnot (x : Int64) {i : Nat} (hi : i < 64) : bl (x ^^^ (-1)) i = !bl x i := by
  rw [ep_lxor, ep_lm1 i hi]; cases bl x i <;> rfl
theorem ep_l1 : ∀ k, k < 40 → ∀ i, i < 64 → bl ((1 : Int64) <<< ((nI k).toInt64 &&& 63)) i = decide (i = k) := by decide +kernel
theorem ep_lone {k : Nat} (hk : k < 40) (i : Nat) : bl ((1 : Int64) <<< ((nI k).toInt64 &&& 63)) i = decide (i = k) := by
  rcases Nat.lt_or_ge i 64 with h | h
  · exact ep_l1 k hk i h
  · rw [ep_lbig h, decide_eq_false (by omega)]
theorem ep_lcu : ∀ k, k < 40 → (((nI k).toInt64.toUInt64 &&& Int64.toUInt64 63).toBitVec % 64).toNat = k := by decide +kernel
theorem ep_lshr (x : Int64) {k : Nat} (hk : k < 40) (i : Nat) : bl (x.toUInt64 >>> ((nI k).toInt64.toUInt64 &&& Int64.toUInt64 63)).toInt64 i = bl x (k + i) := by
  show (x.toUInt64 >>> ((nI k).toInt64.toUInt64 &&& Int64.toUInt64 63)).toBitVec.getLsbD i = x.toUInt64.toBitVec.getLsbD (k + i)
  rw [UInt64.toBitVec_shiftRight]
  show (x.toUInt64.toBitVec >>> (((nI k).toInt64.toUInt64 &&& Int64.toUInt64 63).toBitVec % 64).toNat).getLsbD i = _
  rw [ep_lcu k hk, BitVec.getLsbD_ushiftRight]
theorem ep_lint (x : Int64) {i : Nat} (hi : i < 32) : bt x.toInt32 i = bl x i := by
  show x.toInt32.toBitVec.getLsbD i = x.toBitVec.getLsbD i
  rw [Int64.toBitVec_toInt32, BitVec.getLsbD_signExtend]
  simp [hi, show i < 64 by omega]
theorem ep_b1023 : ∀ i, i < 32 → bt 1023 i = decide (i < 10) := by decide +kernel
noncomputable def ep_sL (p : Nat → Prop) : Nat → Int64
  | 0 => 0
  | k + 1 => @ite Int64 (p k) (Classical.propDecidable (p k)) (ep_sL p k ||| ((1 : Int64) <<< ((nI k).toInt64 &&& 63))) (ep_sL p k)
theorem ep_sL_bit (p : Nat → Prop) : ∀ k, k ≤ 40 → ∀ i, bl (ep_sL p k) i = true ↔ i < k ∧ p i := by
  intro k
  induction k with
  | zero =>
    intro _ i
    show bl 0 i = true ↔ _
    rw [ep_l0]
    exact ⟨fun h => (nomatch h), fun h => absurd h.1 (Nat.not_lt_zero i)⟩
  | succ k ih =>
    intro hk i
    have ih := ih (by omega) i
    show bl (@ite Int64 (p k) (Classical.propDecidable (p k)) _ _) i = true ↔ _
    by_cases hp : p k
    · rw [if_pos hp, ep_lor, ep_lone (by omega), Bool.or_eq_true, ih, decide_eq_true_iff]
      constructor
      · rintro (h | h)
        · exact ⟨by omega, h.2⟩
        · subst h; exact ⟨by omega, hp⟩
      · rintro ⟨h1, h2⟩
        by_cases e : i = k
        · exact Or.inr e
        · exact Or.inl ⟨by omega, h2⟩
    · rw [if_neg hp, ih]
      constructor
      · exact fun h => ⟨by omega, h.2⟩
      · rintro ⟨h1, h2⟩
        refine ⟨?_, h2⟩
        have : i ≠ k := fun e => hp (e ▸ h2)
        omega
noncomputable def ep_L (p : Nat → Prop) : Int64 := ep_sL p 40
theorem ep_L_bit (p : Nat → Prop) (i : Nat) : bl (ep_L p) i = true ↔ i < 40 ∧ p i := ep_sL_bit p 40 (by decide) i
theorem ep_L_eq {x : Int64} {p : Nat → Prop} (h : ∀ i, i < 64 → (bl x i = true ↔ i < 40 ∧ p i)) : x = ep_L p :=
  ep_leq fun i hi => (h i hi).trans (ep_L_bit p i).symm
theorem ep_L_ext {p q : Nat → Prop} (h : ∀ i, i < 40 → (p i ↔ q i)) : ep_L p = ep_L q :=
  ep_L_eq fun i _ => (ep_L_bit p i).trans ⟨fun x => ⟨x.1, (h i x.1).1 x.2⟩, fun x => ⟨x.1, (h i x.1).2 x.2⟩⟩
theorem ep_L_inj {p q : Nat → Prop} (h : ep_L p = ep_L q) (i : Nat) (hi : i < 40) : p i ↔ q i := by
  have hp := ep_L_bit p i
  have hq := ep_L_bit q i
  rw [h] at hp
  exact ⟨fun x => (hq.1 (hp.2 ⟨hi, x⟩)).2, fun x => (hp.1 (hq.2 ⟨hi, x⟩)).2⟩
theorem ep_L_or (p q : Nat → Prop) : ep_L p ||| ep_L q = ep_L (fun i => p i ∨ q i) :=
  ep_L_eq fun i _ => by
    rw [ep_lor, Bool.or_eq_true, ep_L_bit, ep_L_bit]
    exact ⟨fun h => h.elim (fun x => ⟨x.1, Or.inl x.2⟩) (fun x => ⟨x.1, Or.inr x.2⟩), fun h => h.2.elim (fun x => Or.inl ⟨h.1, x⟩) (fun x => Or.inr ⟨h.1, x⟩)⟩
theorem ep_L_and (p q : Nat → Prop) : ep_L p &&& ep_L q = ep_L (fun i => p i ∧ q i) :=
  ep_L_eq fun i _ => by
    rw [ep_land, Bool.and_eq_true, ep_L_bit, ep_L_bit]
    exact ⟨fun h => ⟨h.1.1, h.1.2, h.2.2⟩, fun h => ⟨⟨h.1, h.2.1⟩, ⟨h.1, h.2.2⟩⟩⟩
theorem ep_L_diff (p q : Nat → Prop) : ep_L p &&& (ep_L q ^^^ (-1)) = ep_L (fun i => p i ∧ ¬ q i) :=
  ep_L_eq fun i hi => by
    rw [ep_land, Bool.and_eq_true, ep_L_bit, ep_lnot _ hi, Bool.not_eq_true', ← Bool.not_eq_true, ep_L_bit]
    exact ⟨fun h => ⟨h.1.1, h.1.2, fun x => h.2 ⟨h.1.1, x⟩⟩, fun h => ⟨⟨h.1, h.2.1⟩, fun x => h.2.2 x.2⟩⟩
theorem ep_L_0 : ep_L (fun _ => False) = 0 :=
  (ep_L_eq fun i _ => by rw [ep_l0]; exact ⟨fun h => (nomatch h), fun h => h.2.elim⟩).symm
theorem ep_L_one (p : Nat → Prop) {k : Nat} (hk : k < 40) : ep_L p ||| ((1 : Int64) <<< ((nI k).toInt64 &&& 63)) = ep_L (fun i => p i ∨ i = k) :=
  ep_L_eq fun i _ => by
    rw [ep_lor, Bool.or_eq_true, ep_L_bit, ep_lone hk, decide_eq_true_iff]
    exact ⟨fun h => h.elim (fun x => ⟨x.1, Or.inl x.2⟩) (fun x => ⟨by omega, Or.inr x⟩), fun h => h.2.elim (fun x => Or.inl ⟨h.1, x⟩) (fun x => Or.inr x)⟩
theorem ep_L_row (p : Nat → Prop) {m : Nat} (hm : m < 4) :
    ((ep_L p).toUInt64 >>> ((nI (m * 10)).toInt64.toUInt64 &&& Int64.toUInt64 63)).toInt64.toInt32 &&& 1023 = ep_I (fun v => p (m * 10 + v)) :=
  ep_I_eq fun i hi => by
    rw [b_and, Bool.and_eq_true, ep_b1023 i hi, decide_eq_true_iff, ep_lint _ hi, ep_lshr _ (by omega), ep_L_bit]
    exact ⟨fun h => ⟨h.2, h.1.2⟩, fun h => ⟨⟨by omega, h.2⟩, h.1⟩⟩
theorem ep_L_low (p : Nat → Prop) : (ep_L p).toInt32 &&& 1023 = ep_I p :=
  ep_I_eq fun i hi => by
    rw [b_and, Bool.and_eq_true, ep_b1023 i hi, decide_eq_true_iff, ep_lint _ hi, ep_L_bit]
    exact ⟨fun h => ⟨h.2, h.1.2⟩, fun h => ⟨⟨by omega, h.2⟩, h.1⟩⟩
