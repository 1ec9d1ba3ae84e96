/-! counting, and loops to a fixpoint -/
noncomputable def ep_cn (p : Nat → Prop) : Nat → Nat
  | 0 => 0
  | k + 1 => ep_cn p k + @ite Nat (p k) (Classical.propDecidable (p k)) 1 0
theorem ep_cn_t {p : Nat → Prop} {k : Nat} (h : p k) : ep_cn p (k + 1) = ep_cn p k + 1 := by
  show ep_cn p k + @ite Nat (p k) (Classical.propDecidable (p k)) 1 0 = _
  rw [if_pos h]
theorem ep_cn_f {p : Nat → Prop} {k : Nat} (h : ¬ p k) : ep_cn p (k + 1) = ep_cn p k := by
  show ep_cn p k + @ite Nat (p k) (Classical.propDecidable (p k)) 1 0 = _
  rw [if_neg h]; rfl
theorem ep_cn_le (p : Nat → Prop) : ∀ k, ep_cn p k ≤ k := by
  intro k
  induction k with
  | zero => exact Nat.le_refl 0
  | succ k ih =>
    by_cases h : p k
    · rw [ep_cn_t h]; omega
    · rw [ep_cn_f h]; omega
theorem ep_cn_mono {p q : Nat → Prop} : ∀ k, (∀ i, i < k → p i → q i) → ep_cn p k ≤ ep_cn q k := by
  intro k
  induction k with
  | zero => intro _; exact Nat.le_refl 0
  | succ k ih =>
    intro h
    have ih := ih (fun i hi => h i (by omega))
    by_cases hp : p k
    · rw [ep_cn_t hp, ep_cn_t (h k (by omega) hp)]; omega
    · rw [ep_cn_f hp]
      by_cases hq : q k
      · rw [ep_cn_t hq]; omega
      · rw [ep_cn_f hq]; exact ih
theorem ep_cn_lt {p q : Nat → Prop} : ∀ k, (∀ i, i < k → p i → q i) → (∃ i, i < k ∧ q i ∧ ¬ p i) → ep_cn p k < ep_cn q k := by
  intro k
  induction k with
  | zero => intro _ h; obtain ⟨i, hi, _⟩ := h; omega
  | succ k ih =>
    intro h hx
    obtain ⟨i, hi, hq, hp⟩ := hx
    by_cases e : i = k
    · subst e
      rw [ep_cn_f hp, ep_cn_t hq]
      have := ep_cn_mono i (fun j hj => h j (by omega))
      omega
    · have ih := ih (fun j hj => h j (by omega)) ⟨i, by omega, hq, hp⟩
      by_cases hpk : p k
      · rw [ep_cn_t hpk, ep_cn_t (h k (by omega) hpk)]; omega
      · rw [ep_cn_f hpk]
        by_cases hqk : q k
        · rw [ep_cn_t hqk]; omega
        · rw [ep_cn_f hqk]; exact ih
theorem ep_cn_ne {p q : Nat → Prop} {k : Nat} (h : ∀ i, i < k → p i → q i) (hn : ¬ ∀ i, i < k → (p i ↔ q i)) : ep_cn p k < ep_cn q k := by
  apply ep_cn_lt k h
  apply Classical.byContradiction
  intro hc
  apply hn
  intro i hi
  refine ⟨h i hi, fun hq => ?_⟩
  apply Classical.byContradiction
  intro hp
  exact hc ⟨i, hi, hq, hp⟩
theorem ep_cn_full {p : Nat → Prop} : ∀ k, k ≤ ep_cn p k → ∀ i, i < k → p i := by
  intro k
  induction k with
  | zero => intro _ i hi; omega
  | succ k ih =>
    intro h i hi
    by_cases hp : p k
    · rw [ep_cn_t hp] at h
      by_cases e : i = k
      · subst e; exact hp
      · exact ih (by omega) i (by omega)
    · rw [ep_cn_f hp] at h
      have := ep_cn_le p k
      omega
/-- bounded by 10 -/
def ep_bd (P : Nat → Prop) : Prop := ∀ i, P i → i < 10
theorem ep_bd_eq {P Q : Nat → Prop} (hP : ep_bd P) (hQ : ep_bd Q) (h : ep_I P = ep_I Q) : P = Q :=
  funext fun i => propext ⟨fun x => (ep_I_inj h i (hP i x)).1 x, fun x => (ep_I_inj h i (hQ i x)).2 x⟩
theorem ep_up {F : (Nat → Prop) → (Nat → Prop)} (hF : ep_mono F) (hb : ∀ X, ep_bd (F X)) {W : Nat → Int32 → Int32 → Prop} {post : Int32 → Prop}
    (hx : ∀ n x, post x → W (n + 1) x x) (hs : ∀ n b P, ep_bd P → ¬ b = ep_I P → W n (ep_I P) (ep_I (F P)) → W (n + 1) b (ep_I P))
    (hp : post (ep_I (ep_lfp F))) : ∀ (k : Nat) (P : Nat → Prop), ep_bd P → 10 - ep_cn P 10 ≤ k → ep_le P (F P) → ep_le P (ep_lfp F) →
    ∀ b : Int32, ¬ b = ep_I P → ∃ n, W n b (ep_I P) := by
  intro k
  induction k with
  | zero =>
    intro P hP hk h1 h2 b hbn
    have hfull := ep_cn_full (p := P) 10 (by omega)
    have e : F P = P := ep_eq (fun i hi => hfull i (hb P i hi)) h1
    have el : P = ep_lfp F := ep_eq h2 (ep_lfp_le (ep_of_eq e))
    refine ⟨2, hs 1 b P hP hbn ?_⟩
    rw [e]
    exact hx 0 _ (by rw [el]; exact hp)
  | succ k ih =>
    intro P hP hk h1 h2 b hbn
    by_cases e : ep_I P = ep_I (F P)
    · have e : P = F P := ep_bd_eq hP (hb P) e
      have el : P = ep_lfp F := ep_eq h2 (ep_lfp_le (ep_of_eq e.symm))
      refine ⟨2, hs 1 b P hP hbn ?_⟩
      rw [← e]
      exact hx 0 _ (by rw [el]; exact hp)
    · have hlt : ep_cn P 10 < ep_cn (F P) 10 := ep_cn_ne (fun i _ => h1 i) (fun h => e (ep_I_ext h))
      have hle := ep_cn_le (F P) 10
      obtain ⟨n, hn⟩ := ih (F P) (hb P) (by omega) (hF _ _ h1) (ep_tr (hF _ _ h2) (ep_lfp_pre hF)) (ep_I P) e
      exact ⟨n + 1, hs n b P hP hbn hn⟩
theorem ep_down {F : (Nat → Prop) → (Nat → Prop)} (hF : ep_mono F) (hb : ∀ X, ep_bd (F X)) {W : Nat → Int32 → Int32 → Prop} {post : Int32 → Prop}
    (hx : ∀ n x, post x → W (n + 1) x x) (hs : ∀ n b P, ep_bd P → ¬ b = ep_I P → W n (ep_I P) (ep_I (F P)) → W (n + 1) b (ep_I P))
    (hp : post (ep_I (ep_gfp F))) : ∀ (k : Nat) (P : Nat → Prop), ep_bd P → ep_cn P 10 ≤ k → ep_le (F P) P → ep_le (ep_gfp F) P →
    ∀ b : Int32, ¬ b = ep_I P → ∃ n, W n b (ep_I P) := by
  intro k
  induction k with
  | zero =>
    intro P hP hk h1 h2 b hbn
    have e : F P = P := by
      apply Classical.byContradiction
      intro hn
      have : ep_cn (F P) 10 < ep_cn P 10 := ep_cn_ne (fun i _ => h1 i) (fun h => hn (ep_bd_eq (hb P) hP (ep_I_ext h)))
      omega
    have el : P = ep_gfp F := ep_eq (ep_le_gfp (ep_of_eq e.symm)) h2
    refine ⟨2, hs 1 b P hP hbn ?_⟩
    rw [e]
    exact hx 0 _ (by rw [el]; exact hp)
  | succ k ih =>
    intro P hP hk h1 h2 b hbn
    by_cases e : ep_I P = ep_I (F P)
    · have e : P = F P := ep_bd_eq hP (hb P) e
      have el : P = ep_gfp F := ep_eq (ep_le_gfp (ep_of_eq e)) h2
      refine ⟨2, hs 1 b P hP hbn ?_⟩
      rw [← e]
      exact hx 0 _ (by rw [el]; exact hp)
    · have hlt : ep_cn (F P) 10 < ep_cn P 10 := ep_cn_ne (fun i _ => h1 i) (fun h => e (ep_I_ext h).symm)
      obtain ⟨n, hn⟩ := ih (F P) (hb P) (by omega) (hF _ _ h1) (ep_tr (ep_gfp_post hF) (hF _ _ h2)) (ep_I P) e
      exact ⟨n + 1, hs n b P hP hbn hn⟩
/-- a loop from the empty set, from the whole -/
theorem ep_up0 {F : (Nat → Prop) → (Nat → Prop)} (hF : ep_mono F) (hb : ∀ X, ep_bd (F X)) {W : Nat → Int32 → Int32 → Prop} {post : Int32 → Prop}
    (hx : ∀ n x, post x → W (n + 1) x x) (hs : ∀ n b P, ep_bd P → ¬ b = ep_I P → W n (ep_I P) (ep_I (F P)) → W (n + 1) b (ep_I P))
    (hp : post (ep_I (ep_lfp F))) : ∃ n, W n (-1) 0 := by
  have h := ep_up hF hb hx hs hp 10 (fun _ => False) (fun _ x => x.elim) (by omega) (fun _ x => x.elim) (fun _ x => x.elim) (-1) (ep_I_m1 _)
  rw [ep_I_0] at h
  exact h
theorem ep_down0 {F : (Nat → Prop) → (Nat → Prop)} (hF : ep_mono F) {c : Nat} (hc : c ≤ 10) (hb : ∀ X, ep_le (F X) (fun v => v < c)) {W : Nat → Int32 → Int32 → Prop} {post : Int32 → Prop}
    (hx : ∀ n x, post x → W (n + 1) x x) (hs : ∀ n b P, ep_bd P → ¬ b = ep_I P → W n (ep_I P) (ep_I (F P)) → W (n + 1) b (ep_I P))
    (hp : post (ep_I (ep_gfp F))) : ∃ n, W n (-1) (ep_I fun v => v < c) :=
  ep_down hF (fun X i x => by have := hb X i x; omega) hx hs hp 10 (fun v => v < c) (fun i x => by omega) (ep_cn_le _ 10) (hb _)
    (ep_tr (ep_gfp_post hF) (hb _)) (-1) (ep_I_m1 _)
