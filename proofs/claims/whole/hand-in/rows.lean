section
/-! sets as predicates, least and greatest fixpoints, the nested fixpoint by ranks -/
def ep_le {S : Type} (A B : S → Prop) : Prop := ∀ s, A s → B s
def ep_mono {S T : Type} (F : (S → Prop) → (T → Prop)) : Prop := ∀ A B, ep_le A B → ep_le (F A) (F B)
def ep_lfp {S : Type} (F : (S → Prop) → (S → Prop)) : S → Prop := fun s => ∀ X, ep_le (F X) X → X s
def ep_gfp {S : Type} (F : (S → Prop) → (S → Prop)) : S → Prop := fun s => ∃ X, ep_le X (F X) ∧ X s
theorem ep_eq {S : Type} {A B : S → Prop} (h1 : ep_le A B) (h2 : ep_le B A) : A = B :=
  funext fun s => propext ⟨h1 s, h2 s⟩
theorem ep_rfl {S : Type} (A : S → Prop) : ep_le A A := fun _ h => h
theorem ep_tr {S : Type} {A B C : S → Prop} (h1 : ep_le A B) (h2 : ep_le B C) : ep_le A C := fun s h => h2 s (h1 s h)
theorem ep_of_eq {S : Type} {A B : S → Prop} (h : A = B) : ep_le A B := fun _ x => h ▸ x
theorem ep_lfp_le {S : Type} {F : (S → Prop) → (S → Prop)} {X : S → Prop} (h : ep_le (F X) X) : ep_le (ep_lfp F) X :=
  fun _ hs => hs X h
theorem ep_le_gfp {S : Type} {F : (S → Prop) → (S → Prop)} {X : S → Prop} (h : ep_le X (F X)) : ep_le X (ep_gfp F) :=
  fun _ hs => ⟨X, h, hs⟩
theorem ep_lfp_pre {S : Type} {F : (S → Prop) → (S → Prop)} (hF : ep_mono F) : ep_le (F (ep_lfp F)) (ep_lfp F) :=
  fun s hs X hX => hX s (hF _ _ (ep_lfp_le hX) s hs)
theorem ep_lfp_post {S : Type} {F : (S → Prop) → (S → Prop)} (hF : ep_mono F) : ep_le (ep_lfp F) (F (ep_lfp F)) :=
  ep_lfp_le (hF _ _ (ep_lfp_pre hF))
theorem ep_gfp_post {S : Type} {F : (S → Prop) → (S → Prop)} (hF : ep_mono F) : ep_le (ep_gfp F) (F (ep_gfp F)) := by
  intro s hs
  obtain ⟨X, hX, hs⟩ := hs
  exact hF _ _ (ep_le_gfp hX) s (hX s hs)
theorem ep_gfp_pre {S : Type} {F : (S → Prop) → (S → Prop)} (hF : ep_mono F) : ep_le (F (ep_gfp F)) (ep_gfp F) :=
  ep_le_gfp (hF _ _ (ep_gfp_post hF))
theorem ep_lfp_eq {S : Type} {F : (S → Prop) → (S → Prop)} (hF : ep_mono F) : F (ep_lfp F) = ep_lfp F :=
  ep_eq (ep_lfp_pre hF) (ep_lfp_post hF)
theorem ep_gfp_eq {S : Type} {F : (S → Prop) → (S → Prop)} (hF : ep_mono F) : F (ep_gfp F) = ep_gfp F :=
  ep_eq (ep_gfp_pre hF) (ep_gfp_post hF)
theorem ep_lfp_mono {S : Type} {F G : (S → Prop) → (S → Prop)} (h : ∀ X, ep_le (F X) (G X)) : ep_le (ep_lfp F) (ep_lfp G) :=
  fun _ hs X hX => hs X (fun t ht => hX t (h X t ht))
theorem ep_gfp_mono {S : Type} {F G : (S → Prop) → (S → Prop)} (h : ∀ X, ep_le (F X) (G X)) : ep_le (ep_gfp F) (ep_gfp G) := by
  intro s hs
  obtain ⟨X, hX, hs⟩ := hs
  exact ⟨X, fun t ht => h X t (hX t ht), hs⟩
theorem ep_lfp_ind {S : Type} {F : (S → Prop) → (S → Prop)} (hF : ep_mono F) {X : S → Prop}
    (h : ∀ s, F (fun t => X t ∧ ep_lfp F t) s → X s) : ep_le (ep_lfp F) X := by
  have h2 : ep_le (ep_lfp F) (fun t => X t ∧ ep_lfp F t) := by
    apply ep_lfp_le
    intro s hs
    exact ⟨h s hs, ep_lfp_pre hF s (hF _ _ (fun t ht => ht.2) s hs)⟩
  exact fun s hs => (h2 s hs).1
theorem ep_gfp_ind {S : Type} {F : (S → Prop) → (S → Prop)} (hF : ep_mono F) {X : S → Prop}
    (h : ∀ s, X s → F (fun t => X t ∨ ep_gfp F t) s) : ep_le X (ep_gfp F) := by
  have h2 : ep_le (fun t => X t ∨ ep_gfp F t) (ep_gfp F) := by
    apply ep_le_gfp
    intro s hs
    cases hs with
    | inl hs => exact h s hs
    | inr hs => exact hF _ _ (fun t ht => Or.inr ht) s (ep_gfp_post hF s hs)
  exact fun s hs => h2 s (Or.inl hs)
theorem ep_lfp_const {S : Type} (A : S → Prop) : ep_lfp (fun _ => A) = A :=
  ep_eq (ep_lfp_le (ep_rfl A)) (fun s hs X hX => hX s hs)
theorem ep_gfp_const {S : Type} (A : S → Prop) : ep_gfp (fun _ => A) = A :=
  ep_eq (fun s ⟨_, hX, hs⟩ => hX s hs) (ep_le_gfp (ep_rfl A))
def ep_not {S : Type} (A : S → Prop) : S → Prop := fun s => ¬ A s
theorem ep_nn {S : Type} (A : S → Prop) : ep_not (ep_not A) = A := funext fun s => propext Classical.not_not
def ep_du {S T : Type} (F : (S → Prop) → (T → Prop)) : (S → Prop) → (T → Prop) := fun X => ep_not (F (ep_not X))
theorem ep_du_mono {S T : Type} {F : (S → Prop) → (T → Prop)} (h : ep_mono F) : ep_mono (ep_du F) :=
  fun A B hab s hs hx => hs (h (ep_not B) (ep_not A) (fun t ht ha => ht (hab t ha)) s hx)
theorem ep_not_gfp {S : Type} (F : (S → Prop) → (S → Prop)) : ep_not (ep_gfp F) = ep_lfp (ep_du F) := by
  apply ep_eq
  · intro s hs X hX
    apply Classical.byContradiction
    intro hx
    refine hs ⟨ep_not X, ?_, hx⟩
    intro t ht
    apply Classical.byContradiction
    intro hf
    exact ht (hX t hf)
  · intro s hs hg
    obtain ⟨X, hX, hx⟩ := hg
    refine hs (ep_not X) ?_ hx
    intro t ht hxt
    refine ht ?_
    rw [ep_nn]
    exact hX t hxt
theorem ep_not_lfp {S : Type} (F : (S → Prop) → (S → Prop)) : ep_not (ep_lfp F) = ep_gfp (ep_du F) := by
  have h := ep_not_gfp (ep_du F)
  have e : ep_du (ep_du F) = F := by
    funext X
    show ep_not (ep_not (F (ep_not (ep_not X)))) = F X
    rw [ep_nn, ep_nn]
  rw [e] at h
  rw [← h, ep_nn]

/-- rank e: the greatest fixpoint if e is even, the least if e is odd -/
def ep_fix {S : Type} (e : Nat) (F : (S → Prop) → (S → Prop)) : S → Prop := if e % 2 = 0 then ep_gfp F else ep_lfp F
theorem ep_fix_even {S : Type} {e : Nat} (h : e % 2 = 0) (F : (S → Prop) → (S → Prop)) : ep_fix e F = ep_gfp F := if_pos h
theorem ep_fix_odd {S : Type} {e : Nat} (h : e % 2 = 1) (F : (S → Prop) → (S → Prop)) : ep_fix e F = ep_lfp F :=
  if_neg (by omega)
theorem ep_par (e : Nat) : e % 2 = 0 ∨ e % 2 = 1 := by omega
theorem ep_fix_eq {S : Type} {F : (S → Prop) → (S → Prop)} (e : Nat) (hF : ep_mono F) : F (ep_fix e F) = ep_fix e F := by
  rcases ep_par e with h | h
  · rw [ep_fix_even h]; exact ep_gfp_eq hF
  · rw [ep_fix_odd h]; exact ep_lfp_eq hF
theorem ep_fix_mono {S : Type} {F G : (S → Prop) → (S → Prop)} (e : Nat) (h : ∀ X, ep_le (F X) (G X)) : ep_le (ep_fix e F) (ep_fix e G) := by
  rcases ep_par e with h' | h'
  · rw [ep_fix_even h', ep_fix_even h']; exact ep_gfp_mono h
  · rw [ep_fix_odd h', ep_fix_odd h']; exact ep_lfp_mono h
theorem ep_fix_const {S : Type} (e : Nat) (A : S → Prop) : ep_fix e (fun _ => A) = A := by
  rcases ep_par e with h' | h'
  · rw [ep_fix_even h']; exact ep_gfp_const A
  · rw [ep_fix_odd h']; exact ep_lfp_const A

/-- W with its states of rank r taken from Z -/
def ep_at {S : Type} (rk : S → Nat) (r : Nat) (W Z : S → Prop) : S → Prop :=
  fun s => (rk s = r ∧ Z s) ∨ (rk s ≠ r ∧ W s)
theorem ep_at_eq {S : Type} {rk : S → Nat} {r : Nat} {W Z : S → Prop} {s : S} (h : rk s = r) : ep_at rk r W Z s = Z s :=
  propext ⟨fun x => x.elim (fun y => y.2) (fun y => absurd h y.1), fun x => Or.inl ⟨h, x⟩⟩
theorem ep_at_ne {S : Type} {rk : S → Nat} {r : Nat} {W Z : S → Prop} {s : S} (h : rk s ≠ r) : ep_at rk r W Z s = W s :=
  propext ⟨fun x => x.elim (fun y => absurd y.1 h) (fun y => y.2), fun x => Or.inr ⟨h, x⟩⟩
/-- the states of rank below r solved, greatest rank outermost; those of rank r and above as W has them -/
def ep_sol {S : Type} (rk : S → Nat) (cp : (S → Prop) → (S → Prop)) : Nat → (S → Prop) → (S → Prop)
  | 0, W => W
  | r + 1, W => ep_fix r (fun X => ep_sol rk cp r (ep_at rk r W (cp X)))
theorem ep_sol_s {S : Type} (rk : S → Nat) (cp : (S → Prop) → (S → Prop)) (r : Nat) (W : S → Prop) :
    ep_sol rk cp (r + 1) W = ep_fix r (fun X => ep_sol rk cp r (ep_at rk r W (cp X))) := rfl
theorem ep_sol_0 {S : Type} (rk : S → Nat) (cp : (S → Prop) → (S → Prop)) (W : S → Prop) : ep_sol rk cp 0 W = W := rfl
theorem ep_sol_mono {S : Type} (rk : S → Nat) (cp : (S → Prop) → (S → Prop)) : ∀ (r : Nat) (W W' : S → Prop),
    (∀ s, r ≤ rk s → W s → W' s) → ep_le (ep_sol rk cp r W) (ep_sol rk cp r W') := by
  intro r
  induction r with
  | zero => intro W W' h s hs; exact h s (Nat.zero_le _) hs
  | succ r ih =>
    intro W W' h
    rw [ep_sol_s, ep_sol_s]
    apply ep_fix_mono
    intro X
    apply ih
    intro s hs ha
    cases ha with
    | inl ha => exact Or.inl ha
    | inr ha =>
      have h1 := ha.1
      exact Or.inr ⟨h1, h s (by omega) ha.2⟩
theorem ep_sol_dep {S : Type} (rk : S → Nat) (cp : (S → Prop) → (S → Prop)) (r : Nat) {W W' : S → Prop}
    (h : ∀ s, r ≤ rk s → (W s ↔ W' s)) : ep_sol rk cp r W = ep_sol rk cp r W' :=
  ep_eq (ep_sol_mono rk cp r _ _ fun s hs => (h s hs).1) (ep_sol_mono rk cp r _ _ fun s hs => (h s hs).2)
theorem ep_solF {S : Type} (rk : S → Nat) {cp : (S → Prop) → (S → Prop)} (hc : ep_mono cp) (r : Nat) (W : S → Prop) :
    ep_mono (fun X => ep_sol rk cp r (ep_at rk r W (cp X))) := by
  intro A B hab
  apply ep_sol_mono
  intro s _ ha
  cases ha with
  | inl ha => exact Or.inl ⟨ha.1, hc A B hab s ha.2⟩
  | inr ha => exact Or.inr ha
theorem ep_sol_un {S : Type} (rk : S → Nat) {cp : (S → Prop) → (S → Prop)} (hc : ep_mono cp) (r : Nat) (W : S → Prop) :
    ep_sol rk cp (r + 1) W = ep_sol rk cp r (ep_at rk r W (cp (ep_sol rk cp (r + 1) W))) :=
  (ep_fix_eq r (ep_solF rk hc r W)).symm
theorem ep_sol_hi {S : Type} (rk : S → Nat) {cp : (S → Prop) → (S → Prop)} (hc : ep_mono cp) : ∀ (r : Nat) (W : S → Prop) (s : S),
    r ≤ rk s → (ep_sol rk cp r W s ↔ W s) := by
  intro r
  induction r with
  | zero => intro W s _; exact Iff.rfl
  | succ r ih =>
    intro W s hs
    rw [ep_sol_un rk hc, ih _ s (by omega), ep_at_ne (by omega)]
theorem ep_sol_skip {S : Type} (rk : S → Nat) (cp : (S → Prop) → (S → Prop)) (r : Nat) (W : S → Prop) (h : ∀ s, rk s ≠ r) :
    ep_sol rk cp (r + 1) W = ep_sol rk cp r W := by
  have e : (fun X => ep_sol rk cp r (ep_at rk r W (cp X))) = fun _ => ep_sol rk cp r W := by
    funext X
    have e2 : ep_at rk r W (cp X) = W := by
      funext s
      exact ep_at_ne (h s)
    rw [e2]
  rw [ep_sol_s, e, ep_fix_const]
theorem ep_sol_ind {S : Type} {rk : S → Nat} {cp : (S → Prop) → (S → Prop)} (hc : ep_mono cp) {r : Nat} {W T : S → Prop} (ho : r % 2 = 1)
    (h : ep_le (ep_sol rk cp r (ep_at rk r W (cp (fun s => T s ∧ ep_sol rk cp (r + 1) W s)))) T) : ep_le (ep_sol rk cp (r + 1) W) T := by
  rw [ep_sol_s, ep_fix_odd ho] at *
  exact ep_lfp_ind (ep_solF rk hc r W) h
theorem ep_sol_co {S : Type} {rk : S → Nat} {cp : (S → Prop) → (S → Prop)} {r : Nat} {W T : S → Prop} (he : r % 2 = 0)
    (h : ep_le T (ep_sol rk cp r (ep_at rk r W (cp T)))) : ep_le T (ep_sol rk cp (r + 1) W) := by
  rw [ep_sol_s, ep_fix_even he]
  exact ep_le_gfp h
theorem ep_not_at {S : Type} (rk : S → Nat) (r : Nat) (W Z : S → Prop) : ep_not (ep_at rk r W Z) = ep_at rk r (ep_not W) (ep_not Z) := by
  funext s
  by_cases h : rk s = r
  · rw [ep_at_eq h]; show (¬ ep_at rk r W Z s) = _; rw [ep_at_eq h]; rfl
  · rw [ep_at_ne h]; show (¬ ep_at rk r W Z s) = _; rw [ep_at_ne h]; rfl
theorem ep_at_sh {S : Type} (rk : S → Nat) (r : Nat) (W Z : S → Prop) : ep_at rk r W Z = ep_at (fun s => rk s + 1) (r + 1) W Z := by
  funext s
  by_cases h : rk s = r
  · rw [ep_at_eq h, ep_at_eq (by show rk s + 1 = r + 1; omega)]
  · rw [ep_at_ne h, ep_at_ne (by show rk s + 1 ≠ r + 1; omega)]
/-- what player 1 has: the same with the ranks one higher and the other's force -/
theorem ep_sol_du {S : Type} (rk : S → Nat) (cp : (S → Prop) → (S → Prop)) : ∀ (r : Nat) (W : S → Prop),
    ep_not (ep_sol rk cp r W) = ep_sol (fun s => rk s + 1) (ep_du cp) (r + 1) (ep_not W) := by
  intro r
  induction r with
  | zero =>
    intro W
    rw [ep_sol_skip _ _ 0 _ (fun s => by show rk s + 1 ≠ 0; omega)]
    rfl
  | succ r ih =>
    intro W
    have e : ep_du (fun X => ep_sol rk cp r (ep_at rk r W (cp X))) =
        fun X => ep_sol (fun s => rk s + 1) (ep_du cp) (r + 1) (ep_at (fun s => rk s + 1) (r + 1) (ep_not W) (ep_du cp X)) := by
      funext X
      show ep_not (ep_sol rk cp r (ep_at rk r W (cp (ep_not X)))) = _
      rw [ih, ep_not_at, ep_at_sh]
      rfl
    rw [ep_sol_s rk, ep_sol_s _ _ (r + 1), ← e]
    rcases ep_par r with h | h
    · rw [ep_fix_even h, ep_fix_odd (by omega), ep_not_gfp]
    · rw [ep_fix_odd h, ep_fix_even (by omega), ep_not_lfp]

/-! the settling of ranks by turns -/
def ep_inv {S : Type} (rk : S → Nat) (cp : (S → Prop) → (S → Prop)) (W : S → Prop) : Prop :=
  ∀ r, (r % 2 = 0 → ep_le (ep_sol rk cp (r + 1) W) (ep_sol rk cp r W) ∧ ∀ s, rk s = r → cp (ep_sol rk cp r W) s → W s) ∧
    (r % 2 = 1 → ep_le (ep_sol rk cp r W) (ep_sol rk cp (r + 1) W) ∧ ∀ s, rk s = r → W s → cp (ep_sol rk cp r W) s)
theorem ep_inv_adv {S : Type} {rk : S → Nat} {cp : (S → Prop) → (S → Prop)} {W : S → Prop} {r : Nat}
    (hi : ep_inv rk cp W) (h : ep_sol rk cp r W = W) (hf : ∀ s, rk s = r → (cp W s ↔ W s)) : ep_sol rk cp (r + 1) W = W := by
  have e : ep_at rk r W (cp W) = W := by
    funext s
    by_cases hr : rk s = r
    · rw [ep_at_eq hr]; exact propext (hf s hr)
    · rw [ep_at_ne hr]
  have e2 : ep_sol rk cp r (ep_at rk r W (cp W)) = W := by rw [e, h]
  rcases ep_par r with hp | hp
  · have h1 := ((hi r).1 hp).1
    rw [h] at h1
    exact ep_eq h1 (ep_sol_co hp (ep_of_eq e2.symm))
  · have h1 := ((hi r).2 hp).1
    rw [h] at h1
    refine ep_eq ?_ h1
    rw [ep_sol_s, ep_fix_odd hp]
    exact ep_lfp_le (ep_of_eq e2)
/-- the states below rank r at their start -/
def ep_start {S : Type} (rk : S → Nat) (dom : S → Prop) (W : S → Prop) (r : Nat) (W2 : S → Prop) : Prop :=
  ∀ s, (r ≤ rk s → (W2 s ↔ W s)) ∧ (rk s < r → rk s % 2 = 0 → (W2 s ↔ dom s)) ∧ (rk s < r → rk s % 2 = 1 → ¬ W2 s)
theorem ep_inv_low {S : Type} {rk : S → Nat} {cp : (S → Prop) → (S → Prop)} (hc : ep_mono cp) {dom W W2 : S → Prop} {p r : Nat}
    (hd : ∀ X, ep_le (cp X) dom) (hs : ep_start rk dom W p W2) (hr : r < p) :
    (r % 2 = 0 → ep_le (ep_sol rk cp (r + 1) W2) (ep_sol rk cp r W2) ∧ ∀ s, rk s = r → cp (ep_sol rk cp r W2) s → W2 s) ∧
    (r % 2 = 1 → ep_le (ep_sol rk cp r W2) (ep_sol rk cp (r + 1) W2) ∧ ∀ s, rk s = r → W2 s → cp (ep_sol rk cp r W2) s) := by
  constructor
  · intro he
    constructor
    · rw [ep_sol_un rk hc]
      apply ep_sol_mono
      intro s _ ha
      cases ha with
      | inl ha => exact ((hs s).2.1 (by omega) (by omega)).mpr (hd _ s ha.2)
      | inr ha => exact ha.2
    · intro s hrs hcs
      exact ((hs s).2.1 (by omega) (by omega)).mpr (hd _ s hcs)
  · intro ho
    constructor
    · rw [ep_sol_un rk hc r W2]
      apply ep_sol_mono
      intro s _ ha
      by_cases hrs : rk s = r
      · exact absurd ha ((hs s).2.2 (by omega) (by omega))
      · exact Or.inr ⟨hrs, ha⟩
    · intro s hrs hw
      exact absurd hw ((hs s).2.2 (by omega) (by omega))
theorem ep_inv_0 {S : Type} {rk : S → Nat} {cp : (S → Prop) → (S → Prop)} (hc : ep_mono cp) {dom W W2 : S → Prop} {p : Nat}
    (hd : ∀ X, ep_le (cp X) dom) (hp : ∀ s, rk s < p) (hs : ep_start rk dom W p W2) : ep_inv rk cp W2 := by
  intro r
  by_cases hlt : r < p
  · exact ep_inv_low hc hd hs hlt
  · have hne : ∀ s, rk s ≠ r := fun s e => by have := hp s; omega
    rw [ep_sol_skip rk cp r W2 hne]
    exact ⟨fun _ => ⟨ep_rfl _, fun s hrs => absurd hrs (hne s)⟩, fun _ => ⟨ep_rfl _, fun s hrs => absurd hrs (hne s)⟩⟩
theorem ep_inv_chg {S : Type} {rk : S → Nat} {cp : (S → Prop) → (S → Prop)} (hc : ep_mono cp) {dom W W1 W2 : S → Prop} {p : Nat}
    (hd : ∀ X, ep_le (cp X) dom) (hi : ep_inv rk cp W) (h : ep_sol rk cp p W = W)
    (h1 : ∀ s, (rk s = p → (W1 s ↔ cp W s)) ∧ (rk s ≠ p → (W1 s ↔ W s))) (hs : ep_start rk dom W1 p W2) : ep_inv rk cp W2 := by
  have dep : ∀ r, p ≤ r → ep_sol rk cp r W2 = ep_sol rk cp r W1 := fun r hr => ep_sol_dep rk cp r fun s hrs => (hs s).1 (by omega)
  have dep2 : ∀ r, p < r → ep_sol rk cp r W2 = ep_sol rk cp r W := fun r hr => by
    rw [dep r (by omega)]
    exact ep_sol_dep rk cp r fun s hrs => (h1 s).2 (by omega)
  have eF : ep_sol rk cp p W2 = ep_sol rk cp p (ep_at rk p W (cp W)) := by
    rw [dep p (Nat.le_refl p)]
    apply ep_sol_dep
    intro s _
    by_cases hr : rk s = p
    · rw [ep_at_eq hr]; exact (h1 s).1 hr
    · rw [ep_at_ne hr]; exact (h1 s).2 hr
  intro r
  by_cases hlt : r < p
  · exact ep_inv_low hc hd hs hlt
  · by_cases heq : r = p
    · subst heq
      constructor
      · intro he
        have hI := (hi r).1 he
        rw [h] at hI
        have hle : ep_le (ep_sol rk cp r W2) W := by
          rw [eF]
          refine ep_tr (ep_sol_mono rk cp r _ W ?_) (ep_of_eq h)
          intro s _ ha
          cases ha with
          | inl ha => exact hI.2 s ha.1 ha.2
          | inr ha => exact ha.2
        constructor
        · rw [dep2 (r + 1) (by omega), eF, ep_sol_un rk hc r W]
          exact ep_solF rk hc r W _ _ hI.1
        · intro s hrs hcs
          exact ((hs s).1 (by omega)).mpr (((h1 s).1 hrs).mpr (hc _ _ hle s hcs))
      · intro ho
        have hI := (hi r).2 ho
        rw [h] at hI
        have hle : ep_le W (ep_sol rk cp r W2) := by
          rw [eF]
          refine ep_tr (ep_of_eq h.symm) (ep_sol_mono rk cp r W _ ?_)
          intro s _ ha
          by_cases hrs : rk s = r
          · exact Or.inl ⟨hrs, hI.2 s hrs ha⟩
          · exact Or.inr ⟨hrs, ha⟩
        constructor
        · rw [dep2 (r + 1) (by omega), eF, ep_sol_un rk hc r W]
          exact ep_solF rk hc r W _ _ hI.1
        · intro s hrs hw
          exact hc _ _ hle s (((h1 s).1 hrs).mp (((hs s).1 (by omega)).mp hw))
    · have hw : ∀ s, rk s = r → (W2 s ↔ W s) := fun s hrs => ((hs s).1 (by omega)).trans ((h1 s).2 (by omega))
      constructor
      · intro he
        have hI := (hi r).1 he
        rw [dep2 (r + 1) (by omega), dep2 r (by omega)]
        exact ⟨hI.1, fun s hrs hcs => (hw s hrs).mpr (hI.2 s hrs hcs)⟩
      · intro ho
        have hI := (hi r).2 ho
        rw [dep2 (r + 1) (by omega), dep2 r (by omega)]
        exact ⟨hI.1, fun s hrs hcs => hI.2 s hrs ((hw s hrs).mp hcs)⟩
end
section
/-! the reference's formulas over a monotone force -/
def ep_F (n : Nat) (f : (Nat → Prop) → (Nat → Prop)) : Prop :=
  (∀ A B : Nat → Prop, (∀ w, w < n → A w → B w) → ∀ v, f A v → f B v) ∧ (∀ (A : Nat → Prop) (v : Nat), f A v → v < n)
def ep_C (n : Nat) (f : (Nat → Prop) → (Nat → Prop)) (M : Nat) (nm : Nat → Nat → Nat) (cp : (Nat × Nat → Prop) → (Nat × Nat → Prop)) : Prop :=
  ep_mono cp ∧ ∀ (X : Nat × Nat → Prop) (m v : Nat), m < M → v < n → (cp X (m, v) ↔ f (fun w => X (nm m v, w)) v)
theorem ep_F_mono {n : Nat} {f : (Nat → Prop) → (Nat → Prop)} (h : ep_F n f) : ep_mono f :=
  fun A B hab v hv => h.1 A B (fun w _ => hab w) v hv
theorem ep_c1 {n M : Nat} {f : (Nat → Prop) → (Nat → Prop)} {nm : Nat → Nat → Nat} {cp : (Nat × Nat → Prop) → (Nat × Nat → Prop)}
    (hF : ep_F n f) (hC : ep_C n f M nm cp) {X : Nat × Nat → Prop} {A : Nat → Prop} {m v : Nat} (m' : Nat) (hm : m < M) (hv : v < n) (e : nm m v = m')
    (h : cp X (m, v)) (hA : ∀ w, w < n → X (m', w) → A w) : f A v := by
  have h1 := (hC.2 X m v hm hv).1 h
  rw [e] at h1
  exact hF.1 _ _ hA v h1
theorem ep_c2 {n M : Nat} {f : (Nat → Prop) → (Nat → Prop)} {nm : Nat → Nat → Nat} {cp : (Nat × Nat → Prop) → (Nat × Nat → Prop)}
    (hF : ep_F n f) (hC : ep_C n f M nm cp) {X : Nat × Nat → Prop} {A : Nat → Prop} {m v : Nat} (m' : Nat) (hm : m < M) (e : nm m v = m')
    (h : f A v) (hA : ∀ w, w < n → A w → X (m', w)) : cp X (m, v) := by
  refine (hC.2 X m v hm (hF.2 _ _ h)).2 ?_
  rw [e]
  exact hF.1 _ _ hA v h
def ep_rF (f : (Nat → Prop) → (Nat → Prop)) (P T : Nat → Prop) : (Nat → Prop) → (Nat → Prop) := fun X v => P v ∨ (T v ∧ f X v)
def ep_reach (f : (Nat → Prop) → (Nat → Prop)) (P T : Nat → Prop) : Nat → Prop := ep_lfp (ep_rF f P T)
def ep_stay (f : (Nat → Prop) → (Nat → Prop)) (T P : Nat → Prop) : Nat → Prop := ep_gfp (ep_rF f P T)
theorem ep_rF_mono {f : (Nat → Prop) → (Nat → Prop)} (h : ep_mono f) (P T : Nat → Prop) : ep_mono (ep_rF f P T) :=
  fun A B hab v hv => hv.elim Or.inl (fun x => Or.inr ⟨x.1, h A B hab v x.2⟩)
theorem ep_reach_out {f : (Nat → Prop) → (Nat → Prop)} (h : ep_mono f) {P T : Nat → Prop} (v : Nat) (x : ep_reach f P T v) :
    P v ∨ (T v ∧ f (ep_reach f P T) v) := ep_lfp_post (ep_rF_mono h P T) v x
theorem ep_reach_in {f : (Nat → Prop) → (Nat → Prop)} (h : ep_mono f) {P T : Nat → Prop} (v : Nat) (x : P v ∨ (T v ∧ f (ep_reach f P T) v)) :
    ep_reach f P T v := ep_lfp_pre (ep_rF_mono h P T) v x
theorem ep_reach_ind {f : (Nat → Prop) → (Nat → Prop)} (h : ep_mono f) {P T X : Nat → Prop} (h1 : ∀ v, P v → X v)
    (h2 : ∀ v, T v → f (fun w => X w ∧ ep_reach f P T w) v → X v) : ep_le (ep_reach f P T) X :=
  ep_lfp_ind (ep_rF_mono h P T) (fun s hs => hs.elim (h1 s) (fun y => h2 s y.1 y.2))
theorem ep_reach_mono {f : (Nat → Prop) → (Nat → Prop)} {P T P' T' : Nat → Prop} (h1 : ep_le P P') (h2 : ep_le T T') :
    ep_le (ep_reach f P T) (ep_reach f P' T') :=
  ep_lfp_mono (fun _ s hs => hs.elim (fun x => Or.inl (h1 s x)) (fun x => Or.inr ⟨h2 s x.1, x.2⟩))
theorem ep_stay_out {f : (Nat → Prop) → (Nat → Prop)} (h : ep_mono f) {P T : Nat → Prop} (v : Nat) (x : ep_stay f T P v) :
    P v ∨ (T v ∧ f (ep_stay f T P) v) := ep_gfp_post (ep_rF_mono h P T) v x
theorem ep_stay_in {f : (Nat → Prop) → (Nat → Prop)} (h : ep_mono f) {P T : Nat → Prop} (v : Nat) (x : P v ∨ (T v ∧ f (ep_stay f T P) v)) :
    ep_stay f T P v := ep_gfp_pre (ep_rF_mono h P T) v x
theorem ep_stay_co {f : (Nat → Prop) → (Nat → Prop)} {P T X : Nat → Prop} (h1 : ∀ v, X v → P v ∨ (T v ∧ f X v)) :
    ep_le X (ep_stay f T P) := ep_le_gfp h1
theorem ep_stay_mono {f : (Nat → Prop) → (Nat → Prop)} {P T P' T' : Nat → Prop} (h1 : ep_le P P') (h2 : ep_le T T') :
    ep_le (ep_stay f T P) (ep_stay f T' P') :=
  ep_gfp_mono (fun _ s hs => hs.elim (fun x => Or.inl (h1 s x)) (fun x => Or.inr ⟨h2 s x.1, x.2⟩))
def ep_againF (f : (Nat → Prop) → (Nat → Prop)) (al a : Nat → Prop) : (Nat → Prop) → (Nat → Prop) :=
  fun Y => ep_reach f (fun v => a v ∧ f Y v) al
def ep_again (f : (Nat → Prop) → (Nat → Prop)) (al a : Nat → Prop) : Nat → Prop := ep_gfp (ep_againF f al a)
theorem ep_againF_mono {f : (Nat → Prop) → (Nat → Prop)} (h : ep_mono f) (al a : Nat → Prop) : ep_mono (ep_againF f al a) :=
  fun A B hab => ep_reach_mono (fun v x => ⟨x.1, h A B hab v x.2⟩) (ep_rfl al)
theorem ep_again_in {f : (Nat → Prop) → (Nat → Prop)} (h : ep_mono f) {al a Y : Nat → Prop} (v : Nat) (x : (a v ∧ f Y v) ∨ (al v ∧ f (ep_againF f al a Y) v)) :
    ep_againF f al a Y v := ep_reach_in (P := fun v => a v ∧ f Y v) (T := al) h v x
theorem ep_again_ind {f : (Nat → Prop) → (Nat → Prop)} (h : ep_mono f) {al a Y X : Nat → Prop} (h1 : ∀ v, a v ∧ f Y v → X v)
    (h2 : ∀ v, al v → f (fun w => X w ∧ ep_againF f al a Y w) v → X v) : ep_le (ep_againF f al a Y) X :=
  ep_reach_ind (P := fun v => a v ∧ f Y v) (T := al) h h1 h2
def ep_endF (f : (Nat → Prop) → (Nat → Prop)) (a : Nat → Prop) : (Nat → Prop) → (Nat → Prop) := fun X => ep_stay f a (f X)
def ep_end (f : (Nat → Prop) → (Nat → Prop)) (a : Nat → Prop) : Nat → Prop := ep_lfp (ep_endF f a)
theorem ep_endF_mono {f : (Nat → Prop) → (Nat → Prop)} (h : ep_mono f) (a : Nat → Prop) : ep_mono (ep_endF f a) :=
  fun A B hab => ep_stay_mono (h A B hab) (ep_rfl a)
def ep_bothF (f : (Nat → Prop) → (Nat → Prop)) (al a b : Nat → Prop) : (Nat → Prop) → (Nat → Prop) :=
  fun Z v => ep_againF f al a Z v ∧ ep_againF f al b Z v
def ep_both (f : (Nat → Prop) → (Nat → Prop)) (al a b : Nat → Prop) : Nat → Prop := ep_gfp (ep_bothF f al a b)
theorem ep_bothF_mono {f : (Nat → Prop) → (Nat → Prop)} (h : ep_mono f) (al a b : Nat → Prop) : ep_mono (ep_bothF f al a b) :=
  fun A B hab v x => ⟨ep_againF_mono h al a A B hab v x.1, ep_againF_mono h al b A B hab v x.2⟩
theorem ep_sol_1 {S : Type} {rk : S → Nat} {cp : (S → Prop) → (S → Prop)} (hc : ep_mono cp) (h0 : ∀ s, rk s ≠ 0) (W : S → Prop) :
    ep_sol rk cp 2 W = ep_at rk 1 W (cp (ep_sol rk cp 2 W)) := by
  have h := ep_sol_un rk hc 1 W
  rw [ep_sol_skip rk cp 0 _ h0, ep_sol_0] at h
  exact h

/-- goal 2 -/
theorem ep_g2 {n : Nat} {f : (Nat → Prop) → (Nat → Prop)} {cp : (Nat × Nat → Prop) → (Nat × Nat → Prop)} {nm : Nat → Nat → Nat}
    {rk : Nat × Nat → Nat} {W0 : Nat × Nat → Prop} (hF : ep_F n f) (hC : ep_C n f 1 nm cp) {a : Nat → Prop}
    (hn : ∀ v, nm 0 v = 0) (h2 : ∀ v, a v → rk (0, v) = 2) (h1 : ∀ v, ¬ a v → rk (0, v) = 1) (h0 : ∀ s, rk s ≠ 0) (v : Nat) (hv : v < n) :
    ep_sol rk cp 3 W0 (0, v) ↔ ep_again f (fun v => v < n) a v := by
  have hm := ep_F_mono hF
  have hc := hC.1
  obtain ⟨R, eR⟩ : ∃ R, R = ep_again f (fun v => v < n) a := ⟨_, rfl⟩
  obtain ⟨U, eU⟩ : ∃ U, U = ep_sol rk cp 3 W0 := ⟨_, rfl⟩
  rw [← eR, ← eU]
  have Uun : U = ep_sol rk cp 2 (ep_at rk 2 W0 (cp U)) := by rw [eU]; exact ep_sol_un rk hc 2 W0
  constructor
  · intro h
    have key : ep_le (fun w => U (0, w) ∧ w < n) R := by
      rw [eR]
      apply ep_le_gfp
      obtain ⟨L, eL⟩ : ∃ L, L = ep_againF f (fun v => v < n) a (fun w => U (0, w) ∧ w < n) := ⟨_, rfl⟩
      have Lin : ∀ v, (a v ∧ f (fun w => U (0, w) ∧ w < n) v) ∨ (v < n ∧ f L v) → L v := by
        rw [eL]; exact ep_again_in hm
      rw [← eL]
      have hT : ep_le U (fun s => s.1 = 0 → s.2 < n → L s.2) := by
        rw [Uun]
        refine ep_sol_ind hc rfl ?_
        rw [ep_sol_skip rk cp 0 _ h0, ep_sol_0]
        rintro ⟨m, w⟩ hs hm0 hw
        have hm0 : m = 0 := hm0
        have hw : w < n := hw
        subst hm0
        by_cases ha : a w
        · rw [ep_at_ne (by have := h2 w ha; omega), ep_at_eq (h2 w ha)] at hs
          exact Lin w (Or.inl ⟨ha, ep_c1 hF hC 0 (by decide) hw (hn w) hs (fun x hx hU => ⟨hU, hx⟩)⟩)
        · rw [ep_at_eq (h1 w ha)] at hs
          exact Lin w (Or.inr ⟨hw, ep_c1 hF hC 0 (by decide) hw (hn w) hs (fun x hx hT => hT.1 rfl hx)⟩)
      exact fun w hw => hT (0, w) hw.1 rfl hw.2
    exact key v ⟨h, hv⟩
  · intro h
    have Run : ∀ v, R v → ep_againF f (fun v => v < n) a R v := by rw [eR]; exact ep_gfp_post (ep_againF_mono hm _ a)
    have Rin : ∀ v, ep_againF f (fun v => v < n) a R v → R v := by rw [eR]; exact ep_gfp_pre (ep_againF_mono hm _ a)
    have hT : ep_le (fun s => s.1 = 0 ∧ R s.2) U := by
      rw [eU]
      refine ep_sol_co rfl ?_
      obtain ⟨V, eV⟩ : ∃ V, V = ep_sol rk cp 2 (ep_at rk 2 W0 (cp fun s => s.1 = 0 ∧ R s.2)) := ⟨_, rfl⟩
      have Vun : V = ep_at rk 1 (ep_at rk 2 W0 (cp fun s => s.1 = 0 ∧ R s.2)) (cp V) := by rw [eV]; exact ep_sol_1 hc h0 _
      rw [← eV]
      rintro ⟨m, w⟩ ⟨hm0, hR⟩
      have hm0 : m = 0 := hm0
      subst hm0
      have hL : ep_le (ep_againF f (fun v => v < n) a R) (fun w => V (0, w)) := by
        refine ep_again_ind hm ?_ ?_
        · rintro x ⟨hax, hfx⟩
          show V (0, x)
          rw [Vun, ep_at_ne (by have := h2 x hax; omega), ep_at_eq (h2 x hax)]
          exact ep_c2 hF hC 0 (by decide) (hn x) hfx (fun y _ hy => ⟨rfl, hy⟩)
        · intro x hxn hfx
          show V (0, x)
          by_cases hax : a x
          · rw [Vun, ep_at_ne (by have := h2 x hax; omega), ep_at_eq (h2 x hax)]
            exact ep_c2 hF hC 0 (by decide) (hn x) hfx (fun y _ hy => ⟨rfl, Rin y hy.2⟩)
          · rw [Vun, ep_at_eq (h1 x hax)]
            exact ep_c2 hF hC 0 (by decide) (hn x) hfx (fun y _ hy => hy.1)
      exact hL w (Run w hR)
    exact hT (0, v) ⟨rfl, h⟩

/-- goal 3 -/
theorem ep_g3 {n : Nat} {f : (Nat → Prop) → (Nat → Prop)} {cp : (Nat × Nat → Prop) → (Nat × Nat → Prop)} {nm : Nat → Nat → Nat}
    {rk : Nat × Nat → Nat} {W0 : Nat × Nat → Prop} (hF : ep_F n f) (hC : ep_C n f 1 nm cp) {a : Nat → Prop}
    (hn : ∀ v, nm 0 v = 0) (h0 : ∀ v, a v → rk (0, v) = 0) (h1 : ∀ v, ¬ a v → rk (0, v) = 1) (v : Nat) (hv : v < n) :
    ep_sol rk cp 2 W0 (0, v) ↔ ep_end f a v := by
  have hm := ep_F_mono hF
  have hc := hC.1
  obtain ⟨R, eR⟩ : ∃ R, R = ep_end f a := ⟨_, rfl⟩
  rw [← eR]
  have Rin : ∀ v, ep_stay f a (f R) v → R v := by rw [eR]; exact ep_lfp_pre (ep_endF_mono hm a)
  constructor
  · intro h
    have key : ep_le (ep_sol rk cp 2 W0) (fun s => s.1 = 0 → s.2 < n → R s.2) := by
      refine ep_sol_ind hc rfl ?_
      obtain ⟨T, eT⟩ : ∃ T : Nat × Nat → Prop, T = fun s => (s.1 = 0 → s.2 < n → R s.2) ∧ ep_sol rk cp (1 + 1) W0 s := ⟨_, rfl⟩
      rw [← eT]
      obtain ⟨U, eU⟩ : ∃ U, U = ep_sol rk cp 1 (ep_at rk 1 W0 (cp T)) := ⟨_, rfl⟩
      have Uun : U = ep_at rk 0 (ep_at rk 1 W0 (cp T)) (cp U) := by rw [eU]; exact ep_sol_un rk hc 0 _
      rw [← eU]
      have hS : ep_le (fun w => U (0, w) ∧ w < n) (ep_stay f a (f R)) := by
        refine ep_stay_co ?_
        rintro w ⟨hs, hw⟩
        rw [Uun] at hs
        by_cases ha : a w
        · rw [ep_at_eq (h0 w ha)] at hs
          exact Or.inr ⟨ha, ep_c1 hF hC 0 (by decide) hw (hn w) hs (fun x hx hU => ⟨hU, hx⟩)⟩
        · rw [ep_at_ne (by have := h1 w ha; omega), ep_at_eq (h1 w ha)] at hs
          refine Or.inl (ep_c1 hF hC 0 (by decide) hw (hn w) hs (fun x hx hT => ?_))
          rw [eT] at hT
          exact hT.1 rfl hx
      rintro ⟨m, w⟩ hs hm0 hw
      have hm0 : m = 0 := hm0
      subst hm0
      exact Rin w (hS w ⟨hs, hw⟩)
    exact key (0, v) h rfl hv
  · intro h
    obtain ⟨Q, eQ⟩ : ∃ Q, Q = ep_sol rk cp 2 W0 := ⟨_, rfl⟩
    have Qun : Q = ep_sol rk cp 1 (ep_at rk 1 W0 (cp Q)) := by rw [eQ]; exact ep_sol_un rk hc 1 W0
    have Qun2 : Q = ep_at rk 0 (ep_at rk 1 W0 (cp Q)) (cp Q) := by
      have h := ep_sol_un rk hc 0 (ep_at rk 1 W0 (cp Q))
      rw [ep_sol_0, ← Qun] at h
      exact h
    rw [← eQ]
    have key : ep_le R (fun w => Q (0, w)) := by
      rw [eR]
      apply ep_lfp_le
      obtain ⟨K, eK⟩ : ∃ K, K = ep_stay f a (f fun w => Q (0, w)) := ⟨_, rfl⟩
      have Kout : ∀ v, K v → f (fun w => Q (0, w)) v ∨ (a v ∧ f K v) := by rw [eK]; exact ep_stay_out hm
      show ep_le (ep_stay f a (f fun w => Q (0, w))) _
      rw [← eK]
      have hT : ep_le (fun s => (s.1 = 0 ∧ K s.2) ∨ Q s) (ep_sol rk cp 1 (ep_at rk 1 W0 (cp Q))) := by
        refine ep_sol_co rfl ?_
        rw [ep_sol_0]
        rintro ⟨m, w⟩ hs
        cases hs with
        | inr hs =>
          rw [Qun2] at hs
          cases hs with
          | inl hs => exact Or.inl ⟨hs.1, hc _ _ (fun s x => Or.inr x) _ hs.2⟩
          | inr hs => exact Or.inr hs
        | inl hs =>
          have hm0 : m = 0 := hs.1
          subst hm0
          by_cases ha : a w
          · rw [ep_at_eq (h0 w ha)]
            cases Kout w hs.2 with
            | inl hk => exact ep_c2 hF hC 0 (by decide) (hn w) hk (fun y _ hy => Or.inr hy)
            | inr hk => exact ep_c2 hF hC 0 (by decide) (hn w) hk.2 (fun y _ hy => Or.inl ⟨rfl, hy⟩)
          · rw [ep_at_ne (by have := h1 w ha; omega), ep_at_eq (h1 w ha)]
            cases Kout w hs.2 with
            | inl hk => exact ep_c2 hF hC 0 (by decide) (hn w) hk (fun y _ hy => hy)
            | inr hk => exact absurd hk.1 ha
      intro w hw
      show Q (0, w)
      rw [Qun]
      exact hT (0, w) (Or.inl ⟨rfl, hw⟩)
    exact key v h
end
section
/-- goal 4 -/
theorem ep_g4 {n : Nat} {f : (Nat → Prop) → (Nat → Prop)} {cp : (Nat × Nat → Prop) → (Nat × Nat → Prop)} {nm : Nat → Nat → Nat}
    {rk : Nat × Nat → Nat} {W0 : Nat × Nat → Prop} (hF : ep_F n f) (hC : ep_C n f 2 nm cp) {a b : Nat → Prop}
    (n0t : ∀ v, a v → nm 0 v = 1) (n0f : ∀ v, ¬ a v → nm 0 v = 0) (n1t : ∀ v, b v → nm 1 v = 0) (n1f : ∀ v, ¬ b v → nm 1 v = 1)
    (r0 : ∀ v, rk (0, v) = 1) (r2 : ∀ v, b v → rk (1, v) = 2) (r1 : ∀ v, ¬ b v → rk (1, v) = 1) (h0 : ∀ s, rk s ≠ 0) (v : Nat) (hv : v < n) :
    ep_sol rk cp 3 W0 (0, v) ↔ ep_both f (fun v => v < n) a b v := by
  have hm := ep_F_mono hF
  have hc := hC.1
  obtain ⟨R, eR⟩ : ∃ R, R = ep_both f (fun v => v < n) a b := ⟨_, rfl⟩
  obtain ⟨U, eU⟩ : ∃ U, U = ep_sol rk cp 3 W0 := ⟨_, rfl⟩
  rw [← eR, ← eU]
  have Uun : U = ep_sol rk cp 2 (ep_at rk 2 W0 (cp U)) := by rw [eU]; exact ep_sol_un rk hc 2 W0
  constructor
  · intro h
    obtain ⟨Z, eZ⟩ : ∃ Z : Nat → Prop, Z = fun w => (U (0, w) ∨ U (1, w)) ∧ w < n := ⟨_, rfl⟩
    obtain ⟨LA, eA⟩ : ∃ L, L = ep_againF f (fun v => v < n) a Z := ⟨_, rfl⟩
    obtain ⟨LB, eB⟩ : ∃ L, L = ep_againF f (fun v => v < n) b Z := ⟨_, rfl⟩
    have Ain : ∀ v, (a v ∧ f Z v) ∨ (v < n ∧ f LA v) → LA v := by rw [eA]; exact ep_again_in hm
    have Bin : ∀ v, (b v ∧ f Z v) ∨ (v < n ∧ f LB v) → LB v := by rw [eB]; exact ep_again_in hm
    have Z0 : ∀ w, w < n → U (0, w) → Z w := by rw [eZ]; exact fun w hw x => ⟨Or.inl x, hw⟩
    have Z1 : ∀ w, w < n → U (1, w) → Z w := by rw [eZ]; exact fun w hw x => ⟨Or.inr x, hw⟩
    have T1 : ep_le U (fun s => s.2 < n → (s.1 = 0 → LA s.2) ∧ (s.1 = 1 → LB s.2)) := by
      have e2 : ep_sol rk cp (1 + 1) (ep_at rk 2 W0 (cp U)) = U := Uun.symm
      rw [← e2]
      refine ep_sol_ind hc rfl ?_
      rw [ep_sol_skip rk cp 0 _ h0, ep_sol_0, e2]
      rintro ⟨m, w⟩ hs hw
      have hw : w < n := hw
      constructor
      · intro hm0
        have hm0 : m = 0 := hm0
        subst hm0
        rw [ep_at_eq (r0 w)] at hs
        by_cases ha : a w
        · exact Ain w (Or.inl ⟨ha, ep_c1 hF hC 1 (by decide) hw (n0t w ha) hs (fun x hx hT => Z1 x hx hT.2)⟩)
        · exact Ain w (Or.inr ⟨hw, ep_c1 hF hC 0 (by decide) hw (n0f w ha) hs (fun x hx hT => (hT.1 hx).1 rfl)⟩)
      · intro hm0
        have hm0 : m = 1 := hm0
        subst hm0
        by_cases hb : b w
        · rw [ep_at_ne (by have := r2 w hb; omega), ep_at_eq (r2 w hb)] at hs
          exact Bin w (Or.inl ⟨hb, ep_c1 hF hC 0 (by decide) hw (n1t w hb) hs (fun x hx hT => Z0 x hx hT)⟩)
        · rw [ep_at_eq (r1 w hb)] at hs
          exact Bin w (Or.inr ⟨hw, ep_c1 hF hC 1 (by decide) hw (n1f w hb) hs (fun x hx hT => (hT.1 hx).2 rfl)⟩)
    have T2 : ep_le U (fun s => s.2 < n → (s.1 = 0 → LB s.2) ∧ (s.1 = 1 → LA s.2)) := by
      have e2 : ep_sol rk cp (1 + 1) (ep_at rk 2 W0 (cp U)) = U := Uun.symm
      rw [← e2]
      refine ep_sol_ind hc rfl ?_
      rw [ep_sol_skip rk cp 0 _ h0, ep_sol_0, e2]
      rintro ⟨m, w⟩ hs hw
      have hw : w < n := hw
      constructor
      · intro hm0
        have hm0 : m = 0 := hm0
        subst hm0
        rw [ep_at_eq (r0 w)] at hs
        by_cases ha : a w
        · exact Bin w (Or.inr ⟨hw, ep_c1 hF hC 1 (by decide) hw (n0t w ha) hs (fun x hx hT => (T1 (1, x) hT.2 hx).2 rfl)⟩)
        · exact Bin w (Or.inr ⟨hw, ep_c1 hF hC 0 (by decide) hw (n0f w ha) hs (fun x hx hT => (hT.1 hx).1 rfl)⟩)
      · intro hm0
        have hm0 : m = 1 := hm0
        subst hm0
        by_cases hb : b w
        · rw [ep_at_ne (by have := r2 w hb; omega), ep_at_eq (r2 w hb)] at hs
          exact Ain w (Or.inr ⟨hw, ep_c1 hF hC 0 (by decide) hw (n1t w hb) hs (fun x hx hT => (T1 (0, x) hT hx).1 rfl)⟩)
        · rw [ep_at_eq (r1 w hb)] at hs
          exact Ain w (Or.inr ⟨hw, ep_c1 hF hC 1 (by decide) hw (n1f w hb) hs (fun x hx hT => (hT.1 hx).2 rfl)⟩)
    have key : ep_le Z R := by
      rw [eR]
      apply ep_le_gfp
      intro w hZ
      show ep_againF f (fun v => v < n) a Z w ∧ ep_againF f (fun v => v < n) b Z w
      rw [← eA, ← eB]
      rw [eZ] at hZ
      have hw := hZ.2
      cases hZ.1 with
      | inl x => exact ⟨(T1 (0, w) x hw).1 rfl, (T2 (0, w) x hw).1 rfl⟩
      | inr x => exact ⟨(T2 (1, w) x hw).2 rfl, (T1 (1, w) x hw).2 rfl⟩
    exact key v (Z0 v hv h)
  · intro h
    have Run : ∀ v, R v → ep_againF f (fun v => v < n) a R v ∧ ep_againF f (fun v => v < n) b R v := by
      rw [eR]; exact ep_gfp_post (ep_bothF_mono hm _ a b)
    obtain ⟨LA, eA⟩ : ∃ L, L = ep_againF f (fun v => v < n) a R := ⟨_, rfl⟩
    obtain ⟨LB, eB⟩ : ∃ L, L = ep_againF f (fun v => v < n) b R := ⟨_, rfl⟩
    rw [← eA, ← eB] at Run
    have hLR : ep_le (fun v => LA v ∨ LB v) R := by
      rw [eR]
      apply ep_le_gfp
      have q : ∀ c : Nat → Prop, ep_le R (ep_againF f (fun v => v < n) c fun v => LA v ∨ LB v) → ∀ d : Nat → Prop, 
          ep_le (ep_againF f (fun v => v < n) d R) (ep_againF f (fun v => v < n) c fun v => LA v ∨ LB v) := by
        intro c hRc d
        refine ep_again_ind hm ?_ ?_
        · intro x hx
          exact ep_again_in hm x (Or.inr ⟨hF.2 _ _ hx.2, hm _ _ hRc x hx.2⟩)
        · intro x hx hfx
          exact ep_again_in hm x (Or.inr ⟨hx, hm _ _ (fun y hy => hy.1) x hfx⟩)
      have hRZ : ep_le R (fun v => LA v ∨ LB v) := fun w hw => Or.inl (Run w hw).1
      have qa := q a (fun w hw => ep_againF_mono hm _ a _ _ hRZ w (eA ▸ (Run w hw).1))
      have qb := q b (fun w hw => ep_againF_mono hm _ b _ _ hRZ w (eB ▸ (Run w hw).2))
      intro w hw
      cases hw with
      | inl x => rw [eA] at x; exact ⟨qa a w x, qb a w x⟩
      | inr x => rw [eB] at x; exact ⟨qa b w x, qb b w x⟩
    have hT : ep_le (fun s => s.1 < 2 ∧ R s.2) U := by
      rw [eU]
      refine ep_sol_co rfl ?_
      obtain ⟨V, eV⟩ : ∃ V, V = ep_sol rk cp 2 (ep_at rk 2 W0 (cp fun s => s.1 < 2 ∧ R s.2)) := ⟨_, rfl⟩
      have Vun : V = ep_at rk 1 (ep_at rk 2 W0 (cp fun s => s.1 < 2 ∧ R s.2)) (cp V) := by rw [eV]; exact ep_sol_1 hc h0 _
      rw [← eV]
      have V2 : ∀ x, b x → cp (fun s => s.1 < 2 ∧ R s.2) (1, x) → V (1, x) := fun x hb hx => by
        rw [Vun, ep_at_ne (by have := r2 x hb; omega), ep_at_eq (r2 x hb)]; exact hx
      have V1 : ∀ x, ¬ b x → cp V (1, x) → V (1, x) := fun x hb hx => by
        rw [Vun, ep_at_eq (r1 x hb)]; exact hx
      have V0 : ∀ x, cp V (0, x) → V (0, x) := fun x hx => by
        rw [Vun, ep_at_eq (r0 x)]; exact hx
      have hB : ep_le LB (fun w => V (1, w)) := by
        rw [eB]
        refine ep_again_ind hm ?_ ?_
        · rintro x ⟨hbx, hfx⟩
          exact V2 x hbx (ep_c2 hF hC 0 (by decide) (n1t x hbx) hfx (fun y _ hy => ⟨Nat.zero_lt_succ _, hy⟩))
        · intro x hxn hfx
          by_cases hbx : b x
          · exact V2 x hbx (ep_c2 hF hC 0 (by decide) (n1t x hbx) hfx (fun y _ hy => ⟨Nat.zero_lt_succ _, hLR y (Or.inr (eB ▸ hy.2))⟩))
          · exact V1 x hbx (ep_c2 hF hC 1 (by decide) (n1f x hbx) hfx (fun y _ hy => hy.1))
      have hA : ep_le LA (fun w => V (0, w)) := by
        rw [eA]
        refine ep_again_ind hm ?_ ?_
        · rintro x ⟨hax, hfx⟩
          exact V0 x (ep_c2 hF hC 1 (by decide) (n0t x hax) hfx (fun y _ hy => hB y (Run y hy).2))
        · intro x hxn hfx
          by_cases hax : a x
          · exact V0 x (ep_c2 hF hC 1 (by decide) (n0t x hax) hfx (fun y _ hy => hB y (Run y (hLR y (Or.inl (eA ▸ hy.2)))).2))
          · exact V0 x (ep_c2 hF hC 0 (by decide) (n0f x hax) hfx (fun y _ hy => hy.1))
      rintro ⟨m, w⟩ ⟨hm2, hR⟩
      have hm2 : m < 2 := hm2
      have hR : R w := hR
      have hm' : m = 0 ∨ m = 1 := by omega
      cases hm' with
      | inl e => subst e; exact hA w (Run w hR).1
      | inr e => subst e; exact hB w (Run w hR).2
    exact hT (0, v) ⟨Nat.zero_lt_succ _, h⟩
end
section
/-! goals 0, 1, 8 -/
def ep_forced (f : (Nat → Prop) → (Nat → Prop)) (al : Nat → Prop) : Nat → Prop := ep_reach f (fun _ => False) al
def ep_safe (f : (Nat → Prop) → (Nat → Prop)) (al : Nat → Prop) : Nat → Prop := ep_stay f al (fun _ => False)
theorem ep_forced_out {f : (Nat → Prop) → (Nat → Prop)} (h : ep_mono f) {al : Nat → Prop} (v : Nat) (x : ep_forced f al v) : f (ep_forced f al) v :=
  (ep_reach_out h v x).elim (fun y => y.elim) (fun y => y.2)
theorem ep_forced_in {n : Nat} {f : (Nat → Prop) → (Nat → Prop)} (h : ep_F n f) (v : Nat) (x : f (ep_forced f fun v => v < n) v) : ep_forced f (fun v => v < n) v :=
  ep_reach_in (ep_F_mono h) v (Or.inr ⟨h.2 _ _ x, x⟩)
theorem ep_safe_out {f : (Nat → Prop) → (Nat → Prop)} (h : ep_mono f) {al : Nat → Prop} (v : Nat) (x : ep_safe f al v) : f (ep_safe f al) v :=
  (ep_stay_out h v x).elim (fun y => y.elim) (fun y => y.2)
theorem ep_safe_in {n : Nat} {f : (Nat → Prop) → (Nat → Prop)} (h : ep_F n f) (v : Nat) (x : f (ep_safe f fun v => v < n) v) : ep_safe f (fun v => v < n) v :=
  ep_stay_in (ep_F_mono h) v (Or.inr ⟨h.2 _ _ x, x⟩)
theorem ep_forced_safe {n : Nat} {f : (Nat → Prop) → (Nat → Prop)} (h : ep_F n f) : ep_le (ep_forced f fun v => v < n) (ep_safe f fun v => v < n) :=
  ep_reach_ind (ep_F_mono h) (fun _ x => x.elim) (fun v _ x => ep_safe_in h v (h.1 _ _ (fun _ _ y => y.1) v x))
/-- a memory that is never left, all of rank 0: what is safe; all of rank 1: what is forced -/
theorem ep_q0 {n M k : Nat} {f : (Nat → Prop) → (Nat → Prop)} {cp : (Nat × Nat → Prop) → (Nat × Nat → Prop)} {nm : Nat → Nat → Nat}
    {rk : Nat × Nat → Nat} {W0 : Nat × Nat → Prop} (hF : ep_F n f) (hC : ep_C n f M nm cp) (hk : k < M)
    (hn : ∀ v, nm k v = k) (hr : ∀ v, rk (k, v) = 0) (v : Nat) (hv : v < n) : ep_sol rk cp 2 W0 (k, v) ↔ ep_safe f (fun v => v < n) v := by
  have hm := ep_F_mono hF
  have hc := hC.1
  obtain ⟨Q, eQ⟩ : ∃ Q, Q = ep_sol rk cp 2 W0 := ⟨_, rfl⟩
  have Qun : Q = ep_sol rk cp 1 (ep_at rk 1 W0 (cp Q)) := by rw [eQ]; exact ep_sol_un rk hc 1 W0
  have Qun2 : Q = ep_at rk 0 (ep_at rk 1 W0 (cp Q)) (cp Q) := by
    have h := ep_sol_un rk hc 0 (ep_at rk 1 W0 (cp Q))
    rw [ep_sol_0, ← Qun] at h
    exact h
  rw [← eQ]
  constructor
  · intro h
    have key : ep_le (fun w => Q (k, w) ∧ w < n) (ep_safe f fun v => v < n) := by
      refine ep_stay_co ?_
      rintro w ⟨hs, hw⟩
      rw [Qun2, ep_at_eq (hr w)] at hs
      exact Or.inr ⟨hw, ep_c1 hF hC k hk hw (hn w) hs (fun x hx hU => ⟨hU, hx⟩)⟩
    exact key v ⟨h, hv⟩
  · intro h
    have hT : ep_le (fun s => (s.1 = k ∧ ep_safe f (fun v => v < n) s.2) ∨ Q s) (ep_sol rk cp 1 (ep_at rk 1 W0 (cp Q))) := by
      refine ep_sol_co rfl ?_
      rw [ep_sol_0]
      rintro ⟨m, w⟩ hs
      cases hs with
      | inr hs =>
        rw [Qun2] at hs
        cases hs with
        | inl hs => exact Or.inl ⟨hs.1, hc _ _ (fun s x => Or.inr x) _ hs.2⟩
        | inr hs => exact Or.inr hs
      | inl hs =>
        have hm0 : m = k := hs.1
        subst hm0
        rw [ep_at_eq (hr w)]
        exact ep_c2 hF hC m hk (hn w) (ep_safe_out hm w hs.2) (fun y _ hy => Or.inl ⟨rfl, hy⟩)
    rw [Qun]
    exact hT (k, v) (Or.inl ⟨rfl, h⟩)
theorem ep_q1 {n M k : Nat} {f : (Nat → Prop) → (Nat → Prop)} {cp : (Nat × Nat → Prop) → (Nat × Nat → Prop)} {nm : Nat → Nat → Nat}
    {rk : Nat × Nat → Nat} {W0 : Nat × Nat → Prop} (hF : ep_F n f) (hC : ep_C n f M nm cp) (hk : k < M)
    (hn : ∀ v, nm k v = k) (hr : ∀ v, rk (k, v) = 1) (v : Nat) (hv : v < n) : ep_sol rk cp 2 W0 (k, v) ↔ ep_forced f (fun v => v < n) v := by
  have hm := ep_F_mono hF
  have hc := hC.1
  constructor
  · intro h
    have key : ep_le (ep_sol rk cp 2 W0) (fun s => s.1 = k → s.2 < n → ep_forced f (fun v => v < n) s.2) := by
      refine ep_sol_ind hc rfl ?_
      obtain ⟨T, eT⟩ : ∃ T : Nat × Nat → Prop, T = fun s => (s.1 = k → s.2 < n → ep_forced f (fun v => v < n) s.2) ∧ ep_sol rk cp (1 + 1) W0 s := ⟨_, rfl⟩
      rw [← eT, ep_sol_un rk hc 0, ep_sol_0]
      rintro ⟨m, w⟩ hs hm0 hw
      have hm0 : m = k := hm0
      subst hm0
      rw [ep_at_ne (by have := hr w; omega), ep_at_eq (hr w)] at hs
      refine ep_forced_in hF w (ep_c1 hF hC m hk hw (hn w) hs (fun x hx hT => ?_))
      rw [eT] at hT
      exact hT.1 rfl hx
    exact key (k, v) h rfl hv
  · intro h
    obtain ⟨Q, eQ⟩ : ∃ Q, Q = ep_sol rk cp 2 W0 := ⟨_, rfl⟩
    have Qun : Q = ep_sol rk cp 1 (ep_at rk 1 W0 (cp Q)) := by rw [eQ]; exact ep_sol_un rk hc 1 W0
    have Qun2 : Q = ep_at rk 0 (ep_at rk 1 W0 (cp Q)) (cp Q) := by
      have h := ep_sol_un rk hc 0 (ep_at rk 1 W0 (cp Q))
      rw [ep_sol_0, ← Qun] at h
      exact h
    rw [← eQ]
    have key : ep_le (ep_forced f fun v => v < n) (fun w => Q (k, w)) := by
      refine ep_reach_ind hm (fun _ x => x.elim) ?_
      intro x _ hfx
      show Q (k, x)
      rw [Qun2, ep_at_ne (by have := hr x; omega), ep_at_eq (hr x)]
      exact ep_c2 hF hC k hk (hn x) hfx (fun y _ hy => hy.1)
    exact key v h
/-- goal 0 -/
theorem ep_g0 {n : Nat} {f : (Nat → Prop) → (Nat → Prop)} {cp : (Nat × Nat → Prop) → (Nat × Nat → Prop)} {nm : Nat → Nat → Nat}
    {rk : Nat × Nat → Nat} {W0 : Nat × Nat → Prop} (hF : ep_F n f) (hC : ep_C n f 2 nm cp) {a : Nat → Prop}
    (n1 : ∀ v, nm 1 v = 1) (n0t : ∀ v, a v → nm 0 v = 1) (n0f : ∀ v, ¬ a v → nm 0 v = 0)
    (r1 : ∀ v, rk (1, v) = 0) (r0t : ∀ v, a v → rk (0, v) = 0) (r0f : ∀ v, ¬ a v → rk (0, v) = 1) (v : Nat) (hv : v < n) :
    ep_sol rk cp 2 W0 (0, v) ↔
      ep_reach f (fun v => (a v ∧ ep_safe f (fun v => v < n) v) ∨ ep_forced f (fun v => v < n) v) (fun v => v < n) v := by
  have hm := ep_F_mono hF
  have hc := hC.1
  obtain ⟨SA, eS⟩ : ∃ S, S = ep_safe f (fun v => v < n) := ⟨_, rfl⟩
  obtain ⟨FO, eO⟩ : ∃ S, S = ep_forced f (fun v => v < n) := ⟨_, rfl⟩
  have Sin : ∀ v, f SA v → SA v := by rw [eS]; exact ep_safe_in hF
  have Sout : ∀ v, SA v → f SA v := by rw [eS]; exact ep_safe_out hm
  have FS : ∀ v, FO v → SA v := by rw [eS, eO]; exact ep_forced_safe hF
  have Find : ∀ X : Nat → Prop, (∀ v, v < n → f (fun w => X w ∧ FO w) v → X v) → ∀ v, FO v → X v := by
    rw [eO]; exact fun X h => ep_reach_ind hm (fun _ x => x.elim) h
  rw [← eS, ← eO]
  obtain ⟨R, eR⟩ : ∃ R, R = ep_reach f (fun v => (a v ∧ SA v) ∨ FO v) (fun v => v < n) := ⟨_, rfl⟩
  have Rin : ∀ v, ((a v ∧ SA v) ∨ FO v) ∨ (v < n ∧ f R v) → R v := by rw [eR]; exact ep_reach_in hm
  have Rind : ∀ X : Nat → Prop, (∀ v, (a v ∧ SA v) ∨ FO v → X v) → (∀ v, v < n → f (fun w => X w ∧ R w) v → X v) → ∀ v, R v → X v := by
    rw [eR]; exact fun X h1 h2 => ep_reach_ind hm h1 h2
  rw [← eR]
  have q1 : ∀ v, v < n → (ep_sol rk cp 2 W0 (1, v) ↔ SA v) := by rw [eS]; exact fun v hv => ep_q0 hF hC (by decide) n1 r1 v hv
  constructor
  · intro h
    have key : ep_le (ep_sol rk cp 2 W0) (fun s => s.1 = 0 → s.2 < n → R s.2) := by
      refine ep_sol_ind hc rfl ?_
      obtain ⟨T, eT⟩ : ∃ T : Nat × Nat → Prop, T = fun s => (s.1 = 0 → s.2 < n → R s.2) ∧ ep_sol rk cp (1 + 1) W0 s := ⟨_, rfl⟩
      rw [← eT]
      obtain ⟨G, eG⟩ : ∃ G, G = ep_sol rk cp 1 (ep_at rk 1 W0 (cp T)) := ⟨_, rfl⟩
      have Gun : G = ep_at rk 0 (ep_at rk 1 W0 (cp T)) (cp G) := by rw [eG]; exact ep_sol_un rk hc 0 _
      have GQ : ep_le G (ep_sol rk cp 2 W0) := by
        rw [eG, ep_sol_un rk hc 1 W0]
        refine ep_solF rk hc 1 W0 _ _ ?_
        rw [eT]
        exact fun s hs => hs.2
      rw [← eG]
      rintro ⟨m, w⟩ hs hm0 hw
      have hm0 : m = 0 := hm0
      subst hm0
      have hw : w < n := hw
      rw [Gun] at hs
      by_cases ha : a w
      · rw [ep_at_eq (r0t w ha)] at hs
        have h1 : f SA w := ep_c1 hF hC 1 (by decide) hw (n0t w ha) hs (fun x hx hU => (q1 x hx).1 (GQ _ hU))
        exact Rin w (Or.inl (Or.inl ⟨ha, Sin w h1⟩))
      · rw [ep_at_ne (by have := r0f w ha; omega), ep_at_eq (r0f w ha)] at hs
        refine Rin w (Or.inr ⟨hw, ep_c1 hF hC 0 (by decide) hw (n0f w ha) hs (fun x hx hT => ?_)⟩)
        rw [eT] at hT
        exact hT.1 rfl hx
    exact key (0, v) h rfl hv
  · intro h
    obtain ⟨Q, eQ⟩ : ∃ Q, Q = ep_sol rk cp 2 W0 := ⟨_, rfl⟩
    have Qun : Q = ep_sol rk cp 1 (ep_at rk 1 W0 (cp Q)) := by rw [eQ]; exact ep_sol_un rk hc 1 W0
    have Qun2 : Q = ep_at rk 0 (ep_at rk 1 W0 (cp Q)) (cp Q) := by
      have h := ep_sol_un rk hc 0 (ep_at rk 1 W0 (cp Q))
      rw [ep_sol_0, ← Qun] at h
      exact h
    rw [← eQ] at q1 ⊢
    have Qt : ∀ x, a x → f SA x → Q (0, x) := fun x ha hx => by
      rw [Qun2, ep_at_eq (r0t x ha)]
      exact ep_c2 hF hC 1 (by decide) (n0t x ha) hx (fun y hy h => (q1 y hy).2 h)
    have Qf : ∀ x, ¬ a x → f (fun w => Q (0, w)) x → Q (0, x) := fun x ha hx => by
      rw [Qun2, ep_at_ne (by have := r0f x ha; omega), ep_at_eq (r0f x ha)]
      exact ep_c2 hF hC 0 (by decide) (n0f x ha) hx (fun y _ h => h)
    have RS : ∀ v, R v → SA v := Rind SA (fun v x => x.elim (fun y => y.2) (FS v)) (fun v _ x => Sin v (hm _ _ (fun w y => y.1) v x))
    have FQ : ∀ v, FO v → Q (0, v) := Find (fun w => Q (0, w)) (fun x hx hfx => by
      by_cases ha : a x
      · exact Qt x ha (hm _ _ (fun w y => FS w y.2) x hfx)
      · exact Qf x ha (hm _ _ (fun w y => y.1) x hfx))
    refine Rind (fun w => Q (0, w)) ?_ ?_ v h
    · intro x hx
      cases hx with
      | inl hx => exact Qt x hx.1 (Sout x hx.2)
      | inr hx => exact FQ x hx
    · intro x hx hfx
      by_cases ha : a x
      · exact Qt x ha (hm _ _ (fun w y => RS w y.2) x hfx)
      · exact Qf x ha (hm _ _ (fun w y => y.1) x hfx)
/-- goal 1 -/
theorem ep_g1 {n : Nat} {f : (Nat → Prop) → (Nat → Prop)} {cp : (Nat × Nat → Prop) → (Nat × Nat → Prop)} {nm : Nat → Nat → Nat}
    {rk : Nat × Nat → Nat} {W0 : Nat × Nat → Prop} (hF : ep_F n f) (hC : ep_C n f 2 nm cp) {a : Nat → Prop}
    (n1 : ∀ v, nm 1 v = 1) (n0t : ∀ v, a v → nm 0 v = 0) (n0f : ∀ v, ¬ a v → nm 0 v = 1)
    (r1 : ∀ v, rk (1, v) = 1) (r0t : ∀ v, a v → rk (0, v) = 0) (r0f : ∀ v, ¬ a v → rk (0, v) = 1) (v : Nat) (hv : v < n) :
    ep_sol rk cp 2 W0 (0, v) ↔ ep_stay f a (ep_forced f fun v => v < n) v := by
  have hm := ep_F_mono hF
  have hc := hC.1
  obtain ⟨FO, eO⟩ : ∃ S, S = ep_forced f (fun v => v < n) := ⟨_, rfl⟩
  have Fin' : ∀ v, f FO v → FO v := by rw [eO]; exact ep_forced_in hF
  have Fout : ∀ v, FO v → f FO v := by rw [eO]; exact ep_forced_out hm
  obtain ⟨Q, eQ⟩ : ∃ Q, Q = ep_sol rk cp 2 W0 := ⟨_, rfl⟩
  have Qun : Q = ep_sol rk cp 1 (ep_at rk 1 W0 (cp Q)) := by rw [eQ]; exact ep_sol_un rk hc 1 W0
  have Qun2 : Q = ep_at rk 0 (ep_at rk 1 W0 (cp Q)) (cp Q) := by
    have h := ep_sol_un rk hc 0 (ep_at rk 1 W0 (cp Q))
    rw [ep_sol_0, ← Qun] at h
    exact h
  have q1 : ∀ v, v < n → (Q (1, v) ↔ FO v) := by rw [eO, eQ]; exact fun v hv => ep_q1 hF hC (by decide) n1 r1 v hv
  rw [← eO, ← eQ]
  constructor
  · intro h
    have key : ep_le (fun w => Q (0, w) ∧ w < n) (ep_stay f a FO) := by
      refine ep_stay_co ?_
      rintro w ⟨hs, hw⟩
      rw [Qun2] at hs
      by_cases ha : a w
      · rw [ep_at_eq (r0t w ha)] at hs
        exact Or.inr ⟨ha, ep_c1 hF hC 0 (by decide) hw (n0t w ha) hs (fun x hx hU => ⟨hU, hx⟩)⟩
      · rw [ep_at_ne (by have := r0f w ha; omega), ep_at_eq (r0f w ha)] at hs
        exact Or.inl (Fin' w (ep_c1 hF hC 1 (by decide) hw (n0f w ha) hs (fun x hx hU => (q1 x hx).1 hU)))
    exact key v ⟨h, hv⟩
  · intro h
    have hT : ep_le (fun s => (s.1 = 0 ∧ ep_stay f a FO s.2) ∨ Q s) (ep_sol rk cp 1 (ep_at rk 1 W0 (cp Q))) := by
      refine ep_sol_co rfl ?_
      rw [ep_sol_0]
      rintro ⟨m, w⟩ hs
      cases hs with
      | inr hs =>
        rw [Qun2] at hs
        cases hs with
        | inl hs => exact Or.inl ⟨hs.1, hc _ _ (fun s x => Or.inr x) _ hs.2⟩
        | inr hs => exact Or.inr hs
      | inl hs =>
        have hm0 : m = 0 := hs.1
        subst hm0
        have hk := ep_stay_out hm w hs.2
        by_cases ha : a w
        · rw [ep_at_eq (r0t w ha)]
          cases hk with
          | inl hk => exact ep_c2 hF hC 0 (by decide) (n0t w ha) (Fout w hk) (fun y _ hy => Or.inl ⟨rfl, ep_stay_in hm y (Or.inl hy)⟩)
          | inr hk => exact ep_c2 hF hC 0 (by decide) (n0t w ha) hk.2 (fun y _ hy => Or.inl ⟨rfl, hy⟩)
        · rw [ep_at_ne (by have := r0f w ha; omega), ep_at_eq (r0f w ha)]
          cases hk with
          | inl hk => exact ep_c2 hF hC 1 (by decide) (n0f w ha) (Fout w hk) (fun y hy h => (q1 y hy).2 h)
          | inr hk => exact absurd hk.1 ha
    rw [Qun]
    exact hT (0, v) (Or.inl ⟨rfl, h⟩)
/-- goal 8 -/
theorem ep_g8 {n : Nat} {f : (Nat → Prop) → (Nat → Prop)} {cp : (Nat × Nat → Prop) → (Nat × Nat → Prop)} {nm : Nat → Nat → Nat}
    {rk : Nat × Nat → Nat} {W0 : Nat × Nat → Prop} (hF : ep_F n f) (hC : ep_C n f 3 nm cp) {a b : Nat → Prop}
    (n1 : ∀ v, nm 1 v = 1) (n2 : ∀ v, nm 2 v = 2) (nb : ∀ v, b v → nm 0 v = 1) (na : ∀ v, ¬ b v → a v → nm 0 v = 0) (nx : ∀ v, ¬ b v → ¬ a v → nm 0 v = 2)
    (r1 : ∀ v, rk (1, v) = 0) (r2 : ∀ v, rk (2, v) = 1) (rb : ∀ v, b v → rk (0, v) = 0) (rx : ∀ v, ¬ b v → rk (0, v) = 1) (v : Nat) (hv : v < n) :
    ep_sol rk cp 2 W0 (0, v) ↔
      ep_reach f (fun v => (b v ∧ ep_safe f (fun v => v < n) v) ∨ ep_forced f (fun v => v < n) v) a v := by
  have hm := ep_F_mono hF
  have hc := hC.1
  obtain ⟨SA, eS⟩ : ∃ S, S = ep_safe f (fun v => v < n) := ⟨_, rfl⟩
  obtain ⟨FO, eO⟩ : ∃ S, S = ep_forced f (fun v => v < n) := ⟨_, rfl⟩
  have Sin : ∀ v, f SA v → SA v := by rw [eS]; exact ep_safe_in hF
  have Sout : ∀ v, SA v → f SA v := by rw [eS]; exact ep_safe_out hm
  have Fin' : ∀ v, f FO v → FO v := by rw [eO]; exact ep_forced_in hF
  have FS : ∀ v, FO v → SA v := by rw [eS, eO]; exact ep_forced_safe hF
  have Find : ∀ X : Nat → Prop, (∀ v, v < n → f (fun w => X w ∧ FO w) v → X v) → ∀ v, FO v → X v := by
    rw [eO]; exact fun X h => ep_reach_ind hm (fun _ x => x.elim) h
  rw [← eS, ← eO]
  obtain ⟨R, eR⟩ : ∃ R, R = ep_reach f (fun v => (b v ∧ SA v) ∨ FO v) a := ⟨_, rfl⟩
  have Rin : ∀ v, ((b v ∧ SA v) ∨ FO v) ∨ (a v ∧ f R v) → R v := by rw [eR]; exact ep_reach_in hm
  have Rind : ∀ X : Nat → Prop, (∀ v, (b v ∧ SA v) ∨ FO v → X v) → (∀ v, a v → f (fun w => X w ∧ R w) v → X v) → ∀ v, R v → X v := by
    rw [eR]; exact fun X h1 h2 => ep_reach_ind hm h1 h2
  rw [← eR]
  have q1 : ∀ v, v < n → (ep_sol rk cp 2 W0 (1, v) ↔ SA v) := by rw [eS]; exact fun v hv => ep_q0 hF hC (by decide) n1 r1 v hv
  have q2 : ∀ v, v < n → (ep_sol rk cp 2 W0 (2, v) ↔ FO v) := by rw [eO]; exact fun v hv => ep_q1 hF hC (by decide) n2 r2 v hv
  constructor
  · intro h
    have key : ep_le (ep_sol rk cp 2 W0) (fun s => s.1 = 0 → s.2 < n → R s.2) := by
      refine ep_sol_ind hc rfl ?_
      obtain ⟨T, eT⟩ : ∃ T : Nat × Nat → Prop, T = fun s => (s.1 = 0 → s.2 < n → R s.2) ∧ ep_sol rk cp (1 + 1) W0 s := ⟨_, rfl⟩
      rw [← eT]
      obtain ⟨G, eG⟩ : ∃ G, G = ep_sol rk cp 1 (ep_at rk 1 W0 (cp T)) := ⟨_, rfl⟩
      have Gun : G = ep_at rk 0 (ep_at rk 1 W0 (cp T)) (cp G) := by rw [eG]; exact ep_sol_un rk hc 0 _
      have TQ : ep_le T (ep_sol rk cp 2 W0) := by
        rw [eT]
        exact fun s hs => hs.2
      have GQ : ep_le G (ep_sol rk cp 2 W0) := by
        rw [eG, ep_sol_un rk hc 1 W0]
        exact ep_solF rk hc 1 W0 _ _ TQ
      rw [← eG]
      rintro ⟨m, w⟩ hs hm0 hw
      have hm0 : m = 0 := hm0
      subst hm0
      have hw : w < n := hw
      rw [Gun] at hs
      by_cases hb : b w
      · rw [ep_at_eq (rb w hb)] at hs
        have h1 : f SA w := ep_c1 hF hC 1 (by decide) hw (nb w hb) hs (fun x hx hU => (q1 x hx).1 (GQ _ hU))
        exact Rin w (Or.inl (Or.inl ⟨hb, Sin w h1⟩))
      · rw [ep_at_ne (by have := rx w hb; omega), ep_at_eq (rx w hb)] at hs
        by_cases ha : a w
        · refine Rin w (Or.inr ⟨ha, ep_c1 hF hC 0 (by decide) hw (na w hb ha) hs (fun x hx hT => ?_)⟩)
          rw [eT] at hT
          exact hT.1 rfl hx
        · exact Rin w (Or.inl (Or.inr (Fin' w (ep_c1 hF hC 2 (by decide) hw (nx w hb ha) hs (fun x hx hT => (q2 x hx).1 (TQ _ hT))))))
    exact key (0, v) h rfl hv
  · intro h
    obtain ⟨Q, eQ⟩ : ∃ Q, Q = ep_sol rk cp 2 W0 := ⟨_, rfl⟩
    have Qun : Q = ep_sol rk cp 1 (ep_at rk 1 W0 (cp Q)) := by rw [eQ]; exact ep_sol_un rk hc 1 W0
    have Qun2 : Q = ep_at rk 0 (ep_at rk 1 W0 (cp Q)) (cp Q) := by
      have h := ep_sol_un rk hc 0 (ep_at rk 1 W0 (cp Q))
      rw [ep_sol_0, ← Qun] at h
      exact h
    rw [← eQ] at q1 q2 ⊢
    have Qb : ∀ x, b x → f SA x → Q (0, x) := fun x hb hx => by
      rw [Qun2, ep_at_eq (rb x hb)]
      exact ep_c2 hF hC 1 (by decide) (nb x hb) hx (fun y hy h => (q1 y hy).2 h)
    have Qa : ∀ x, ¬ b x → a x → f (fun w => Q (0, w)) x → Q (0, x) := fun x hb ha hx => by
      rw [Qun2, ep_at_ne (by have := rx x hb; omega), ep_at_eq (rx x hb)]
      exact ep_c2 hF hC 0 (by decide) (na x hb ha) hx (fun y _ h => h)
    have Qx : ∀ x, ¬ b x → ¬ a x → f FO x → Q (0, x) := fun x hb ha hx => by
      rw [Qun2, ep_at_ne (by have := rx x hb; omega), ep_at_eq (rx x hb)]
      exact ep_c2 hF hC 2 (by decide) (nx x hb ha) hx (fun y hy h => (q2 y hy).2 h)
    have RS : ∀ v, R v → SA v := Rind SA (fun v x => x.elim (fun y => y.2) (FS v)) (fun v _ x => Sin v (hm _ _ (fun w y => y.1) v x))
    have FQ : ∀ v, FO v → Q (0, v) := Find (fun w => Q (0, w)) (fun x hx hfx => by
      by_cases hb : b x
      · exact Qb x hb (hm _ _ (fun w y => FS w y.2) x hfx)
      · by_cases ha : a x
        · exact Qa x hb ha (hm _ _ (fun w y => y.1) x hfx)
        · exact Qx x hb ha (hm _ _ (fun w y => y.2) x hfx))
    refine Rind (fun w => Q (0, w)) ?_ ?_ v h
    · intro x hx
      cases hx with
      | inl hx => exact Qb x hx.1 (Sout x hx.2)
      | inr hx => exact FQ x hx
    · intro x hax hfx
      by_cases hb : b x
      · exact Qb x hb (hm _ _ (fun w y => RS w y.2) x hfx)
      · exact Qa x hb hax (hm _ _ (fun w y => y.1) x hfx)
end
section
/-! goal 5 -/
def ep_spoilF (f : (Nat → Prop) → (Nat → Prop)) (al a b st z : Nat → Prop) : (Nat → Prop) → (Nat → Prop) :=
  fun Y v => ep_stay f (fun v => al v ∧ ¬ a v) (fun v => (st v ∧ f z v) ∨ f Y v) v ∨ ep_stay f (fun v => al v ∧ ¬ b v) (fun v => (st v ∧ f z v) ∨ f Y v) v
def ep_spoil (f : (Nat → Prop) → (Nat → Prop)) (al a b st z : Nat → Prop) : Nat → Prop := ep_lfp (ep_spoilF f al a b st z)
def ep_ifbF (f : (Nat → Prop) → (Nat → Prop)) (al a b c d : Nat → Prop) : (Nat → Prop) → (Nat → Prop) :=
  fun Z v => ep_spoil f al a b c Z v ∧ ep_spoil f al a b d Z v
def ep_ifb (f : (Nat → Prop) → (Nat → Prop)) (al a b c d : Nat → Prop) : Nat → Prop := ep_gfp (ep_ifbF f al a b c d)
theorem ep_spoilF_le {f : (Nat → Prop) → (Nat → Prop)} {al a b st z st' z' Y Y' : Nat → Prop}
    (h : ∀ v, (st v ∧ f z v) ∨ f Y v → (st' v ∧ f z' v) ∨ f Y' v) : ep_le (ep_spoilF f al a b st z Y) (ep_spoilF f al a b st' z' Y') :=
  fun v x => x.elim (fun y => Or.inl (ep_stay_mono h (ep_rfl _) v y)) (fun y => Or.inr (ep_stay_mono h (ep_rfl _) v y))
theorem ep_spoilF_mono {f : (Nat → Prop) → (Nat → Prop)} (h : ep_mono f) (al a b st z : Nat → Prop) : ep_mono (ep_spoilF f al a b st z) :=
  fun A B hab => ep_spoilF_le fun v x => x.elim Or.inl (fun y => Or.inr (h A B hab v y))
theorem ep_spoil_mono {f : (Nat → Prop) → (Nat → Prop)} (h : ep_mono f) (al a b st : Nat → Prop) : ep_mono (ep_spoil f al a b st) :=
  fun A B hab => ep_lfp_mono fun _ => ep_spoilF_le fun v x => x.elim (fun y => Or.inl ⟨y.1, h A B hab v y.2⟩) Or.inr
theorem ep_ifbF_mono {f : (Nat → Prop) → (Nat → Prop)} (h : ep_mono f) (al a b c d : Nat → Prop) : ep_mono (ep_ifbF f al a b c d) :=
  fun A B hab v x => ⟨ep_spoil_mono h al a b c A B hab v x.1, ep_spoil_mono h al a b d A B hab v x.2⟩
/-- one of the two awaited sets C, D: what the settled states have, the formula has -/
theorem ep_g5a {n : Nat} {f : (Nat → Prop) → (Nat → Prop)} {cp : (Nat × Nat → Prop) → (Nat × Nat → Prop)} {nm : Nat → Nat → Nat}
    {rk : Nat × Nat → Nat} {W0 U : Nat × Nat → Prop} (hF : ep_F n f) (hC : ep_C n f 4 nm cp) {a b s Q st : Nat → Prop} {j k : Nat}
    (hr3 : ∀ s, rk s < 3) (hk0 : 0 + 2 * j < 4) (hk1 : 1 + 2 * j < 4)
    (k1 : ∀ w, ¬ s w → b w → rk (1 + 2 * j, w) = 1) (k0 : ∀ w, ¬ s w → ¬ b w → rk (1 + 2 * j, w) = 0) (k00 : ∀ w, ¬ s w → rk (0 + 2 * j, w) = 0)
    (nS0 : ∀ w, s w → nm (0 + 2 * j) w = 0 + 2 * k ∨ nm (0 + 2 * j) w = 1 + 2 * k) (nS1 : ∀ w, s w → nm (1 + 2 * j) w = 0 + 2 * k ∨ nm (1 + 2 * j) w = 1 + 2 * k)
    (n0t : ∀ w, ¬ s w → a w → nm (0 + 2 * j) w = 1 + 2 * j) (n0f : ∀ w, ¬ s w → ¬ a w → nm (0 + 2 * j) w = 0 + 2 * j)
    (n1t : ∀ w, ¬ s w → b w → nm (1 + 2 * j) w = 0 + 2 * j) (n1f : ∀ w, ¬ s w → ¬ b w → nm (1 + 2 * j) w = 1 + 2 * j)
    (Uun : U = ep_sol rk cp 2 (ep_at rk 2 W0 (cp U)))
    (Qin : ∀ v, ep_stay f (fun v => v < n ∧ ¬ a v) st v ∨ ep_stay f (fun v => v < n ∧ ¬ b v) st v → Q v)
    (fQ : ∀ v, f Q v → st v) (hS : ∀ v, s v → f (fun w => (U (0 + 2 * k, w) ∨ U (1 + 2 * k, w)) ∧ w < n) v → st v) :
    ∀ v, v < n → (U (0 + 2 * j, v) → Q v) ∧ (U (1 + 2 * j, v) → Q v) := by
  have hm := ep_F_mono hF
  have hc := hC.1
  have key : ep_le U (fun s => s.2 < n → (s.1 = 0 + 2 * j → Q s.2) ∧ (s.1 = 1 + 2 * j → Q s.2)) := by
    have e2 : ep_sol rk cp (1 + 1) (ep_at rk 2 W0 (cp U)) = U := Uun.symm
    rw [← e2]
    refine ep_sol_ind hc rfl ?_
    rw [e2]
    obtain ⟨T, eT⟩ : ∃ T : Nat × Nat → Prop, T = fun s => (s.2 < n → (s.1 = 0 + 2 * j → Q s.2) ∧ (s.1 = 1 + 2 * j → Q s.2)) ∧ U s := ⟨_, rfl⟩
    rw [← eT]
    obtain ⟨G, eG⟩ : ∃ G, G = ep_sol rk cp 1 (ep_at rk 1 (ep_at rk 2 W0 (cp U)) (cp T)) := ⟨_, rfl⟩
    have Gun : G = ep_at rk 0 (ep_at rk 1 (ep_at rk 2 W0 (cp U)) (cp T)) (cp G) := by rw [eG]; exact ep_sol_un rk hc 0 _
    have TU : ep_le T U := by rw [eT]; exact fun s hs => hs.2
    have TQ : ∀ w, w < n → T (0 + 2 * j, w) → Q w := by rw [eT]; exact fun w hw hs => (hs.1 hw).1 rfl
    have U1 : U = ep_sol rk cp 1 (ep_at rk 1 (ep_at rk 2 W0 (cp U)) (cp U)) := by
      have h := ep_sol_un rk hc 1 (ep_at rk 2 W0 (cp U))
      rw [e2] at h
      exact h
    have GU : ep_le G U := by
      rw [eG]
      exact ep_tr (ep_solF rk hc 1 (ep_at rk 2 W0 (cp U)) _ _ TU) (ep_of_eq U1.symm)
    rw [← eG]
    have GcU : ∀ s, G s → cp U s := by
      intro s hs
      rw [Gun] at hs
      have h3 := hr3 s
      by_cases e0 : rk s = 0
      · rw [ep_at_eq e0] at hs; exact hc _ _ GU s hs
      · rw [ep_at_ne e0] at hs
        by_cases e1 : rk s = 1
        · rw [ep_at_eq e1] at hs; exact hc _ _ TU s hs
        · rw [ep_at_ne e1, ep_at_eq (by omega)] at hs; exact hs
    have hSt : ∀ w m, m < 4 → w < n → s w → (nm m w = 0 + 2 * k ∨ nm m w = 1 + 2 * k) → G (m, w) → st w := by
      intro w m hm4 hw hsw hnm hG
      refine hS w hsw ?_
      cases hnm with
      | inl e => exact ep_c1 hF hC (0 + 2 * k) hm4 hw e (GcU _ hG) (fun x hx hU => ⟨Or.inl hU, hx⟩)
      | inr e => exact ep_c1 hF hC (1 + 2 * k) hm4 hw e (GcU _ hG) (fun x hx hU => ⟨Or.inr hU, hx⟩)
    have G1 : ep_le (fun w => G (1 + 2 * j, w) ∧ w < n) (ep_stay f (fun v => v < n ∧ ¬ b v) st) := by
      refine ep_stay_co ?_
      rintro w ⟨hG, hw⟩
      by_cases hsw : s w
      · exact Or.inl (hSt w _ hk1 hw hsw (nS1 w hsw) hG)
      · rw [Gun] at hG
        by_cases hb : b w
        · rw [ep_at_ne (by have := k1 w hsw hb; omega), ep_at_eq (k1 w hsw hb)] at hG
          exact Or.inl (fQ w (ep_c1 hF hC (0 + 2 * j) hk1 hw (n1t w hsw hb) hG (fun x hx hT => TQ x hx hT)))
        · rw [ep_at_eq (k0 w hsw hb)] at hG
          exact Or.inr ⟨⟨hw, hb⟩, ep_c1 hF hC (1 + 2 * j) hk1 hw (n1f w hsw hb) hG (fun x hx hT => ⟨hT, hx⟩)⟩
    have G1Q : ∀ w, w < n → G (1 + 2 * j, w) → Q w := fun w hw hG => Qin w (Or.inr (G1 w ⟨hG, hw⟩))
    have G0 : ep_le (fun w => G (0 + 2 * j, w) ∧ w < n) (ep_stay f (fun v => v < n ∧ ¬ a v) st) := by
      refine ep_stay_co ?_
      rintro w ⟨hG, hw⟩
      by_cases hsw : s w
      · exact Or.inl (hSt w _ hk0 hw hsw (nS0 w hsw) hG)
      · rw [Gun, ep_at_eq (k00 w hsw)] at hG
        by_cases ha : a w
        · exact Or.inl (fQ w (ep_c1 hF hC (1 + 2 * j) hk0 hw (n0t w hsw ha) hG (fun x hx hT => G1Q x hx hT)))
        · exact Or.inr ⟨⟨hw, ha⟩, ep_c1 hF hC (0 + 2 * j) hk0 hw (n0f w hsw ha) hG (fun x hx hT => ⟨hT, hx⟩)⟩
    rintro ⟨m, w⟩ hs hw
    have hw : w < n := hw
    constructor
    · intro hm0
      have hm0 : m = 0 + 2 * j := hm0
      subst hm0
      exact Qin w (Or.inl (G0 w ⟨hs, hw⟩))
    · intro hm0
      have hm0 : m = 1 + 2 * j := hm0
      subst hm0
      exact G1Q w hw hs
  exact fun v hv => ⟨fun h => (key _ h hv).1 rfl, fun h => (key _ h hv).2 rfl⟩
/-- and the other way -/
theorem ep_g5b {n : Nat} {f : (Nat → Prop) → (Nat → Prop)} {cp : (Nat × Nat → Prop) → (Nat × Nat → Prop)} {nm : Nat → Nat → Nat}
    {rk : Nat × Nat → Nat} {W1 V : Nat × Nat → Prop} (hF : ep_F n f) (hC : ep_C n f 4 nm cp) {a b s R : Nat → Prop} {j : Nat}
    (hk0 : 0 + 2 * j < 4) (hk1 : 1 + 2 * j < 4)
    (k1 : ∀ w, ¬ s w → b w → rk (1 + 2 * j, w) = 1) (k0 : ∀ w, ¬ s w → ¬ b w → rk (1 + 2 * j, w) = 0) (k00 : ∀ w, ¬ s w → rk (0 + 2 * j, w) = 0)
    (n0t : ∀ w, ¬ s w → a w → nm (0 + 2 * j) w = 1 + 2 * j) (n0f : ∀ w, ¬ s w → ¬ a w → nm (0 + 2 * j) w = 0 + 2 * j)
    (n1t : ∀ w, ¬ s w → b w → nm (1 + 2 * j) w = 0 + 2 * j) (n1f : ∀ w, ¬ s w → ¬ b w → nm (1 + 2 * j) w = 1 + 2 * j)
    (Vun : V = ep_sol rk cp 2 W1) (QR : ep_le (ep_spoil f (fun v => v < n) a b s R) R)
    (hS : ∀ m v (T : Nat × Nat → Prop), m = 0 + 2 * j ∨ m = 1 + 2 * j → s v → f R v → ep_le V T → ep_at rk 0 (ep_at rk 1 W1 (cp V)) (cp T) (m, v)) :
    ∀ v, ep_spoil f (fun v => v < n) a b s R v → V (0 + 2 * j, v) ∧ V (1 + 2 * j, v) := by
  have hm := ep_F_mono hF
  have hc := hC.1
  have V1 : V = ep_sol rk cp 1 (ep_at rk 1 W1 (cp V)) := by rw [Vun]; exact ep_sol_un rk hc 1 W1
  have V2 : V = ep_at rk 0 (ep_at rk 1 W1 (cp V)) (cp V) := by
    have h := ep_sol_un rk hc 0 (ep_at rk 1 W1 (cp V))
    rw [ep_sol_0, ← V1] at h
    exact h
  have cov : ∀ (k : Nat) (K : Nat → Prop), (∀ v, K v → ep_at rk 0 (ep_at rk 1 W1 (cp V)) (cp fun s => (s.1 = k ∧ K s.2) ∨ V s) (k, v)) → ∀ v, K v → V (k, v) := by
    intro k K hK v hv
    have hT : ep_le (fun s => (s.1 = k ∧ K s.2) ∨ V s) (ep_sol rk cp 1 (ep_at rk 1 W1 (cp V))) := by
      refine ep_sol_co rfl ?_
      rw [ep_sol_0]
      rintro ⟨m, w⟩ hs
      cases hs with
      | inr hs =>
        rw [V2] at hs
        cases hs with
        | inl hs => exact Or.inl ⟨hs.1, hc _ _ (fun s x => Or.inr x) _ hs.2⟩
        | inr hs => exact Or.inr hs
      | inl hs =>
        have hm0 : m = k := hs.1
        subst hm0
        exact hK w hs.2
    rw [V1]
    exact hT (k, v) (Or.inl ⟨rfl, hv⟩)
  refine ep_lfp_ind (ep_spoilF_mono hm _ a b s R) ?_
  obtain ⟨Y, eY⟩ : ∃ Y : Nat → Prop, Y = fun v => (V (0 + 2 * j, v) ∧ V (1 + 2 * j, v)) ∧ ep_lfp (ep_spoilF f (fun v => v < n) a b s R) v := ⟨_, rfl⟩
  rw [← eY]
  have Y0 : ∀ w, Y w → V (0 + 2 * j, w) := by rw [eY]; exact fun w h => h.1.1
  have Y1 : ∀ w, Y w → V (1 + 2 * j, w) := by rw [eY]; exact fun w h => h.1.2
  have YQ : ep_le Y (ep_spoil f (fun v => v < n) a b s R) := by rw [eY]; exact fun w h => h.2
  have FQ : ep_le (ep_spoilF f (fun v => v < n) a b s R Y) R :=
    fun w h => QR w (ep_lfp_pre (ep_spoilF_mono hm _ a b s R) w (ep_spoilF_mono hm _ a b s R _ _ YQ w h))
  obtain ⟨st, est⟩ : ∃ st : Nat → Prop, st = fun v => (s v ∧ f R v) ∨ f Y v := ⟨_, rfl⟩
  obtain ⟨Ka, eKa⟩ : ∃ K : Nat → Prop, K = ep_stay f (fun v => v < n ∧ ¬ a v) st := ⟨_, rfl⟩
  obtain ⟨Kb, eKb⟩ : ∃ K : Nat → Prop, K = ep_stay f (fun v => v < n ∧ ¬ b v) st := ⟨_, rfl⟩
  have aR : ∀ w, Ka w → R w := fun w h => FQ w (Or.inl (by rw [eKa, est] at h; exact h))
  have bR : ∀ w, Kb w → R w := fun w h => FQ w (Or.inr (by rw [eKb, est] at h; exact h))
  have aout : ∀ w, Ka w → st w ∨ ((w < n ∧ ¬ a w) ∧ f Ka w) := by rw [eKa]; exact ep_stay_out hm
  have bout : ∀ w, Kb w → st w ∨ ((w < n ∧ ¬ b w) ∧ f Kb w) := by rw [eKb]; exact ep_stay_out hm
  have sR : ∀ w, st w → f R w := by
    rw [est]
    exact fun w h => h.elim (fun x => x.2) (fun x => hm _ _ (ep_tr YQ QR) w x)
  have sY : ∀ w, ¬ s w → st w → f Y w := by
    rw [est]
    exact fun w hs h => h.elim (fun x => absurd x.1 hs) (fun x => x)
  have afR : ∀ w, Ka w → f R w := fun w h => (aout w h).elim (sR w) (fun x => hm _ _ aR w x.2)
  have bfR : ∀ w, Kb w → f R w := fun w h => (bout w h).elim (sR w) (fun x => hm _ _ bR w x.2)
  have A0 : ∀ v, Ka v → V (0 + 2 * j, v) := cov (0 + 2 * j) Ka fun v hv => by
    by_cases hs : s v
    · exact hS _ v _ (Or.inl rfl) hs (afR v hv) (fun s x => Or.inr x)
    · rw [ep_at_eq (k00 v hs)]
      by_cases ha : a v
      · cases aout v hv with
        | inl h => exact ep_c2 hF hC (1 + 2 * j) hk0 (n0t v hs ha) (sY v hs h) (fun w _ hw => Or.inr (Y1 w hw))
        | inr h => exact absurd ha h.1.2
      · cases aout v hv with
        | inl h => exact ep_c2 hF hC (0 + 2 * j) hk0 (n0f v hs ha) (sY v hs h) (fun w _ hw => Or.inr (Y0 w hw))
        | inr h => exact ep_c2 hF hC (0 + 2 * j) hk0 (n0f v hs ha) h.2 (fun w _ hw => Or.inl ⟨rfl, hw⟩)
  have A1 : ∀ v, Ka v → V (1 + 2 * j, v) := cov (1 + 2 * j) Ka fun v hv => by
    by_cases hs : s v
    · exact hS _ v _ (Or.inr rfl) hs (afR v hv) (fun s x => Or.inr x)
    · by_cases hb : b v
      · rw [ep_at_ne (by have := k1 v hs hb; omega), ep_at_eq (k1 v hs hb)]
        cases aout v hv with
        | inl h => exact ep_c2 hF hC (0 + 2 * j) hk1 (n1t v hs hb) (sY v hs h) (fun w _ hw => Y0 w hw)
        | inr h => exact ep_c2 hF hC (0 + 2 * j) hk1 (n1t v hs hb) h.2 (fun w _ hw => A0 w hw)
      · rw [ep_at_eq (k0 v hs hb)]
        cases aout v hv with
        | inl h => exact ep_c2 hF hC (1 + 2 * j) hk1 (n1f v hs hb) (sY v hs h) (fun w _ hw => Or.inr (Y1 w hw))
        | inr h => exact ep_c2 hF hC (1 + 2 * j) hk1 (n1f v hs hb) h.2 (fun w _ hw => Or.inl ⟨rfl, hw⟩)
  have B1 : ∀ v, Kb v → V (1 + 2 * j, v) := cov (1 + 2 * j) Kb fun v hv => by
    by_cases hs : s v
    · exact hS _ v _ (Or.inr rfl) hs (bfR v hv) (fun s x => Or.inr x)
    · by_cases hb : b v
      · rw [ep_at_ne (by have := k1 v hs hb; omega), ep_at_eq (k1 v hs hb)]
        cases bout v hv with
        | inl h => exact ep_c2 hF hC (0 + 2 * j) hk1 (n1t v hs hb) (sY v hs h) (fun w _ hw => Y0 w hw)
        | inr h => exact absurd hb h.1.2
      · rw [ep_at_eq (k0 v hs hb)]
        cases bout v hv with
        | inl h => exact ep_c2 hF hC (1 + 2 * j) hk1 (n1f v hs hb) (sY v hs h) (fun w _ hw => Or.inr (Y1 w hw))
        | inr h => exact ep_c2 hF hC (1 + 2 * j) hk1 (n1f v hs hb) h.2 (fun w _ hw => Or.inl ⟨rfl, hw⟩)
  have B0 : ∀ v, Kb v → V (0 + 2 * j, v) := cov (0 + 2 * j) Kb fun v hv => by
    by_cases hs : s v
    · exact hS _ v _ (Or.inl rfl) hs (bfR v hv) (fun s x => Or.inr x)
    · rw [ep_at_eq (k00 v hs)]
      by_cases ha : a v
      · cases bout v hv with
        | inl h => exact ep_c2 hF hC (1 + 2 * j) hk0 (n0t v hs ha) (sY v hs h) (fun w _ hw => Or.inr (Y1 w hw))
        | inr h => exact ep_c2 hF hC (1 + 2 * j) hk0 (n0t v hs ha) h.2 (fun w _ hw => Or.inr (B1 w hw))
      · cases bout v hv with
        | inl h => exact ep_c2 hF hC (0 + 2 * j) hk0 (n0f v hs ha) (sY v hs h) (fun w _ hw => Or.inr (Y0 w hw))
        | inr h => exact ep_c2 hF hC (0 + 2 * j) hk0 (n0f v hs ha) h.2 (fun w _ hw => Or.inl ⟨rfl, hw⟩)
  intro v hv
  cases hv with
  | inl h =>
    have h : Ka v := by rw [eKa, est]; exact h
    exact ⟨A0 v h, A1 v h⟩
  | inr h =>
    have h : Kb v := by rw [eKb, est]; exact h
    exact ⟨B0 v h, B1 v h⟩
theorem ep_g5 {n : Nat} {f : (Nat → Prop) → (Nat → Prop)} {cp : (Nat × Nat → Prop) → (Nat × Nat → Prop)} {nm : Nat → Nat → Nat}
    {rk : Nat × Nat → Nat} {W0 : Nat × Nat → Prop} (hF : ep_F n f) (hC : ep_C n f 4 nm cp) {a b : Nat → Prop} {s : Nat → Nat → Prop}
    (hr3 : ∀ s, rk s < 3)
    (k1 : ∀ j w, j < 2 → ¬ s j w → b w → rk (1 + 2 * j, w) = 1) (k0 : ∀ j w, j < 2 → ¬ s j w → ¬ b w → rk (1 + 2 * j, w) = 0)
    (k00 : ∀ j w, j < 2 → ¬ s j w → rk (0 + 2 * j, w) = 0)
    (k2 : ∀ m w, m = 0 + 2 * 1 ∨ m = 1 + 2 * 1 → s 1 w → rk (m, w) = 2) (k3 : ∀ m w, m = 0 + 2 * 0 ∨ m = 1 + 2 * 0 → rk (m, w) < 2)
    (nS0 : ∀ j w, j < 2 → s j w → nm (0 + 2 * j) w = 0 + 2 * (1 - j) ∨ nm (0 + 2 * j) w = 1 + 2 * (1 - j))
    (nS1 : ∀ j w, j < 2 → s j w → nm (1 + 2 * j) w = 0 + 2 * (1 - j) ∨ nm (1 + 2 * j) w = 1 + 2 * (1 - j))
    (n0t : ∀ j w, j < 2 → ¬ s j w → a w → nm (0 + 2 * j) w = 1 + 2 * j) (n0f : ∀ j w, j < 2 → ¬ s j w → ¬ a w → nm (0 + 2 * j) w = 0 + 2 * j)
    (n1t : ∀ j w, j < 2 → ¬ s j w → b w → nm (1 + 2 * j) w = 0 + 2 * j) (n1f : ∀ j w, j < 2 → ¬ s j w → ¬ b w → nm (1 + 2 * j) w = 1 + 2 * j)
    (v : Nat) (hv : v < n) :
    ep_sol rk cp 3 W0 (0, v) ↔ ep_ifb f (fun v => v < n) a b (s 0) (s 1) v := by
  have hm := ep_F_mono hF
  have hc := hC.1
  obtain ⟨R, eR⟩ : ∃ R, R = ep_ifb f (fun v => v < n) a b (s 0) (s 1) := ⟨_, rfl⟩
  obtain ⟨U, eU⟩ : ∃ U, U = ep_sol rk cp 3 W0 := ⟨_, rfl⟩
  rw [← eR, ← eU]
  have Uun : U = ep_sol rk cp 2 (ep_at rk 2 W0 (cp U)) := by rw [eU]; exact ep_sol_un rk hc 2 W0
  constructor
  · intro h
    obtain ⟨Z, eZ⟩ : ∃ Z : Nat → Prop, Z = fun w => (∃ j, j < 2 ∧ (U (0 + 2 * j, w) ∨ U (1 + 2 * j, w))) ∧ w < n := ⟨_, rfl⟩
    have ZU : ∀ j, j < 2 → ∀ w, (U (0 + 2 * j, w) ∨ U (1 + 2 * j, w)) ∧ w < n → Z w := by
      rw [eZ]; exact fun j hj w h => ⟨⟨j, hj, h.1⟩, h.2⟩
    have Spre : ∀ j, ep_le (ep_spoilF f (fun v => v < n) a b (s j) Z (ep_spoil f (fun v => v < n) a b (s j) Z)) (ep_spoil f (fun v => v < n) a b (s j) Z) :=
      fun j => ep_lfp_pre (ep_spoilF_mono hm _ a b (s j) Z)
    have own : ∀ j, j < 2 → ∀ v, v < n → (U (0 + 2 * j, v) → ep_spoil f (fun v => v < n) a b (s j) Z v) ∧ (U (1 + 2 * j, v) → ep_spoil f (fun v => v < n) a b (s j) Z v) := by
      intro j hj
      refine ep_g5a (W0 := W0) (a := a) (b := b) (s := s j) (k := 1 - j) (st := fun v => (s j v ∧ f Z v) ∨ f (ep_spoil f (fun v => v < n) a b (s j) Z) v)
        hF hC hr3 (by omega) (by omega) (fun w => k1 j w hj) (fun w => k0 j w hj) (fun w => k00 j w hj) (fun w => nS0 j w hj) (fun w => nS1 j w hj)
        (fun w => n0t j w hj) (fun w => n0f j w hj) (fun w => n1t j w hj) (fun w => n1f j w hj) Uun ?_ ?_ ?_
      · exact fun v hv => Spre j v hv
      · exact fun v hv => Or.inr hv
      · exact fun v hs hv => Or.inl ⟨hs, hm _ _ (ZU (1 - j) (by omega)) v hv⟩
    have cross : ∀ j, j < 2 → ∀ v, v < n → (U (0 + 2 * j, v) → ep_spoil f (fun v => v < n) a b (s (1 - j)) Z v) ∧ (U (1 + 2 * j, v) → ep_spoil f (fun v => v < n) a b (s (1 - j)) Z v) := by
      intro j hj
      refine ep_g5a (W0 := W0) (a := a) (b := b) (s := s j) (k := 1 - j) (st := fun v => (s (1 - j) v ∧ f Z v) ∨ f (ep_spoil f (fun v => v < n) a b (s (1 - j)) Z) v)
        hF hC hr3 (by omega) (by omega) (fun w => k1 j w hj) (fun w => k0 j w hj) (fun w => k00 j w hj) (fun w => nS0 j w hj) (fun w => nS1 j w hj)
        (fun w => n0t j w hj) (fun w => n0f j w hj) (fun w => n1t j w hj) (fun w => n1f j w hj) Uun ?_ ?_ ?_
      · exact fun v hv => Spre (1 - j) v hv
      · exact fun v hv => Or.inr hv
      · exact fun v hs hv => Or.inr (hm _ _ (fun w hw => hw.1.elim ((own (1 - j) (by omega) w hw.2).1) ((own (1 - j) (by omega) w hw.2).2)) v hv)
    have key : ep_le Z R := by
      rw [eR]
      apply ep_le_gfp
      intro w hZ
      have hZ' := hZ
      rw [eZ] at hZ'
      obtain ⟨⟨j, hj, hU⟩, hw⟩ := hZ'
      have h1 : ep_spoil f (fun v => v < n) a b (s j) Z w := hU.elim (own j hj w hw).1 (own j hj w hw).2
      have h2 : ep_spoil f (fun v => v < n) a b (s (1 - j)) Z w := hU.elim (cross j hj w hw).1 (cross j hj w hw).2
      have hj' : j = 0 ∨ j = 1 := by omega
      cases hj' with
      | inl e => subst e; exact ⟨h1, h2⟩
      | inr e => subst e; exact ⟨h2, h1⟩
    exact key v (ZU 0 (by decide) v ⟨Or.inl h, hv⟩)
  · intro h
    have Run : ∀ v, R v → ep_spoil f (fun v => v < n) a b (s 0) R v ∧ ep_spoil f (fun v => v < n) a b (s 1) R v := by
      rw [eR]; exact ep_gfp_post (ep_ifbF_mono hm _ a b (s 0) (s 1))
    have hLR : ep_le (fun v => ep_spoil f (fun v => v < n) a b (s 0) R v ∨ ep_spoil f (fun v => v < n) a b (s 1) R v) R := by
      obtain ⟨Z, eZ⟩ : ∃ Z : Nat → Prop, Z = fun v => ep_spoil f (fun v => v < n) a b (s 0) R v ∨ ep_spoil f (fun v => v < n) a b (s 1) R v := ⟨_, rfl⟩
      rw [← eZ]
      have hRZ : ep_le R Z := by rw [eZ]; exact fun w hw => Or.inl (Run w hw).1
      have q : ∀ c d : Nat → Prop, ep_le R (ep_spoil f (fun v => v < n) a b c Z) → ep_le (ep_spoil f (fun v => v < n) a b d R) (ep_spoil f (fun v => v < n) a b c Z) := by
        intro c d hRc
        apply ep_lfp_le
        refine ep_tr (ep_spoilF_le ?_) (ep_lfp_pre (ep_spoilF_mono hm _ a b c Z))
        exact fun v x => x.elim (fun y => Or.inr (hm _ _ hRc v y.2)) (fun y => Or.inr y)
      have q0 := fun d => q (s 0) d (fun w hw => ep_spoil_mono hm _ a b (s 0) _ _ hRZ w (Run w hw).1)
      have q1 := fun d => q (s 1) d (fun w hw => ep_spoil_mono hm _ a b (s 1) _ _ hRZ w (Run w hw).2)
      rw [eR]
      apply ep_le_gfp
      intro w hw
      have hw' := hw
      rw [eZ] at hw'
      cases hw' with
      | inl x => exact ⟨q0 (s 0) w x, q1 (s 0) w x⟩
      | inr x => exact ⟨q0 (s 1) w x, q1 (s 1) w x⟩
    have hT : ep_le (fun s => s.1 < 4 ∧ R s.2) U := by
      rw [eU]
      refine ep_sol_co rfl ?_
      obtain ⟨V, eV⟩ : ∃ V, V = ep_sol rk cp 2 (ep_at rk 2 W0 (cp fun s => s.1 < 4 ∧ R s.2)) := ⟨_, rfl⟩
      rw [← eV]
      have v1 : ∀ v, ep_spoil f (fun v => v < n) a b (s 1) R v → V (0 + 2 * 1, v) ∧ V (1 + 2 * 1, v) := by
        refine ep_g5b (j := 1) hF hC (by decide) (by decide) (fun w => k1 1 w (by decide)) (fun w => k0 1 w (by decide)) (fun w => k00 1 w (by decide))
          (fun w => n0t 1 w (by decide)) (fun w => n0f 1 w (by decide)) (fun w => n1t 1 w (by decide)) (fun w => n1f 1 w (by decide)) eV (fun w hw => hLR w (Or.inr hw)) ?_
        intro m v T hmm hs hfR _
        have hk := k2 m v hmm hs
        rw [ep_at_ne (by omega), ep_at_ne (by omega), ep_at_eq hk]
        have hnm : nm m v < 4 := by
          rcases hmm with e | e
          · subst e; rcases nS0 1 v (by decide) hs with e | e <;> omega
          · subst e; rcases nS1 1 v (by decide) hs with e | e <;> omega
        exact ep_c2 hF hC (nm m v) (by omega) rfl hfR (fun w _ hw => ⟨hnm, hw⟩)
      have v0 : ∀ v, ep_spoil f (fun v => v < n) a b (s 0) R v → V (0 + 2 * 0, v) ∧ V (1 + 2 * 0, v) := by
        refine ep_g5b (j := 0) hF hC (by decide) (by decide) (fun w => k1 0 w (by decide)) (fun w => k0 0 w (by decide)) (fun w => k00 0 w (by decide))
          (fun w => n0t 0 w (by decide)) (fun w => n0f 0 w (by decide)) (fun w => n1t 0 w (by decide)) (fun w => n1f 0 w (by decide)) eV (fun w hw => hLR w (Or.inl hw)) ?_
        intro m v T hmm hs hfR hVT
        have hk := k3 m v hmm
        have hR2 : ∀ w, R w → V (nm m v, w) := by
          intro w hw
          have hv1 := v1 w (Run w hw).2
          rcases hmm with e | e
          · subst e
            rcases nS0 0 v (by decide) hs with e | e
            · rw [e]; exact hv1.1
            · rw [e]; exact hv1.2
          · subst e
            rcases nS1 0 v (by decide) hs with e | e
            · rw [e]; exact hv1.1
            · rw [e]; exact hv1.2
        by_cases e0 : rk (m, v) = 0
        · rw [ep_at_eq e0]
          exact ep_c2 hF hC (nm m v) (by omega) rfl hfR (fun w _ hw => hVT _ (hR2 w hw))
        · rw [ep_at_ne e0, ep_at_eq (by omega)]
          exact ep_c2 hF hC (nm m v) (by omega) rfl hfR (fun w _ hw => hR2 w hw)
      rintro ⟨m, w⟩ ⟨hm4, hR⟩
      have hm4 : m < 4 := hm4
      have hR : R w := hR
      have hm' : m = 0 + 2 * 0 ∨ m = 1 + 2 * 0 ∨ m = 0 + 2 * 1 ∨ m = 1 + 2 * 1 := by omega
      rcases hm' with e | e | e | e
      · subst e; exact (v0 w (Run w hR).1).1
      · subst e; exact (v0 w (Run w hR).1).2
      · subst e; exact (v1 w (Run w hR).2).1
      · subst e; exact (v1 w (Run w hR).2).2
    exact hT (0, v) ⟨Nat.zero_lt_succ _, h⟩
end
section
/-! goals 6 and 7: two pairs -/
def ep_innF (f : (Nat → Prop) → (Nat → Prop)) (g wi ri : Nat → Prop) : (Nat → Prop) → (Nat → Prop) :=
  fun Y => ep_reach f (fun v => ri v ∨ ((wi v ∧ g v) ∧ f Y v)) wi
def ep_inner (f : (Nat → Prop) → (Nat → Prop)) (g wi ri : Nat → Prop) : Nat → Prop := ep_gfp (ep_innF f g wi ri)
def ep_own (f : (Nat → Prop) → (Nat → Prop)) (al g r y ri X : Nat → Prop) : Nat → Prop :=
  fun v => (ri v ∨ (((al v ∧ ¬ r v) ∧ g v) ∧ f y v)) ∨ ((al v ∧ ¬ r v) ∧ f X v)
def ep_leastF (f : (Nat → Prop) → (Nat → Prop)) (al g r g' r' y ri : Nat → Prop) : (Nat → Prop) → (Nat → Prop) :=
  fun X => ep_inner f g' (fun v => (al v ∧ ¬ r v) ∧ ¬ r' v) (ep_own f al g r y ri X)
def ep_least (f : (Nat → Prop) → (Nat → Prop)) (al g r g' r' y ri : Nat → Prop) : Nat → Prop := ep_lfp (ep_leastF f al g r g' r' y ri)
def ep_pair (f : (Nat → Prop) → (Nat → Prop)) (al g r g' r' ri : Nat → Prop) : Nat → Prop := ep_gfp fun Y => ep_least f al g r g' r' Y ri
def ep_oneF (f : (Nat → Prop) → (Nat → Prop)) (al g r g' r' : Nat → Prop) : (Nat → Prop) → (Nat → Prop) :=
  fun X v => ep_pair f al g r g' r' (f X) v ∨ ep_pair f al g' r' g r (f X) v
def ep_one (f : (Nat → Prop) → (Nat → Prop)) (al g r g' r' : Nat → Prop) : Nat → Prop := ep_lfp (ep_oneF f al g r g' r')
theorem ep_inn_in {f : (Nat → Prop) → (Nat → Prop)} (h : ep_mono f) {g wi ri Y : Nat → Prop} (v : Nat) (x : (ri v ∨ ((wi v ∧ g v) ∧ f Y v)) ∨ (wi v ∧ f (ep_innF f g wi ri Y) v)) :
    ep_innF f g wi ri Y v := ep_reach_in (P := fun v => ri v ∨ ((wi v ∧ g v) ∧ f Y v)) (T := wi) h v x
theorem ep_inn_ind {f : (Nat → Prop) → (Nat → Prop)} (h : ep_mono f) {g wi ri Y X : Nat → Prop} (h1 : ∀ v, ri v ∨ ((wi v ∧ g v) ∧ f Y v) → X v)
    (h2 : ∀ v, wi v → f (fun w => X w ∧ ep_innF f g wi ri Y w) v → X v) : ep_le (ep_innF f g wi ri Y) X :=
  ep_reach_ind (P := fun v => ri v ∨ ((wi v ∧ g v) ∧ f Y v)) (T := wi) h h1 h2
theorem ep_innF_le {f : (Nat → Prop) → (Nat → Prop)} (h : ep_mono f) {g wi ri ri' Y Y' : Nat → Prop} (h1 : ep_le ri ri') (h2 : ep_le Y Y') :
    ep_le (ep_innF f g wi ri Y) (ep_innF f g wi ri' Y') :=
  ep_reach_mono (fun v x => x.elim (fun y => Or.inl (h1 v y)) (fun y => Or.inr ⟨y.1, h _ _ h2 v y.2⟩)) (ep_rfl wi)
theorem ep_innF_mono {f : (Nat → Prop) → (Nat → Prop)} (h : ep_mono f) (g wi ri : Nat → Prop) : ep_mono (ep_innF f g wi ri) :=
  fun _ _ hab => ep_innF_le h (ep_rfl ri) hab
theorem ep_inner_mono {f : (Nat → Prop) → (Nat → Prop)} (h : ep_mono f) (g wi : Nat → Prop) : ep_mono (ep_inner f g wi) :=
  fun _ _ hab => ep_gfp_mono fun X => ep_innF_le h hab (ep_rfl X)
theorem ep_own_le {f : (Nat → Prop) → (Nat → Prop)} (h : ep_mono f) {al g r y ri X y' ri' X' : Nat → Prop} (h1 : ep_le y y') (h2 : ep_le ri ri') (h3 : ep_le X X') :
    ep_le (ep_own f al g r y ri X) (ep_own f al g r y' ri' X') :=
  fun v x => x.elim (fun z => z.elim (fun q => Or.inl (Or.inl (h2 v q))) (fun q => Or.inl (Or.inr ⟨q.1, h _ _ h1 v q.2⟩))) (fun z => Or.inr ⟨z.1, h _ _ h3 v z.2⟩)
theorem ep_leastF_le {f : (Nat → Prop) → (Nat → Prop)} (h : ep_mono f) {al g r g' r' y ri X y' ri' X' : Nat → Prop} (h1 : ep_le y y') (h2 : ep_le ri ri') (h3 : ep_le X X') :
    ep_le (ep_leastF f al g r g' r' y ri X) (ep_leastF f al g r g' r' y' ri' X') := ep_inner_mono h _ _ _ _ (ep_own_le h h1 h2 h3)
theorem ep_leastF_mono {f : (Nat → Prop) → (Nat → Prop)} (h : ep_mono f) (al g r g' r' y ri : Nat → Prop) : ep_mono (ep_leastF f al g r g' r' y ri) :=
  fun _ _ hab => ep_leastF_le h (ep_rfl y) (ep_rfl ri) hab
theorem ep_least_le {f : (Nat → Prop) → (Nat → Prop)} (h : ep_mono f) {al g r g' r' y ri y' ri' : Nat → Prop} (h1 : ep_le y y') (h2 : ep_le ri ri') :
    ep_le (ep_least f al g r g' r' y ri) (ep_least f al g r g' r' y' ri') := ep_lfp_mono fun X => ep_leastF_le h h1 h2 (ep_rfl X)
theorem ep_pairF_mono {f : (Nat → Prop) → (Nat → Prop)} (h : ep_mono f) (al g r g' r' ri : Nat → Prop) : ep_mono (fun Y => ep_least f al g r g' r' Y ri) :=
  fun _ _ hab => ep_least_le h hab (ep_rfl ri)
theorem ep_pair_mono {f : (Nat → Prop) → (Nat → Prop)} (h : ep_mono f) (al g r g' r' : Nat → Prop) : ep_mono (ep_pair f al g r g' r') :=
  fun _ _ hab => ep_gfp_mono fun Y => ep_least_le h (ep_rfl Y) hab
theorem ep_oneF_mono {f : (Nat → Prop) → (Nat → Prop)} (h : ep_mono f) (al g r g' r' : Nat → Prop) : ep_mono (ep_oneF f al g r g' r') :=
  fun A B hab v x => x.elim (fun y => Or.inl (ep_pair_mono h al g r g' r' _ _ (h A B hab) v y)) (fun y => Or.inr (ep_pair_mono h al g' r' g r _ _ (h A B hab) v y))
def ep_mb (m b : Nat) : Prop := (m = 0 ∧ b = 1) ∨ (m = 1 ∧ b = 0)
theorem ep_mb_s {m b : Nat} (h : ep_mb m b) : ep_mb b m := by unfold ep_mb at *; omega
theorem ep_mb_l {m b : Nat} (h : ep_mb m b) : m < 2 := by unfold ep_mb at *; omega
theorem ep_mb_e {m : Nat} (h : m < 2) : ∃ b, ep_mb m b := ⟨1 - m, by unfold ep_mb; omega⟩
/-- the ranks of a state of memory m, the pair b behind -/
def ep_r6 (nm : Nat → Nat → Nat) (rk : Nat × Nat → Nat) (g r : Nat → Nat → Prop) : Prop :=
  ∀ m b v, ep_mb m b → (r b v → nm m v = b ∧ rk (m, v) = 5) ∧ (¬ r b v → nm m v = m ∧ (g b v → rk (m, v) = 4) ∧
    (¬ g b v → (r m v → rk (m, v) = 3) ∧ (¬ r m v → (g m v → rk (m, v) = 2) ∧ (¬ g m v → rk (m, v) = 1))))
def ep_base (rk : Nat × Nat → Nat) (W Z5 Z4 Z3 Z2 Z1 : Nat × Nat → Prop) : Nat × Nat → Prop :=
  ep_at rk 1 (ep_at rk 2 (ep_at rk 3 (ep_at rk 4 (ep_at rk 5 W Z5) Z4) Z3) Z2) Z1
theorem ep_ba1 {rk : Nat × Nat → Nat} {W Z5 Z4 Z3 Z2 Z1 : Nat × Nat → Prop} {s : Nat × Nat} (h : rk s = 1) : ep_base rk W Z5 Z4 Z3 Z2 Z1 s = Z1 s := by
  unfold ep_base; rw [ep_at_eq h]
theorem ep_ba2 {rk : Nat × Nat → Nat} {W Z5 Z4 Z3 Z2 Z1 : Nat × Nat → Prop} {s : Nat × Nat} (h : rk s = 2) : ep_base rk W Z5 Z4 Z3 Z2 Z1 s = Z2 s := by
  unfold ep_base; rw [ep_at_ne (by omega), ep_at_eq h]
theorem ep_ba3 {rk : Nat × Nat → Nat} {W Z5 Z4 Z3 Z2 Z1 : Nat × Nat → Prop} {s : Nat × Nat} (h : rk s = 3) : ep_base rk W Z5 Z4 Z3 Z2 Z1 s = Z3 s := by
  unfold ep_base; rw [ep_at_ne (by omega), ep_at_ne (by omega), ep_at_eq h]
theorem ep_ba4 {rk : Nat × Nat → Nat} {W Z5 Z4 Z3 Z2 Z1 : Nat × Nat → Prop} {s : Nat × Nat} (h : rk s = 4) : ep_base rk W Z5 Z4 Z3 Z2 Z1 s = Z4 s := by
  unfold ep_base; rw [ep_at_ne (by omega), ep_at_ne (by omega), ep_at_ne (by omega), ep_at_eq h]
theorem ep_ba5 {rk : Nat × Nat → Nat} {W Z5 Z4 Z3 Z2 Z1 : Nat × Nat → Prop} {s : Nat × Nat} (h : rk s = 5) : ep_base rk W Z5 Z4 Z3 Z2 Z1 s = Z5 s := by
  unfold ep_base; rw [ep_at_ne (by omega), ep_at_ne (by omega), ep_at_ne (by omega), ep_at_ne (by omega), ep_at_eq h]
/-- what the settled states have, the formula has -/
theorem ep_g6a {n : Nat} {f : (Nat → Prop) → (Nat → Prop)} {cp : (Nat × Nat → Prop) → (Nat × Nat → Prop)} {nm : Nat → Nat → Nat}
    {rk : Nat × Nat → Nat} {W0 : Nat × Nat → Prop} (hF : ep_F n f) (hC : ep_C n f 2 nm cp) {g r : Nat → Nat → Prop} (h6 : ep_r6 nm rk g r) (h0 : ∀ s, rk s ≠ 0)
    {R : Nat → Prop} (Rin : ∀ i j, ep_mb i j → ep_le (ep_pair f (fun v => v < n) (g i) (r i) (g j) (r j) (f R)) R) :
    ep_le (ep_sol rk cp 6 W0) (fun s => s.1 < 2 → s.2 < n → R s.2) := by
  have hm := ep_F_mono hF
  have hc := hC.1
  refine ep_sol_ind hc rfl ?_
  obtain ⟨T, eT⟩ : ∃ T : Nat × Nat → Prop, T = fun s => (s.1 < 2 → s.2 < n → R s.2) ∧ ep_sol rk cp (5 + 1) W0 s := ⟨_, rfl⟩
  rw [← eT]
  have TR : ∀ m w, m < 2 → w < n → T (m, w) → R w := by rw [eT]; exact fun m w hm hw h => h.1 hm hw
  obtain ⟨U, eU⟩ : ∃ U, U = ep_sol rk cp 5 (ep_at rk 5 W0 (cp T)) := ⟨_, rfl⟩
  have Uun : U = ep_sol rk cp 4 (ep_at rk 4 (ep_at rk 5 W0 (cp T)) (cp U)) := by rw [eU]; exact ep_sol_un rk hc 4 _
  rw [← eU]
  have key : ∀ m b, ep_mb m b → ep_le (fun w => U (m, w) ∧ w < n) (ep_pair f (fun v => v < n) (g b) (r b) (g m) (r m) (f R)) := by
    intro m b hmb
    have hm2 := ep_mb_l hmb
    refine ep_le_gfp ?_
    obtain ⟨Uv, eUv⟩ : ∃ Uv : Nat → Prop, Uv = fun w => U (m, w) ∧ w < n := ⟨_, rfl⟩
    rw [← eUv]
    have UUv : ∀ w, w < n → U (m, w) → Uv w := by rw [eUv]; exact fun w hw h => ⟨h, hw⟩
    show ep_le Uv (ep_least f (fun v => v < n) (g b) (r b) (g m) (r m) Uv (f R))
    obtain ⟨L, eL⟩ : ∃ L, L = ep_least f (fun v => v < n) (g b) (r b) (g m) (r m) Uv (f R) := ⟨_, rfl⟩
    have Lin : ep_le (ep_leastF f (fun v => v < n) (g b) (r b) (g m) (r m) Uv (f R) L) L := by
      rw [eL]; exact ep_lfp_pre (ep_leastF_mono hm _ _ _ _ _ _ _)
    rw [← eL]
    have hU3 : ep_le U (fun s => s.1 = m → s.2 < n → L s.2) := by
      have e4 : ep_sol rk cp (3 + 1) (ep_at rk 4 (ep_at rk 5 W0 (cp T)) (cp U)) = U := Uun.symm
      rw [← e4]
      refine ep_sol_ind hc rfl ?_
      rw [e4]
      obtain ⟨T3, eT3⟩ : ∃ T : Nat × Nat → Prop, T = fun s => (s.1 = m → s.2 < n → L s.2) ∧ U s := ⟨_, rfl⟩
      rw [← eT3]
      have T3L : ∀ w, w < n → T3 (m, w) → L w := by rw [eT3]; exact fun w hw h => h.1 rfl hw
      obtain ⟨V, eV⟩ : ∃ V, V = ep_sol rk cp 3 (ep_at rk 3 (ep_at rk 4 (ep_at rk 5 W0 (cp T)) (cp U)) (cp T3)) := ⟨_, rfl⟩
      have Vun : V = ep_sol rk cp 2 (ep_at rk 2 (ep_at rk 3 (ep_at rk 4 (ep_at rk 5 W0 (cp T)) (cp U)) (cp T3)) (cp V)) := by rw [eV]; exact ep_sol_un rk hc 2 _
      rw [← eV]
      have hVL : ep_le (fun w => V (m, w) ∧ w < n) L := by
        refine ep_tr (ep_le_gfp ?_) Lin
        obtain ⟨Vv, eVv⟩ : ∃ Vv : Nat → Prop, Vv = fun w => V (m, w) ∧ w < n := ⟨_, rfl⟩
        rw [← eVv]
        have VVv : ∀ w, w < n → V (m, w) → Vv w := by rw [eVv]; exact fun w hw h => ⟨h, hw⟩
        obtain ⟨K, eK⟩ : ∃ K, K = ep_innF f (g m) (fun v => (v < n ∧ ¬ r b v) ∧ ¬ r m v) (ep_own f (fun v => v < n) (g b) (r b) Uv (f R) L) Vv := ⟨_, rfl⟩
        have Kin : ∀ v, (ep_own f (fun v => v < n) (g b) (r b) Uv (f R) L v ∨ ((((v < n ∧ ¬ r b v) ∧ ¬ r m v) ∧ g m v) ∧ f Vv v)) ∨ (((v < n ∧ ¬ r b v) ∧ ¬ r m v) ∧ f K v) → K v := by
          rw [eK]; exact ep_inn_in hm
        rw [← eK]
        have hV1 : ep_le V (fun s => s.1 = m → s.2 < n → K s.2) := by
          have e5 : ep_sol rk cp (1 + 1) (ep_at rk 2 (ep_at rk 3 (ep_at rk 4 (ep_at rk 5 W0 (cp T)) (cp U)) (cp T3)) (cp V)) = V := Vun.symm
          rw [← e5]
          refine ep_sol_ind hc rfl ?_
          rw [e5, ep_sol_skip rk cp 0 _ h0, ep_sol_0]
          rintro ⟨m', w⟩ hs hm0 hw
          have hm0 : m' = m := hm0
          have hw : w < n := hw
          subst hm0
          have hb := h6 m' b w hmb
          have hs : ep_base rk W0 (cp T) (cp U) (cp T3) (cp V) (cp fun s => (s.1 = m' → s.2 < n → K s.2) ∧ V s) (m', w) := hs
          show K w
          by_cases c1 : r b w
          · rw [ep_ba5 (hb.1 c1).2] at hs
            exact Kin w (Or.inl (Or.inl (Or.inl (Or.inl (ep_c1 hF hC b hm2 hw (hb.1 c1).1 hs (fun x hx hT => TR b x (ep_mb_l (ep_mb_s hmb)) hx hT))))))
          · have hb := hb.2 c1
            by_cases c2 : g b w
            · rw [ep_ba4 (hb.2.1 c2)] at hs
              exact Kin w (Or.inl (Or.inl (Or.inl (Or.inr ⟨⟨⟨hw, c1⟩, c2⟩, ep_c1 hF hC m' hm2 hw hb.1 hs UUv⟩))))
            · have hb2 := hb.2.2 c2
              by_cases c3 : r m' w
              · rw [ep_ba3 (hb2.1 c3)] at hs
                exact Kin w (Or.inl (Or.inl (Or.inr ⟨⟨hw, c1⟩, ep_c1 hF hC m' hm2 hw hb.1 hs T3L⟩)))
              · have hb3 := hb2.2 c3
                by_cases c4 : g m' w
                · rw [ep_ba2 (hb3.1 c4)] at hs
                  exact Kin w (Or.inl (Or.inr ⟨⟨⟨⟨hw, c1⟩, c3⟩, c4⟩, ep_c1 hF hC m' hm2 hw hb.1 hs VVv⟩))
                · rw [ep_ba1 (hb3.2 c4)] at hs
                  exact Kin w (Or.inr ⟨⟨⟨hw, c1⟩, c3⟩, ep_c1 hF hC m' hm2 hw hb.1 hs (fun x hx hT => hT.1 rfl hx)⟩)
        intro w hw
        rw [eVv] at hw
        exact hV1 (m, w) hw.1 rfl hw.2
      rintro ⟨m', w⟩ hs hm0 hw
      have hm0 : m' = m := hm0
      subst hm0
      exact hVL w ⟨hs, hw⟩
    intro w hw
    rw [eUv] at hw
    exact hU3 (m, w) hw.1 rfl hw.2
  rintro ⟨m, w⟩ hs hm2 hw
  obtain ⟨b, hb⟩ := ep_mb_e (m := m) hm2
  exact Rin b m (ep_mb_s hb) w (key m b hb w ⟨hs, hw⟩)
/-- the formula's one pair i, the memory with i behind -/
theorem ep_g6b {n : Nat} {f : (Nat → Prop) → (Nat → Prop)} {cp : (Nat × Nat → Prop) → (Nat × Nat → Prop)} {nm : Nat → Nat → Nat}
    {rk : Nat × Nat → Nat} {W0 Q : Nat × Nat → Prop} (hF : ep_F n f) (hC : ep_C n f 2 nm cp) {g r : Nat → Nat → Prop} (h6 : ep_r6 nm rk g r) (h0 : ∀ s, rk s ≠ 0)
    (eQ : Q = ep_sol rk cp 6 W0) {X P : Nat → Prop} {i m : Nat} (hmb : ep_mb m i) (X0 : ∀ w, X w → Q (m, w)) (X1 : ∀ w, X w → Q (i, w))
    (eP : P = ep_pair f (fun v => v < n) (g i) (r i) (g m) (r m) (f X)) : ∀ v, P v → Q (m, v) := by
  have hm := ep_F_mono hF
  have hc := hC.1
  have hm2 := ep_mb_l hmb
  have Q5 : Q = ep_sol rk cp 5 (ep_at rk 5 W0 (cp Q)) := by rw [eQ]; exact ep_sol_un rk hc 5 W0
  have Q4 : Q = ep_sol rk cp 4 (ep_at rk 4 (ep_at rk 5 W0 (cp Q)) (cp Q)) := by
    have h := ep_sol_un rk hc 4 (ep_at rk 5 W0 (cp Q))
    have e : ep_sol rk cp (4 + 1) (ep_at rk 5 W0 (cp Q)) = Q := Q5.symm
    rw [e] at h
    exact h
  have Pout : ∀ v, P v → ep_least f (fun v => v < n) (g i) (r i) (g m) (r m) P (f X) v := by
    rw [eP]; exact ep_gfp_post (ep_pairF_mono hm _ _ _ _ _ _)
  have Pin : ∀ v, ep_least f (fun v => v < n) (g i) (r i) (g m) (r m) P (f X) v → P v := by
    rw [eP]; exact ep_gfp_pre (ep_pairF_mono hm _ _ _ _ _ _)
  have hT : ep_le (fun s => (s.1 = m ∧ P s.2) ∨ Q s) (ep_sol rk cp 5 (ep_at rk 5 W0 (cp Q))) := by
    refine ep_sol_co rfl ?_
    obtain ⟨T4, eT4⟩ : ∃ T : Nat × Nat → Prop, T = fun s => (s.1 = m ∧ P s.2) ∨ Q s := ⟨_, rfl⟩
    rw [← eT4]
    have TP : ∀ w, P w → T4 (m, w) := by rw [eT4]; exact fun w h => Or.inl ⟨rfl, h⟩
    have TQ : ep_le Q T4 := by rw [eT4]; exact fun s h => Or.inr h
    obtain ⟨V3, eV3⟩ : ∃ V, V = ep_sol rk cp 4 (ep_at rk 4 (ep_at rk 5 W0 (cp Q)) (cp T4)) := ⟨_, rfl⟩
    have V3un : V3 = ep_sol rk cp 3 (ep_at rk 3 (ep_at rk 4 (ep_at rk 5 W0 (cp Q)) (cp T4)) (cp V3)) := by rw [eV3]; exact ep_sol_un rk hc 3 _
    rw [← eV3]
    have QV3 : ep_le Q V3 := by
      have h := ep_solF rk hc 4 (ep_at rk 5 W0 (cp Q)) _ _ TQ
      rw [eV3]
      exact ep_tr (ep_of_eq Q4) h
    have PV3 : ep_le (ep_least f (fun v => v < n) (g i) (r i) (g m) (r m) P (f X)) (fun w => V3 (m, w)) := by
      refine ep_lfp_ind (ep_leastF_mono hm _ _ _ _ _ _ _) ?_
      obtain ⟨X', eX'⟩ : ∃ X' : Nat → Prop, X' = fun t => V3 (m, t) ∧ ep_lfp (ep_leastF f (fun v => v < n) (g i) (r i) (g m) (r m) P (f X)) t := ⟨_, rfl⟩
      rw [← eX']
      have X'V : ∀ w, X' w → V3 (m, w) := by rw [eX']; exact fun w h => h.1
      have X'P : ep_le X' P := by rw [eX']; exact fun w h => Pin w h.2
      obtain ⟨N, eN⟩ : ∃ N, N = ep_leastF f (fun v => v < n) (g i) (r i) (g m) (r m) P (f X) X' := ⟨_, rfl⟩
      have NP : ep_le N P := by
        rw [eN]
        intro w hw
        have h1 := ep_leastF_mono hm (fun v => v < n) (g i) (r i) (g m) (r m) P (f X) X' _ (by
          intro x hx
          exact Pout x (X'P x hx)) w hw
        exact Pin w (ep_lfp_pre (ep_leastF_mono hm _ _ _ _ _ _ _) w h1)
      have Nout : ep_le N (ep_innF f (g m) (fun v => (v < n ∧ ¬ r i v) ∧ ¬ r m v) (ep_own f (fun v => v < n) (g i) (r i) P (f X) X') N) := by
        rw [eN]; exact ep_gfp_post (ep_innF_mono hm _ _ _)
      rw [← eN]
      have hT2 : ep_le (fun s => (s.1 = m ∧ N s.2) ∨ V3 s) (ep_sol rk cp 3 (ep_at rk 3 (ep_at rk 4 (ep_at rk 5 W0 (cp Q)) (cp T4)) (cp V3))) := by
        refine ep_sol_co rfl ?_
        obtain ⟨T2, eT2⟩ : ∃ T : Nat × Nat → Prop, T = fun s => (s.1 = m ∧ N s.2) ∨ V3 s := ⟨_, rfl⟩
        rw [← eT2]
        have TN : ∀ w, N w → T2 (m, w) := by rw [eT2]; exact fun w h => Or.inl ⟨rfl, h⟩
        have TV : ep_le V3 T2 := by rw [eT2]; exact fun s h => Or.inr h
        obtain ⟨V1, eV1⟩ : ∃ V, V = ep_sol rk cp 2 (ep_at rk 2 (ep_at rk 3 (ep_at rk 4 (ep_at rk 5 W0 (cp Q)) (cp T4)) (cp V3)) (cp T2)) := ⟨_, rfl⟩
        have V1un : V1 = ep_base rk W0 (cp Q) (cp T4) (cp V3) (cp T2) (cp V1) := by rw [eV1]; exact ep_sol_1 hc h0 _
        rw [← eV1]
        have V3V1 : ep_le V3 V1 := by
          have h1 := ep_sol_un rk hc 2 (ep_at rk 3 (ep_at rk 4 (ep_at rk 5 W0 (cp Q)) (cp T4)) (cp V3))
          have e : ep_sol rk cp (2 + 1) (ep_at rk 3 (ep_at rk 4 (ep_at rk 5 W0 (cp Q)) (cp T4)) (cp V3)) = V3 := V3un.symm
          rw [e] at h1
          rw [eV1]
          exact ep_tr (ep_of_eq h1) (ep_solF rk hc 2 _ _ _ TV)
        have NV1 : ep_le N (fun w => V1 (m, w)) := by
          refine ep_tr Nout (ep_inn_ind hm ?_ ?_)
          · intro x hx
            show V1 (m, x)
            rw [V1un]
            have hb := h6 m i x hmb
            by_cases c1 : r i x
            · rw [ep_ba5 (hb.1 c1).2]
              rcases hx with ((hx | hx) | hx) | hx
              · exact ep_c2 hF hC i hm2 (hb.1 c1).1 hx (fun y _ hy => X1 y hy)
              · exact absurd c1 hx.1.1.2
              · exact absurd c1 hx.1.2
              · exact absurd c1 hx.1.1.1.2
            · have hb := hb.2 c1
              by_cases c2 : g i x
              · rw [ep_ba4 (hb.2.1 c2)]
                rcases hx with ((hx | hx) | hx) | hx
                · exact ep_c2 hF hC m hm2 hb.1 hx (fun y _ hy => TQ _ (X0 y hy))
                · exact ep_c2 hF hC m hm2 hb.1 hx.2 (fun y _ hy => TP y hy)
                · exact ep_c2 hF hC m hm2 hb.1 hx.2 (fun y _ hy => TP y (X'P y hy))
                · exact ep_c2 hF hC m hm2 hb.1 hx.2 (fun y _ hy => TP y (NP y hy))
              · have hb2 := hb.2.2 c2
                by_cases c3 : r m x
                · rw [ep_ba3 (hb2.1 c3)]
                  rcases hx with ((hx | hx) | hx) | hx
                  · exact ep_c2 hF hC m hm2 hb.1 hx (fun y _ hy => QV3 _ (X0 y hy))
                  · exact absurd hx.1.2 c2
                  · exact ep_c2 hF hC m hm2 hb.1 hx.2 (fun y _ hy => X'V y hy)
                  · exact absurd c3 hx.1.1.2
                · have hb3 := hb2.2 c3
                  by_cases c4 : g m x
                  · rw [ep_ba2 (hb3.1 c4)]
                    rcases hx with ((hx | hx) | hx) | hx
                    · exact ep_c2 hF hC m hm2 hb.1 hx (fun y _ hy => TV _ (QV3 _ (X0 y hy)))
                    · exact absurd hx.1.2 c2
                    · exact ep_c2 hF hC m hm2 hb.1 hx.2 (fun y _ hy => TV _ (X'V y hy))
                    · exact ep_c2 hF hC m hm2 hb.1 hx.2 (fun y _ hy => TN y hy)
                  · rw [ep_ba1 (hb3.2 c4)]
                    rcases hx with ((hx | hx) | hx) | hx
                    · exact ep_c2 hF hC m hm2 hb.1 hx (fun y _ hy => V3V1 _ (QV3 _ (X0 y hy)))
                    · exact absurd hx.1.2 c2
                    · exact ep_c2 hF hC m hm2 hb.1 hx.2 (fun y _ hy => V3V1 _ (X'V y hy))
                    · exact absurd hx.1.2 c4
          · intro x hx hfx
            show V1 (m, x)
            rw [V1un]
            have hb := (h6 m i x hmb).2 hx.1.2
            have NI : ep_le (ep_innF f (g m) (fun v => (v < n ∧ ¬ r i v) ∧ ¬ r m v) (ep_own f (fun v => v < n) (g i) (r i) P (f X) X') N) N := by
              rw [eN]; exact ep_gfp_pre (ep_innF_mono hm _ _ _)
            by_cases c2 : g i x
            · rw [ep_ba4 (hb.2.1 c2)]
              exact ep_c2 hF hC m hm2 hb.1 hfx (fun y _ hy => TP y (NP y (NI y hy.2)))
            · have hb3 := (hb.2.2 c2).2 hx.2
              by_cases c4 : g m x
              · rw [ep_ba2 (hb3.1 c4)]
                exact ep_c2 hF hC m hm2 hb.1 hfx (fun y _ hy => TN y (NI y hy.2))
              · rw [ep_ba1 (hb3.2 c4)]
                exact ep_c2 hF hC m hm2 hb.1 hfx (fun y _ hy => hy.1)
        rintro ⟨m', w⟩ hs
        rw [eT2] at hs
        cases hs with
        | inl hs =>
          have hm0 : m' = m := hs.1
          subst hm0
          exact NV1 w hs.2
        | inr hs => exact V3V1 _ hs
      intro w hw
      show V3 (m, w)
      rw [V3un]
      exact hT2 (m, w) (Or.inl ⟨rfl, hw⟩)
    rintro ⟨m', w⟩ hs
    rw [eT4] at hs
    cases hs with
    | inl hs =>
      have hm0 : m' = m := hs.1
      subst hm0
      exact PV3 w (Pout w hs.2)
    | inr hs => exact QV3 _ hs
  intro v hv
  rw [Q5]
  exact hT (m, v) (Or.inl ⟨rfl, hv⟩)
/-- the formula's one pair i, the memory with i in front -/
theorem ep_g6c {n : Nat} {f : (Nat → Prop) → (Nat → Prop)} {cp : (Nat × Nat → Prop) → (Nat × Nat → Prop)} {nm : Nat → Nat → Nat}
    {rk : Nat × Nat → Nat} {W0 Q : Nat × Nat → Prop} (hF : ep_F n f) (hC : ep_C n f 2 nm cp) {g r : Nat → Nat → Prop} (h6 : ep_r6 nm rk g r) (h0 : ∀ s, rk s ≠ 0)
    (eQ : Q = ep_sol rk cp 6 W0) {X P : Nat → Prop} {i j : Nat} (hmb : ep_mb i j) (X0 : ∀ w, X w → Q (i, w)) (X1 : ∀ w, X w → Q (j, w))
    (eP : P = ep_pair f (fun v => v < n) (g i) (r i) (g j) (r j) (f X)) (PJ : ∀ v, P v → Q (j, v)) : ∀ v, P v → Q (i, v) := by
  have hm := ep_F_mono hF
  have hc := hC.1
  have hm2 := ep_mb_l hmb
  have Q5 : Q = ep_sol rk cp 5 (ep_at rk 5 W0 (cp Q)) := by rw [eQ]; exact ep_sol_un rk hc 5 W0
  have Q4 : Q = ep_sol rk cp 4 (ep_at rk 4 (ep_at rk 5 W0 (cp Q)) (cp Q)) := by
    have h := ep_sol_un rk hc 4 (ep_at rk 5 W0 (cp Q))
    have e : ep_sol rk cp (4 + 1) (ep_at rk 5 W0 (cp Q)) = Q := Q5.symm
    rw [e] at h
    exact h
  have Pout : ∀ v, P v → ep_least f (fun v => v < n) (g i) (r i) (g j) (r j) P (f X) v := by
    rw [eP]; exact ep_gfp_post (ep_pairF_mono hm _ _ _ _ _ _)
  have Pin : ∀ v, ep_least f (fun v => v < n) (g i) (r i) (g j) (r j) P (f X) v → P v := by
    rw [eP]; exact ep_gfp_pre (ep_pairF_mono hm _ _ _ _ _ _)
  have hT : ep_le (fun s => (s.1 = i ∧ P s.2) ∨ Q s) (ep_sol rk cp 5 (ep_at rk 5 W0 (cp Q))) := by
    refine ep_sol_co rfl ?_
    obtain ⟨T4, eT4⟩ : ∃ T : Nat × Nat → Prop, T = fun s => (s.1 = i ∧ P s.2) ∨ Q s := ⟨_, rfl⟩
    rw [← eT4]
    have TP : ∀ w, P w → T4 (i, w) := by rw [eT4]; exact fun w h => Or.inl ⟨rfl, h⟩
    have TQ : ep_le Q T4 := by rw [eT4]; exact fun s h => Or.inr h
    obtain ⟨V3, eV3⟩ : ∃ V, V = ep_sol rk cp 4 (ep_at rk 4 (ep_at rk 5 W0 (cp Q)) (cp T4)) := ⟨_, rfl⟩
    have V3un : V3 = ep_sol rk cp 3 (ep_at rk 3 (ep_at rk 4 (ep_at rk 5 W0 (cp Q)) (cp T4)) (cp V3)) := by rw [eV3]; exact ep_sol_un rk hc 3 _
    rw [← eV3]
    have QV3 : ep_le Q V3 := by
      have h := ep_solF rk hc 4 (ep_at rk 5 W0 (cp Q)) _ _ TQ
      rw [eV3]
      exact ep_tr (ep_of_eq Q4) h
    have hT2 : ep_le (fun s => (s.1 = i ∧ P s.2) ∨ V3 s) (ep_sol rk cp 3 (ep_at rk 3 (ep_at rk 4 (ep_at rk 5 W0 (cp Q)) (cp T4)) (cp V3))) := by
      refine ep_sol_co rfl ?_
      obtain ⟨T2, eT2⟩ : ∃ T : Nat × Nat → Prop, T = fun s => (s.1 = i ∧ P s.2) ∨ V3 s := ⟨_, rfl⟩
      rw [← eT2]
      have TN : ∀ w, P w → T2 (i, w) := by rw [eT2]; exact fun w h => Or.inl ⟨rfl, h⟩
      have TV : ep_le V3 T2 := by rw [eT2]; exact fun s h => Or.inr h
      obtain ⟨V1, eV1⟩ : ∃ V, V = ep_sol rk cp 2 (ep_at rk 2 (ep_at rk 3 (ep_at rk 4 (ep_at rk 5 W0 (cp Q)) (cp T4)) (cp V3)) (cp T2)) := ⟨_, rfl⟩
      have V1un : V1 = ep_base rk W0 (cp Q) (cp T4) (cp V3) (cp T2) (cp V1) := by rw [eV1]; exact ep_sol_1 hc h0 _
      rw [← eV1]
      have V3V1 : ep_le V3 V1 := by
        have h1 := ep_sol_un rk hc 2 (ep_at rk 3 (ep_at rk 4 (ep_at rk 5 W0 (cp Q)) (cp T4)) (cp V3))
        have e : ep_sol rk cp (2 + 1) (ep_at rk 3 (ep_at rk 4 (ep_at rk 5 W0 (cp Q)) (cp T4)) (cp V3)) = V3 := V3un.symm
        rw [e] at h1
        rw [eV1]
        exact ep_tr (ep_of_eq h1) (ep_solF rk hc 2 _ _ _ TV)
      have PV1 : ep_le (ep_least f (fun v => v < n) (g i) (r i) (g j) (r j) P (f X)) (fun w => V1 (i, w)) := by
        refine ep_lfp_ind (ep_leastF_mono hm _ _ _ _ _ _ _) ?_
        obtain ⟨X', eX'⟩ : ∃ X' : Nat → Prop, X' = fun t => V1 (i, t) ∧ ep_lfp (ep_leastF f (fun v => v < n) (g i) (r i) (g j) (r j) P (f X)) t := ⟨_, rfl⟩
        rw [← eX']
        have X'V : ∀ w, X' w → V1 (i, w) := by rw [eX']; exact fun w h => h.1
        have X'P : ep_le X' P := by rw [eX']; exact fun w h => Pin w h.2
        obtain ⟨N, eN⟩ : ∃ N, N = ep_leastF f (fun v => v < n) (g i) (r i) (g j) (r j) P (f X) X' := ⟨_, rfl⟩
        have NP : ep_le N P := by
          rw [eN]
          intro w hw
          have h1 := ep_leastF_mono hm (fun v => v < n) (g i) (r i) (g j) (r j) P (f X) X' _ (by
            intro x hx
            exact Pout x (X'P x hx)) w hw
          exact Pin w (ep_lfp_pre (ep_leastF_mono hm _ _ _ _ _ _ _) w h1)
        have Nout : ep_le N (ep_innF f (g j) (fun v => (v < n ∧ ¬ r i v) ∧ ¬ r j v) (ep_own f (fun v => v < n) (g i) (r i) P (f X) X') N) := by
          rw [eN]; exact ep_gfp_post (ep_innF_mono hm _ _ _)
        have NI : ep_le (ep_innF f (g j) (fun v => (v < n ∧ ¬ r i v) ∧ ¬ r j v) (ep_own f (fun v => v < n) (g i) (r i) P (f X) X') N) N := by
          rw [eN]; exact ep_gfp_pre (ep_innF_mono hm _ _ _)
        rw [← eN]
        refine ep_tr Nout (ep_inn_ind hm ?_ ?_)
        · intro x hx
          show V1 (i, x)
          rw [V1un]
          have hb := h6 i j x hmb
          by_cases c1 : r j x
          · rw [ep_ba5 (hb.1 c1).2]
            rcases hx with ((hx | hx) | hx) | hx
            · exact ep_c2 hF hC j hm2 (hb.1 c1).1 hx (fun y _ hy => X1 y hy)
            · exact ep_c2 hF hC j hm2 (hb.1 c1).1 hx.2 (fun y _ hy => PJ y hy)
            · exact ep_c2 hF hC j hm2 (hb.1 c1).1 hx.2 (fun y _ hy => PJ y (X'P y hy))
            · exact absurd c1 hx.1.1.2
          · have hb := hb.2 c1
            by_cases c2 : g j x
            · rw [ep_ba4 (hb.2.1 c2)]
              rcases hx with ((hx | hx) | hx) | hx
              · exact ep_c2 hF hC i hm2 hb.1 hx (fun y _ hy => TQ _ (X0 y hy))
              · exact ep_c2 hF hC i hm2 hb.1 hx.2 (fun y _ hy => TP y hy)
              · exact ep_c2 hF hC i hm2 hb.1 hx.2 (fun y _ hy => TP y (X'P y hy))
              · exact ep_c2 hF hC i hm2 hb.1 hx.2 (fun y _ hy => TP y (NP y hy))
            · have hb2 := hb.2.2 c2
              by_cases c3 : r i x
              · rw [ep_ba3 (hb2.1 c3)]
                rcases hx with ((hx | hx) | hx) | hx
                · exact ep_c2 hF hC i hm2 hb.1 hx (fun y _ hy => QV3 _ (X0 y hy))
                · exact absurd c3 hx.1.1.2
                · exact absurd c3 hx.1.2
                · exact absurd c3 hx.1.1.1.2
              · have hb3 := hb2.2 c3
                by_cases c4 : g i x
                · rw [ep_ba2 (hb3.1 c4)]
                  rcases hx with ((hx | hx) | hx) | hx
                  · exact ep_c2 hF hC i hm2 hb.1 hx (fun y _ hy => TV _ (QV3 _ (X0 y hy)))
                  · exact ep_c2 hF hC i hm2 hb.1 hx.2 (fun y _ hy => TN y hy)
                  · exact ep_c2 hF hC i hm2 hb.1 hx.2 (fun y _ hy => TN y (X'P y hy))
                  · exact ep_c2 hF hC i hm2 hb.1 hx.2 (fun y _ hy => TN y (NP y hy))
                · rw [ep_ba1 (hb3.2 c4)]
                  rcases hx with ((hx | hx) | hx) | hx
                  · exact ep_c2 hF hC i hm2 hb.1 hx (fun y _ hy => V3V1 _ (QV3 _ (X0 y hy)))
                  · exact absurd hx.1.2 c4
                  · exact ep_c2 hF hC i hm2 hb.1 hx.2 (fun y _ hy => X'V y hy)
                  · exact absurd hx.1.2 c2
        · intro x hx hfx
          show V1 (i, x)
          rw [V1un]
          have hb := (h6 i j x hmb).2 hx.2
          by_cases c2 : g j x
          · rw [ep_ba4 (hb.2.1 c2)]
            exact ep_c2 hF hC i hm2 hb.1 hfx (fun y _ hy => TP y (NP y (NI y hy.2)))
          · have hb3 := (hb.2.2 c2).2 hx.1.2
            by_cases c4 : g i x
            · rw [ep_ba2 (hb3.1 c4)]
              exact ep_c2 hF hC i hm2 hb.1 hfx (fun y _ hy => TN y (NP y (NI y hy.2)))
            · rw [ep_ba1 (hb3.2 c4)]
              exact ep_c2 hF hC i hm2 hb.1 hfx (fun y _ hy => hy.1)
      rintro ⟨m', w⟩ hs
      rw [eT2] at hs
      cases hs with
      | inl hs =>
        have hm0 : m' = i := hs.1
        subst hm0
        exact PV1 w (Pout w hs.2)
      | inr hs => exact V3V1 _ hs
    rintro ⟨m', w⟩ hs
    rw [eT4] at hs
    cases hs with
    | inl hs =>
      have hm0 : m' = i := hs.1
      subst hm0
      rw [V3un]
      exact hT2 (m', w) (Or.inl ⟨rfl, hs.2⟩)
    | inr hs => exact QV3 _ hs
  intro v hv
  rw [Q5]
  exact hT (i, v) (Or.inl ⟨rfl, hv⟩)
/-- goal 6; goal 7 is its dual -/
theorem ep_g6 {n : Nat} {f : (Nat → Prop) → (Nat → Prop)} {cp : (Nat × Nat → Prop) → (Nat × Nat → Prop)} {nm : Nat → Nat → Nat}
    {rk : Nat × Nat → Nat} {W0 : Nat × Nat → Prop} (hF : ep_F n f) (hC : ep_C n f 2 nm cp) {g r : Nat → Nat → Prop} (h6 : ep_r6 nm rk g r) (h0 : ∀ s, rk s ≠ 0)
    (v : Nat) (hv : v < n) : ep_sol rk cp 6 W0 (0, v) ↔ ep_one f (fun v => v < n) (g 0) (r 0) (g 1) (r 1) v := by
  have hm := ep_F_mono hF
  have hc := hC.1
  constructor
  · intro h
    refine ep_g6a (W0 := W0) hF hC h6 h0 (R := ep_one f (fun v => v < n) (g 0) (r 0) (g 1) (r 1)) ?_ (0, v) h (Nat.zero_lt_succ _) hv
    have hpre : ep_le _ (ep_one f (fun v => v < n) (g 0) (r 0) (g 1) (r 1)) := ep_lfp_pre (ep_oneF_mono hm (fun v => v < n) (g 0) (r 0) (g 1) (r 1))
    intro i j hij w hw
    rcases hij with ⟨ei, ej⟩ | ⟨ei, ej⟩
    · subst ei; subst ej; exact hpre w (Or.inl hw)
    · subst ei; subst ej; exact hpre w (Or.inr hw)
  · intro h
    obtain ⟨Q, eQ⟩ : ∃ Q, Q = ep_sol rk cp 6 W0 := ⟨_, rfl⟩
    have key : ep_le (ep_one f (fun v => v < n) (g 0) (r 0) (g 1) (r 1)) (fun w => Q (0, w) ∧ Q (1, w)) := by
      apply ep_lfp_le
      intro w hw
      cases hw with
      | inl hw =>
        have hb := ep_g6b (i := 0) (m := 1) (X := fun w => Q (0, w) ∧ Q (1, w)) hF hC h6 h0 eQ (Or.inr ⟨rfl, rfl⟩) (fun w h => h.2) (fun w h => h.1) rfl
        have hi := ep_g6c (i := 0) (j := 1) (X := fun w => Q (0, w) ∧ Q (1, w)) hF hC h6 h0 eQ (Or.inl ⟨rfl, rfl⟩) (fun w h => h.1) (fun w h => h.2) rfl hb
        exact ⟨hi w hw, hb w hw⟩
      | inr hw =>
        have hb := ep_g6b (i := 1) (m := 0) (X := fun w => Q (0, w) ∧ Q (1, w)) hF hC h6 h0 eQ (Or.inl ⟨rfl, rfl⟩) (fun w h => h.1) (fun w h => h.2) rfl
        have hi := ep_g6c (i := 1) (j := 0) (X := fun w => Q (0, w) ∧ Q (1, w)) hF hC h6 h0 eQ (Or.inr ⟨rfl, rfl⟩) (fun w h => h.2) (fun w h => h.1) rfl hb
        exact ⟨hb w hw, hi w hw⟩
    rw [← eQ]
    exact (key v h).1
end
section
/-! bits: rows of kit/rows (bt, b_.., s_l), then sets as bits -/
def bt (x : Int32) (i : Nat) : Bool := x.toBitVec.getLsbD i
theorem b_ext {x y : Int32} (h : ∀ i, i < 32 → bt x i = bt y i) : x = y := Int32.toBitVec_inj.mp (BitVec.eq_of_getLsbD_eq (fun i hi => h i hi))
theorem b_or (x y : Int32) (i : Nat) : bt (x ||| y) i = (bt x i || bt y i) := by unfold bt; rw [Int32.toBitVec_or, BitVec.getLsbD_or]
theorem b_and (x y : Int32) (i : Nat) : bt (x &&& y) i = (bt x i && bt y i) := by unfold bt; rw [Int32.toBitVec_and, BitVec.getLsbD_and]
theorem b_xor (x y : Int32) (i : Nat) : bt (x ^^^ y) i = (bt x i ^^ bt y i) := by unfold bt; rw [Int32.toBitVec_xor, BitVec.getLsbD_xor]
theorem b_big {x : Int32} {i : Nat} (h : 32 ≤ i) : bt x i = false := BitVec.getLsbD_of_ge _ _ h
theorem b_m1 : ∀ i, i < 32 → bt (-1) i = true := by decide +kernel
theorem b_0 (i : Nat) : bt 0 i = false := BitVec.getLsbD_zero
theorem s_l : ∀ n, n < 32 → ((nI n &&& 31).toBitVec.smod 32).toNat = n := by decide +kernel
theorem b_shl (n : Nat) (hn : n < 32) (x : Int32) {i : Nat} (hi : i < 32) : bt (x <<< (nI n &&& 31)) i = (decide (n ≤ i) && bt x (i - n)) := by
  unfold bt
  rw [Int32.toBitVec_shiftLeft]
  show (x.toBitVec <<< ((nI n &&& 31).toBitVec.smod 32).toNat).getLsbD i = _
  rw [s_l n hn, BitVec.getLsbD_shiftLeft]
  rcases Nat.lt_or_ge i n with h | h
  · simp [h, Nat.not_le.mpr h]
  · simp [hi, h, Nat.not_lt.mpr h]
theorem b_sshr (n : Nat) (hn : n < 32) (x : Int32) {i : Nat} (hi : i < 32) : bt (x >>> (nI n &&& 31)) i = if n + i < 32 then bt x (n + i) else bt x 31 := by
  unfold bt
  rw [Int32.toBitVec_shiftRight]
  show (x.toBitVec.sshiftRight ((nI n &&& 31).toBitVec.smod 32).toNat).getLsbD i = _
  rw [s_l n hn, BitVec.getLsbD_sshiftRight, BitVec.msb_eq_getLsbD_last]
  simp [hi]
theorem ep_b1 : ∀ k, k < 32 → ∀ i, i < 32 → bt ((1 : Int32) <<< (nI k &&& 31)) i = decide (i = k) := by decide +kernel
theorem ep_bone {k : Nat} (hk : k < 32) (i : Nat) : bt ((1 : Int32) <<< (nI k &&& 31)) i = decide (i = k) := by
  rcases Nat.lt_or_ge i 32 with h | h
  · exact ep_b1 k hk i h
  · rw [b_big h, decide_eq_false (by omega)]
theorem ep_bnot (x : Int32) {i : Nat} (hi : i < 32) : bt (x ^^^ (-1)) i = !bt x i := by
  rw [b_xor, b_m1 i hi]; cases bt x i <;> rfl
theorem ep_beq {x y : Int32} (h : ∀ i, i < 32 → (bt x i = true ↔ bt y i = true)) : x = y :=
  b_ext fun i hi => Bool.eq_iff_iff.mpr (h i hi)
noncomputable def ep_sI (p : Nat → Prop) : Nat → Int32
  | 0 => 0
  | k + 1 => @ite Int32 (p k) (Classical.propDecidable (p k)) (ep_sI p k ||| ((1 : Int32) <<< (nI k &&& 31))) (ep_sI p k)
theorem ep_sI_t {p : Nat → Prop} {k : Nat} (h : p k) : ep_sI p (k + 1) = ep_sI p k ||| ((1 : Int32) <<< (nI k &&& 31)) := by
  show @ite Int32 (p k) (Classical.propDecidable (p k)) _ _ = _
  rw [if_pos h]
theorem ep_sI_f {p : Nat → Prop} {k : Nat} (h : ¬ p k) : ep_sI p (k + 1) = ep_sI p k := by
  show @ite Int32 (p k) (Classical.propDecidable (p k)) _ _ = _
  rw [if_neg h]
theorem ep_sI_bit (p : Nat → Prop) : ∀ k, k ≤ 32 → ∀ i, bt (ep_sI p k) i = true ↔ i < k ∧ p i := by
  intro k
  induction k with
  | zero =>
    intro _ i
    show bt 0 i = true ↔ _
    rw [b_0]
    exact ⟨fun h => (nomatch h), fun h => absurd h.1 (Nat.not_lt_zero i)⟩
  | succ k ih =>
    intro hk i
    have ih := ih (by omega) i
    by_cases hp : p k
    · rw [ep_sI_t hp, b_or, ep_bone (by omega), Bool.or_eq_true, ih, decide_eq_true_iff]
      constructor
      · rintro (h | h)
        · exact ⟨by omega, h.2⟩
        · subst h; exact ⟨by omega, hp⟩
      · rintro ⟨h1, h2⟩
        by_cases e : i = k
        · exact Or.inr e
        · exact Or.inl ⟨by omega, h2⟩
    · rw [ep_sI_f hp, ih]
      constructor
      · exact fun h => ⟨by omega, h.2⟩
      · rintro ⟨h1, h2⟩
        refine ⟨?_, h2⟩
        have : i ≠ k := fun e => hp (e ▸ h2)
        omega
noncomputable def ep_I (p : Nat → Prop) : Int32 := ep_sI p 10
theorem ep_I_bit (p : Nat → Prop) (i : Nat) : bt (ep_I p) i = true ↔ i < 10 ∧ p i := ep_sI_bit p 10 (by decide) i
theorem ep_I_eq {x : Int32} {p : Nat → Prop} (h : ∀ i, i < 32 → (bt x i = true ↔ i < 10 ∧ p i)) : x = ep_I p :=
  ep_beq fun i hi => (h i hi).trans (ep_I_bit p i).symm
theorem ep_I_ext {p q : Nat → Prop} (h : ∀ i, i < 10 → (p i ↔ q i)) : ep_I p = ep_I q :=
  ep_I_eq fun i _ => (ep_I_bit p i).trans ⟨fun x => ⟨x.1, (h i x.1).1 x.2⟩, fun x => ⟨x.1, (h i x.1).2 x.2⟩⟩
theorem ep_I_inj {p q : Nat → Prop} (h : ep_I p = ep_I q) (i : Nat) (hi : i < 10) : p i ↔ q i := by
  have hp := ep_I_bit p i
  have hq := ep_I_bit q i
  rw [h] at hp
  exact ⟨fun x => (hq.1 (hp.2 ⟨hi, x⟩)).2, fun x => (hp.1 (hq.2 ⟨hi, x⟩)).2⟩
theorem ep_I_or (p q : Nat → Prop) : ep_I p ||| ep_I q = ep_I (fun i => p i ∨ q i) :=
  ep_I_eq fun i _ => by
    rw [b_or, Bool.or_eq_true, ep_I_bit, ep_I_bit]
    exact ⟨fun h => h.elim (fun x => ⟨x.1, Or.inl x.2⟩) (fun x => ⟨x.1, Or.inr x.2⟩), fun h => h.2.elim (fun x => Or.inl ⟨h.1, x⟩) (fun x => Or.inr ⟨h.1, x⟩)⟩
theorem ep_I_and (p q : Nat → Prop) : ep_I p &&& ep_I q = ep_I (fun i => p i ∧ q i) :=
  ep_I_eq fun i _ => by
    rw [b_and, Bool.and_eq_true, ep_I_bit, ep_I_bit]
    exact ⟨fun h => ⟨h.1.1, h.1.2, h.2.2⟩, fun h => ⟨⟨h.1, h.2.1⟩, ⟨h.1, h.2.2⟩⟩⟩
theorem ep_I_diff (p q : Nat → Prop) : ep_I p &&& (ep_I q ^^^ (-1)) = ep_I (fun i => p i ∧ ¬ q i) :=
  ep_I_eq fun i hi => by
    rw [b_and, Bool.and_eq_true, ep_I_bit, ep_bnot _ hi, Bool.not_eq_true', ← Bool.not_eq_true, ep_I_bit]
    exact ⟨fun h => ⟨h.1.1, h.1.2, fun x => h.2 ⟨h.1.1, x⟩⟩, fun h => ⟨⟨h.1, h.2.1⟩, fun x => h.2.2 x.2⟩⟩
theorem ep_I_0 : ep_I (fun _ => False) = 0 :=
  (ep_I_eq fun i _ => by rw [b_0]; exact ⟨fun h => (nomatch h), fun h => h.2.elim⟩).symm
theorem ep_I_m1 (p : Nat → Prop) : ¬ (-1 : Int32) = ep_I p := fun h => by
  have h1 : bt (-1) 31 = true := b_m1 31 (by decide)
  rw [h] at h1
  have := ((ep_I_bit p 31).1 h1).1
  omega
theorem ep_I_of {x : Int32} {c : Nat} (hc : c ≤ 10) (h : ∀ i, bt x i = true → i < c) : x = ep_I (fun i => bt x i = true) :=
  ep_I_eq fun i _ => ⟨fun y => ⟨by have := h i y; omega, y⟩, fun y => y.2⟩
theorem ep_zero {x : Int32} : x = 0 ↔ ∀ i, i < 32 → ¬ bt x i = true :=
  ⟨fun h i _ => by rw [h, b_0]; exact fun z => (nomatch z), fun h => ep_beq fun i hi => ⟨fun y => absurd y (h i hi), fun y => by rw [b_0] at y; exact nomatch y⟩⟩
theorem ep_b01 : ∀ i, i < 32 → bt 1 i = decide (i = 0) := by decide +kernel
theorem ep_bit1 (x : Int32) {v : Nat} (hv : v < 32) : (x >>> (nI v &&& 31)) &&& 1 = if bt x v = true then 1 else 0 := by
  apply ep_beq
  intro i hi
  rw [b_and, ep_b01 i hi, b_sshr v hv x hi]
  by_cases e : i = 0
  · subst e
    rw [if_pos (by omega), Nat.add_zero]
    cases hx : bt x v
    · simp [b_0]
    · simp [ep_b01 0 (by decide)]
  · rw [decide_eq_false e, Bool.and_false]
    cases hx : bt x v
    · simp [b_0]
    · simp [ep_b01 i hi, e]
theorem ep_all : ∀ c, c ≤ 10 → ∀ i, i < 32 → bt (((1 : Int32) <<< (nI c &&& 31)) - 1) i = decide (i < c) := by decide +kernel
theorem ep_I_all {c : Nat} (hc : c ≤ 10) : ((1 : Int32) <<< (nI c &&& 31)) - 1 = ep_I (fun v => v < c) :=
  ep_I_eq fun i hi => by rw [ep_all c hc i hi, decide_eq_true_iff]; exact ⟨fun h => ⟨by omega, h⟩, fun h => h.2⟩

/-! long bits -/
def bl (x : Int64) (i : Nat) : Bool := x.toBitVec.getLsbD i
theorem ep_leq {x y : Int64} (h : ∀ i, i < 64 → (bl x i = true ↔ bl y i = true)) : x = y :=
  Int64.toBitVec_inj.mp (BitVec.eq_of_getLsbD_eq (fun i hi => Bool.eq_iff_iff.mpr (h i hi)))
theorem ep_lor (x y : Int64) (i : Nat) : bl (x ||| y) i = (bl x i || bl y i) := by unfold bl; rw [Int64.toBitVec_or, BitVec.getLsbD_or]
theorem ep_land (x y : Int64) (i : Nat) : bl (x &&& y) i = (bl x i && bl y i) := by unfold bl; rw [Int64.toBitVec_and, BitVec.getLsbD_and]
theorem ep_lxor (x y : Int64) (i : Nat) : bl (x ^^^ y) i = (bl x i ^^ bl y i) := by unfold bl; rw [Int64.toBitVec_xor, BitVec.getLsbD_xor]
theorem ep_lbig {x : Int64} {i : Nat} (h : 64 ≤ i) : bl x i = false := BitVec.getLsbD_of_ge _ _ h
theorem ep_lm1 : ∀ i, i < 64 → bl (-1) i = true := by decide +kernel
theorem ep_l0 (i : Nat) : bl 0 i = false := BitVec.getLsbD_zero
theorem ep_lnot (x : Int64) {i : Nat} (hi : i < 64) : bl (x ^^^ (-1)) i = !bl x i := by
  rw [ep_lxor, ep_lm1 i hi]; cases bl x i <;> rfl
theorem ep_l1 : ∀ k, k < 40 → ∀ i, i < 64 → bl ((1 : Int64) <<< ((nI k).toInt64 &&& 63)) i = decide (i = k) := by decide +kernel
theorem ep_lone {k : Nat} (hk : k < 40) (i : Nat) : bl ((1 : Int64) <<< ((nI k).toInt64 &&& 63)) i = decide (i = k) := by
  rcases Nat.lt_or_ge i 64 with h | h
  · exact ep_l1 k hk i h
  · rw [ep_lbig h, decide_eq_false (by omega)]
theorem ep_lcu : ∀ k, k < 40 → (((nI k).toInt64.toUInt64 &&& Int64.toUInt64 63).toBitVec % 64).toNat = k := by decide +kernel
theorem ep_lshr (x : Int64) {k : Nat} (hk : k < 40) (i : Nat) : bl (x.toUInt64 >>> ((nI k).toInt64.toUInt64 &&& Int64.toUInt64 63)).toInt64 i = bl x (k + i) := by
  show (x.toUInt64 >>> ((nI k).toInt64.toUInt64 &&& Int64.toUInt64 63)).toBitVec.getLsbD i = x.toUInt64.toBitVec.getLsbD (k + i)
  rw [UInt64.toBitVec_shiftRight]
  show (x.toUInt64.toBitVec >>> (((nI k).toInt64.toUInt64 &&& Int64.toUInt64 63).toBitVec % 64).toNat).getLsbD i = _
  rw [ep_lcu k hk, BitVec.getLsbD_ushiftRight]
theorem ep_lint (x : Int64) {i : Nat} (hi : i < 32) : bt x.toInt32 i = bl x i := by
  show x.toInt32.toBitVec.getLsbD i = x.toBitVec.getLsbD i
  rw [Int64.toBitVec_toInt32, BitVec.getLsbD_signExtend]
  simp [hi, show i < 64 by omega]
theorem ep_b1023 : ∀ i, i < 32 → bt 1023 i = decide (i < 10) := by decide +kernel
noncomputable def ep_sL (p : Nat → Prop) : Nat → Int64
  | 0 => 0
  | k + 1 => @ite Int64 (p k) (Classical.propDecidable (p k)) (ep_sL p k ||| ((1 : Int64) <<< ((nI k).toInt64 &&& 63))) (ep_sL p k)
theorem ep_sL_bit (p : Nat → Prop) : ∀ k, k ≤ 40 → ∀ i, bl (ep_sL p k) i = true ↔ i < k ∧ p i := by
  intro k
  induction k with
  | zero =>
    intro _ i
    show bl 0 i = true ↔ _
    rw [ep_l0]
    exact ⟨fun h => (nomatch h), fun h => absurd h.1 (Nat.not_lt_zero i)⟩
  | succ k ih =>
    intro hk i
    have ih := ih (by omega) i
    show bl (@ite Int64 (p k) (Classical.propDecidable (p k)) _ _) i = true ↔ _
    by_cases hp : p k
    · rw [if_pos hp, ep_lor, ep_lone (by omega), Bool.or_eq_true, ih, decide_eq_true_iff]
      constructor
      · rintro (h | h)
        · exact ⟨by omega, h.2⟩
        · subst h; exact ⟨by omega, hp⟩
      · rintro ⟨h1, h2⟩
        by_cases e : i = k
        · exact Or.inr e
        · exact Or.inl ⟨by omega, h2⟩
    · rw [if_neg hp, ih]
      constructor
      · exact fun h => ⟨by omega, h.2⟩
      · rintro ⟨h1, h2⟩
        refine ⟨?_, h2⟩
        have : i ≠ k := fun e => hp (e ▸ h2)
        omega
noncomputable def ep_L (p : Nat → Prop) : Int64 := ep_sL p 40
theorem ep_L_bit (p : Nat → Prop) (i : Nat) : bl (ep_L p) i = true ↔ i < 40 ∧ p i := ep_sL_bit p 40 (by decide) i
theorem ep_L_eq {x : Int64} {p : Nat → Prop} (h : ∀ i, i < 64 → (bl x i = true ↔ i < 40 ∧ p i)) : x = ep_L p :=
  ep_leq fun i hi => (h i hi).trans (ep_L_bit p i).symm
theorem ep_L_ext {p q : Nat → Prop} (h : ∀ i, i < 40 → (p i ↔ q i)) : ep_L p = ep_L q :=
  ep_L_eq fun i _ => (ep_L_bit p i).trans ⟨fun x => ⟨x.1, (h i x.1).1 x.2⟩, fun x => ⟨x.1, (h i x.1).2 x.2⟩⟩
theorem ep_L_inj {p q : Nat → Prop} (h : ep_L p = ep_L q) (i : Nat) (hi : i < 40) : p i ↔ q i := by
  have hp := ep_L_bit p i
  have hq := ep_L_bit q i
  rw [h] at hp
  exact ⟨fun x => (hq.1 (hp.2 ⟨hi, x⟩)).2, fun x => (hp.1 (hq.2 ⟨hi, x⟩)).2⟩
theorem ep_L_or (p q : Nat → Prop) : ep_L p ||| ep_L q = ep_L (fun i => p i ∨ q i) :=
  ep_L_eq fun i _ => by
    rw [ep_lor, Bool.or_eq_true, ep_L_bit, ep_L_bit]
    exact ⟨fun h => h.elim (fun x => ⟨x.1, Or.inl x.2⟩) (fun x => ⟨x.1, Or.inr x.2⟩), fun h => h.2.elim (fun x => Or.inl ⟨h.1, x⟩) (fun x => Or.inr ⟨h.1, x⟩)⟩
theorem ep_L_and (p q : Nat → Prop) : ep_L p &&& ep_L q = ep_L (fun i => p i ∧ q i) :=
  ep_L_eq fun i _ => by
    rw [ep_land, Bool.and_eq_true, ep_L_bit, ep_L_bit]
    exact ⟨fun h => ⟨h.1.1, h.1.2, h.2.2⟩, fun h => ⟨⟨h.1, h.2.1⟩, ⟨h.1, h.2.2⟩⟩⟩
theorem ep_L_diff (p q : Nat → Prop) : ep_L p &&& (ep_L q ^^^ (-1)) = ep_L (fun i => p i ∧ ¬ q i) :=
  ep_L_eq fun i hi => by
    rw [ep_land, Bool.and_eq_true, ep_L_bit, ep_lnot _ hi, Bool.not_eq_true', ← Bool.not_eq_true, ep_L_bit]
    exact ⟨fun h => ⟨h.1.1, h.1.2, fun x => h.2 ⟨h.1.1, x⟩⟩, fun h => ⟨⟨h.1, h.2.1⟩, fun x => h.2.2 x.2⟩⟩
theorem ep_L_0 : ep_L (fun _ => False) = 0 :=
  (ep_L_eq fun i _ => by rw [ep_l0]; exact ⟨fun h => (nomatch h), fun h => h.2.elim⟩).symm
theorem ep_L_one (p : Nat → Prop) {k : Nat} (hk : k < 40) : ep_L p ||| ((1 : Int64) <<< ((nI k).toInt64 &&& 63)) = ep_L (fun i => p i ∨ i = k) :=
  ep_L_eq fun i _ => by
    rw [ep_lor, Bool.or_eq_true, ep_L_bit, ep_lone hk, decide_eq_true_iff]
    exact ⟨fun h => h.elim (fun x => ⟨x.1, Or.inl x.2⟩) (fun x => ⟨by omega, Or.inr x⟩), fun h => h.2.elim (fun x => Or.inl ⟨h.1, x⟩) (fun x => Or.inr x)⟩
theorem ep_L_row (p : Nat → Prop) {m : Nat} (hm : m < 4) :
    ((ep_L p).toUInt64 >>> ((nI (m * 10)).toInt64.toUInt64 &&& Int64.toUInt64 63)).toInt64.toInt32 &&& 1023 = ep_I (fun v => p (m * 10 + v)) :=
  ep_I_eq fun i hi => by
    rw [b_and, Bool.and_eq_true, ep_b1023 i hi, decide_eq_true_iff, ep_lint _ hi, ep_lshr _ (by omega), ep_L_bit]
    exact ⟨fun h => ⟨h.2, h.1.2⟩, fun h => ⟨⟨by omega, h.2⟩, h.1⟩⟩
theorem ep_L_low (p : Nat → Prop) : (ep_L p).toInt32 &&& 1023 = ep_I p :=
  ep_I_eq fun i hi => by
    rw [b_and, Bool.and_eq_true, ep_b1023 i hi, decide_eq_true_iff, ep_lint _ hi, ep_L_bit]
    exact ⟨fun h => ⟨h.2, h.1.2⟩, fun h => ⟨⟨by omega, h.2⟩, h.1⟩⟩
end
section
/-! counting, and loops to a fixpoint -/
noncomputable def ep_cn (p : Nat → Prop) : Nat → Nat
  | 0 => 0
  | k + 1 => ep_cn p k + @ite Nat (p k) (Classical.propDecidable (p k)) 1 0
theorem ep_cn_t {p : Nat → Prop} {k : Nat} (h : p k) : ep_cn p (k + 1) = ep_cn p k + 1 := by
  show ep_cn p k + @ite Nat (p k) (Classical.propDecidable (p k)) 1 0 = _
  rw [if_pos h]
theorem ep_cn_f {p : Nat → Prop} {k : Nat} (h : ¬ p k) : ep_cn p (k + 1) = ep_cn p k := by
  show ep_cn p k + @ite Nat (p k) (Classical.propDecidable (p k)) 1 0 = _
  rw [if_neg h]; rfl
theorem ep_cn_le (p : Nat → Prop) : ∀ k, ep_cn p k ≤ k := by
  intro k
  induction k with
  | zero => exact Nat.le_refl 0
  | succ k ih =>
    by_cases h : p k
    · rw [ep_cn_t h]; omega
    · rw [ep_cn_f h]; omega
theorem ep_cn_mono {p q : Nat → Prop} : ∀ k, (∀ i, i < k → p i → q i) → ep_cn p k ≤ ep_cn q k := by
  intro k
  induction k with
  | zero => intro _; exact Nat.le_refl 0
  | succ k ih =>
    intro h
    have ih := ih (fun i hi => h i (by omega))
    by_cases hp : p k
    · rw [ep_cn_t hp, ep_cn_t (h k (by omega) hp)]; omega
    · rw [ep_cn_f hp]
      by_cases hq : q k
      · rw [ep_cn_t hq]; omega
      · rw [ep_cn_f hq]; exact ih
theorem ep_cn_lt {p q : Nat → Prop} : ∀ k, (∀ i, i < k → p i → q i) → (∃ i, i < k ∧ q i ∧ ¬ p i) → ep_cn p k < ep_cn q k := by
  intro k
  induction k with
  | zero => intro _ h; obtain ⟨i, hi, _⟩ := h; omega
  | succ k ih =>
    intro h hx
    obtain ⟨i, hi, hq, hp⟩ := hx
    by_cases e : i = k
    · subst e
      rw [ep_cn_f hp, ep_cn_t hq]
      have := ep_cn_mono i (fun j hj => h j (by omega))
      omega
    · have ih := ih (fun j hj => h j (by omega)) ⟨i, by omega, hq, hp⟩
      by_cases hpk : p k
      · rw [ep_cn_t hpk, ep_cn_t (h k (by omega) hpk)]; omega
      · rw [ep_cn_f hpk]
        by_cases hqk : q k
        · rw [ep_cn_t hqk]; omega
        · rw [ep_cn_f hqk]; exact ih
theorem ep_cn_ne {p q : Nat → Prop} {k : Nat} (h : ∀ i, i < k → p i → q i) (hn : ¬ ∀ i, i < k → (p i ↔ q i)) : ep_cn p k < ep_cn q k := by
  apply ep_cn_lt k h
  apply Classical.byContradiction
  intro hc
  apply hn
  intro i hi
  refine ⟨h i hi, fun hq => ?_⟩
  apply Classical.byContradiction
  intro hp
  exact hc ⟨i, hi, hq, hp⟩
theorem ep_cn_full {p : Nat → Prop} : ∀ k, k ≤ ep_cn p k → ∀ i, i < k → p i := by
  intro k
  induction k with
  | zero => intro _ i hi; omega
  | succ k ih =>
    intro h i hi
    by_cases hp : p k
    · rw [ep_cn_t hp] at h
      by_cases e : i = k
      · subst e; exact hp
      · exact ih (by omega) i (by omega)
    · rw [ep_cn_f hp] at h
      have := ep_cn_le p k
      omega
/-- bounded by 10 -/
def ep_bd (P : Nat → Prop) : Prop := ∀ i, P i → i < 10
theorem ep_bd_eq {P Q : Nat → Prop} (hP : ep_bd P) (hQ : ep_bd Q) (h : ep_I P = ep_I Q) : P = Q :=
  funext fun i => propext ⟨fun x => (ep_I_inj h i (hP i x)).1 x, fun x => (ep_I_inj h i (hQ i x)).2 x⟩
theorem ep_up {F : (Nat → Prop) → (Nat → Prop)} (hF : ep_mono F) (hb : ∀ X, ep_bd (F X)) {W : Nat → Int32 → Int32 → Prop} {post : Int32 → Prop}
    (hx : ∀ n x, post x → W (n + 1) x x) (hs : ∀ n b P, ep_bd P → ¬ b = ep_I P → W n (ep_I P) (ep_I (F P)) → W (n + 1) b (ep_I P))
    (hp : post (ep_I (ep_lfp F))) : ∀ (k : Nat) (P : Nat → Prop), ep_bd P → 10 - ep_cn P 10 ≤ k → ep_le P (F P) → ep_le P (ep_lfp F) →
    ∀ b : Int32, ¬ b = ep_I P → ∃ n, W n b (ep_I P) := by
  intro k
  induction k with
  | zero =>
    intro P hP hk h1 h2 b hbn
    have hfull := ep_cn_full (p := P) 10 (by omega)
    have e : F P = P := ep_eq (fun i hi => hfull i (hb P i hi)) h1
    have el : P = ep_lfp F := ep_eq h2 (ep_lfp_le (ep_of_eq e))
    refine ⟨2, hs 1 b P hP hbn ?_⟩
    rw [e]
    exact hx 0 _ (by rw [el]; exact hp)
  | succ k ih =>
    intro P hP hk h1 h2 b hbn
    by_cases e : ep_I P = ep_I (F P)
    · have e : P = F P := ep_bd_eq hP (hb P) e
      have el : P = ep_lfp F := ep_eq h2 (ep_lfp_le (ep_of_eq e.symm))
      refine ⟨2, hs 1 b P hP hbn ?_⟩
      rw [← e]
      exact hx 0 _ (by rw [el]; exact hp)
    · have hlt : ep_cn P 10 < ep_cn (F P) 10 := ep_cn_ne (fun i _ => h1 i) (fun h => e (ep_I_ext h))
      have hle := ep_cn_le (F P) 10
      obtain ⟨n, hn⟩ := ih (F P) (hb P) (by omega) (hF _ _ h1) (ep_tr (hF _ _ h2) (ep_lfp_pre hF)) (ep_I P) e
      exact ⟨n + 1, hs n b P hP hbn hn⟩
theorem ep_down {F : (Nat → Prop) → (Nat → Prop)} (hF : ep_mono F) (hb : ∀ X, ep_bd (F X)) {W : Nat → Int32 → Int32 → Prop} {post : Int32 → Prop}
    (hx : ∀ n x, post x → W (n + 1) x x) (hs : ∀ n b P, ep_bd P → ¬ b = ep_I P → W n (ep_I P) (ep_I (F P)) → W (n + 1) b (ep_I P))
    (hp : post (ep_I (ep_gfp F))) : ∀ (k : Nat) (P : Nat → Prop), ep_bd P → ep_cn P 10 ≤ k → ep_le (F P) P → ep_le (ep_gfp F) P →
    ∀ b : Int32, ¬ b = ep_I P → ∃ n, W n b (ep_I P) := by
  intro k
  induction k with
  | zero =>
    intro P hP hk h1 h2 b hbn
    have e : F P = P := by
      apply Classical.byContradiction
      intro hn
      have : ep_cn (F P) 10 < ep_cn P 10 := ep_cn_ne (fun i _ => h1 i) (fun h => hn (ep_bd_eq (hb P) hP (ep_I_ext h)))
      omega
    have el : P = ep_gfp F := ep_eq (ep_le_gfp (ep_of_eq e.symm)) h2
    refine ⟨2, hs 1 b P hP hbn ?_⟩
    rw [e]
    exact hx 0 _ (by rw [el]; exact hp)
  | succ k ih =>
    intro P hP hk h1 h2 b hbn
    by_cases e : ep_I P = ep_I (F P)
    · have e : P = F P := ep_bd_eq hP (hb P) e
      have el : P = ep_gfp F := ep_eq (ep_le_gfp (ep_of_eq e)) h2
      refine ⟨2, hs 1 b P hP hbn ?_⟩
      rw [← e]
      exact hx 0 _ (by rw [el]; exact hp)
    · have hlt : ep_cn (F P) 10 < ep_cn P 10 := ep_cn_ne (fun i _ => h1 i) (fun h => e (ep_I_ext h).symm)
      obtain ⟨n, hn⟩ := ih (F P) (hb P) (by omega) (hF _ _ h1) (ep_tr (ep_gfp_post hF) (hF _ _ h2)) (ep_I P) e
      exact ⟨n + 1, hs n b P hP hbn hn⟩
/-- a loop from the empty set, from the whole -/
theorem ep_up0 {F : (Nat → Prop) → (Nat → Prop)} (hF : ep_mono F) (hb : ∀ X, ep_bd (F X)) {W : Nat → Int32 → Int32 → Prop} {post : Int32 → Prop}
    (hx : ∀ n x, post x → W (n + 1) x x) (hs : ∀ n b P, ep_bd P → ¬ b = ep_I P → W n (ep_I P) (ep_I (F P)) → W (n + 1) b (ep_I P))
    (hp : post (ep_I (ep_lfp F))) : ∃ n, W n (-1) 0 := by
  have h := ep_up hF hb hx hs hp 10 (fun _ => False) (fun _ x => x.elim) (by omega) (fun _ x => x.elim) (fun _ x => x.elim) (-1) (ep_I_m1 _)
  rw [ep_I_0] at h
  exact h
theorem ep_down0 {F : (Nat → Prop) → (Nat → Prop)} (hF : ep_mono F) {c : Nat} (hc : c ≤ 10) (hb : ∀ X, ep_le (F X) (fun v => v < c)) {W : Nat → Int32 → Int32 → Prop} {post : Int32 → Prop}
    (hx : ∀ n x, post x → W (n + 1) x x) (hs : ∀ n b P, ep_bd P → ¬ b = ep_I P → W n (ep_I P) (ep_I (F P)) → W (n + 1) b (ep_I P))
    (hp : post (ep_I (ep_gfp F))) : ∃ n, W n (-1) (ep_I fun v => v < c) :=
  ep_down hF (fun X i x => by have := hb X i x; omega) hx hs hp 10 (fun v => v < c) (fun i x => by omega) (ep_cn_le _ 10) (hb _)
    (ep_tr (ep_gfp_post hF) (hb _)) (-1) (ep_I_m1 _)
end
section
/-! the settling of ranks ends in time -/
def ep_h (c n : Nat → Nat) : Nat → Nat → Nat
  | 0, _ => 0
  | d + 1, r => c r + (n r + 1) * ep_h c n d (r + 1)
def ep_pr (n : Nat → Nat) : Nat → Nat → Nat
  | 0, _ => 1
  | d + 1, r => (n r + 1) * ep_pr n d (r + 1)
theorem ep_h_same {c c' n : Nat → Nat} : ∀ d r, (∀ q, r ≤ q → c' q = c q) → ep_h c' n d r = ep_h c n d r := by
  intro d
  induction d with
  | zero => intro r _; rfl
  | succ d ih =>
    intro r h
    show c' r + (n r + 1) * ep_h c' n d (r + 1) = c r + (n r + 1) * ep_h c n d (r + 1)
    rw [ih (r + 1) (fun q hq => h q (by omega)), h r (Nat.le_refl r)]
theorem ep_h_lt {c c' n : Nat → Nat} {p : Nat} (h1 : ∀ q, p < q → c' q = c q) (h2 : c' p < c p) (h3 : ∀ q, q < p → c' q ≤ n q) :
    ∀ d r, r ≤ p → p < r + d → ep_h c' n d r < ep_h c n d r := by
  intro d
  induction d with
  | zero => intro r h4 h5; omega
  | succ d ih =>
    intro r h4 h5
    show c' r + (n r + 1) * ep_h c' n d (r + 1) < c r + (n r + 1) * ep_h c n d (r + 1)
    by_cases e : p = r
    · subst e
      rw [ep_h_same d (p + 1) (fun q hq => h1 q (by omega))]
      omega
    · have hA := ih (r + 1) (by omega) (by omega)
      have h6 : (n r + 1) * (ep_h c' n d (r + 1) + 1) ≤ (n r + 1) * ep_h c n d (r + 1) := Nat.mul_le_mul_left _ hA
      rw [Nat.mul_succ] at h6
      have := h3 r (by omega)
      omega
theorem ep_h_pr {c n : Nat → Nat} (h : ∀ q, c q ≤ n q) : ∀ d r, ep_h c n d r + 1 ≤ ep_pr n d r := by
  intro d
  induction d with
  | zero => intro r; exact Nat.le_refl 1
  | succ d ih =>
    intro r
    show c r + (n r + 1) * ep_h c n d (r + 1) + 1 ≤ (n r + 1) * ep_pr n d (r + 1)
    have h6 : (n r + 1) * (ep_h c n d (r + 1) + 1) ≤ (n r + 1) * ep_pr n d (r + 1) := Nat.mul_le_mul_left _ (ih (r + 1))
    rw [Nat.mul_succ] at h6
    have := h r
    omega
def ep_dom (M c : Nat) : Nat × Nat → Prop := fun s => s.1 < M ∧ s.2 < c
def ep_st (W : Nat × Nat → Prop) : Nat → Prop := fun k => W (k / 10, k % 10)
noncomputable def ep_cw (rk : Nat × Nat → Nat) (dom W : Nat × Nat → Prop) (r : Nat) : Nat :=
  ep_cn (ep_st fun s => dom s ∧ rk s = r ∧ ((r % 2 = 0 ∧ W s) ∨ (r % 2 = 1 ∧ ¬ W s))) 40
noncomputable def ep_nw (rk : Nat × Nat → Nat) (dom : Nat × Nat → Prop) (r : Nat) : Nat := ep_cn (ep_st fun s => dom s ∧ rk s = r) 40
theorem ep_cw_le (rk : Nat × Nat → Nat) (dom W : Nat × Nat → Prop) (r : Nat) : ep_cw rk dom W r ≤ ep_nw rk dom r :=
  ep_cn_mono 40 fun _ _ h => ⟨h.1, h.2.1⟩
theorem ep_cw_same {rk : Nat × Nat → Nat} {dom W W2 : Nat × Nat → Prop} {r : Nat} (h : ∀ s, rk s = r → (W2 s ↔ W s)) : ep_cw rk dom W2 r = ep_cw rk dom W r := by
  have e : (fun s => dom s ∧ rk s = r ∧ ((r % 2 = 0 ∧ W2 s) ∨ (r % 2 = 1 ∧ ¬ W2 s))) = (fun s => dom s ∧ rk s = r ∧ ((r % 2 = 0 ∧ W s) ∨ (r % 2 = 1 ∧ ¬ W s))) := by
    funext s
    by_cases hr : rk s = r
    · rw [propext (h s hr)]
    · exact propext ⟨fun x => absurd x.2.1 hr, fun x => absurd x.2.1 hr⟩
  unfold ep_cw
  rw [e]
theorem ep_k (m : Nat) {v : Nat} (hv : v < 10) : (m * 10 + v) / 10 = m ∧ (m * 10 + v) % 10 = v := by omega
theorem ep_st_k (W : Nat × Nat → Prop) (m : Nat) {v : Nat} (hv : v < 10) : ep_st W (m * 10 + v) = W (m, v) := by
  unfold ep_st
  rw [(ep_k m hv).1, (ep_k m hv).2]
def ep_ok (rk : Nat × Nat → Nat) (cp : (Nat × Nat → Prop) → (Nat × Nat → Prop)) (dom : Nat × Nat → Prop) (W : Nat × Nat → Prop) (rank round : Nat) : Prop :=
  ep_le W dom ∧ ep_inv rk cp W ∧ ep_sol rk cp rank W = W ∧ rank ≤ 6 ∧ round + 7 * ep_h (ep_cw rk dom W) (ep_nw rk dom) 6 0 + (6 - rank) ≤ 999999
theorem ep_ok_adv {rk : Nat × Nat → Nat} {cp : (Nat × Nat → Prop) → (Nat × Nat → Prop)} {dom W : Nat × Nat → Prop} {rank round : Nat}
    (hd : ∀ X, ep_le (cp X) dom) (h : ep_ok rk cp dom W rank round) (hr : rank < 6) (hf : ∀ s, dom s → rk s = rank → (cp W s ↔ W s)) :
    ep_ok rk cp dom W (rank + 1) (round + 1) := by
  obtain ⟨h1, h2, h3, h4, h5⟩ := h
  refine ⟨h1, h2, ep_inv_adv h2 h3 ?_, by omega, by omega⟩
  intro s hs
  by_cases hds : dom s
  · exact hf s hds hs
  · exact ⟨fun x => absurd (hd _ s x) hds, fun x => absurd (h1 s x) hds⟩
theorem ep_ok_chg {rk : Nat × Nat → Nat} {cp : (Nat × Nat → Prop) → (Nat × Nat → Prop)} (hc : ep_mono cp) {M c : Nat} (hM : M ≤ 4) (hcc : c ≤ 10) {W W2 : Nat × Nat → Prop} {rank round : Nat}
    (hd : ∀ X, ep_le (cp X) (ep_dom M c)) (h : ep_ok rk cp (ep_dom M c) W rank round) (hr : rank < 6)
    (hf : ¬ ∀ s, ep_dom M c s → rk s = rank → (cp W s ↔ W s)) (h2d : ep_le W2 (ep_dom M c)) (hs : ep_start rk (ep_dom M c) (ep_at rk rank W (cp W)) rank W2) :
    ep_ok rk cp (ep_dom M c) W2 0 (round + 1) := by
  obtain ⟨h1, h2, h3, h4, h5⟩ := h
  have hat : ∀ s, (rk s = rank → (ep_at rk rank W (cp W) s ↔ cp W s)) ∧ (rk s ≠ rank → (ep_at rk rank W (cp W) s ↔ W s)) := fun s =>
    ⟨fun e => by rw [ep_at_eq e], fun e => by rw [ep_at_ne e]⟩
  have hW2 : ∀ s, rk s = rank → (W2 s ↔ cp W s) := fun s e => ((hs s).1 (by omega)).trans ((hat s).1 e)
  have hlt : ep_cw rk (ep_dom M c) W2 rank < ep_cw rk (ep_dom M c) W rank := by
    have hex : ∃ s, ep_dom M c s ∧ rk s = rank ∧ ¬ (cp W s ↔ W s) := by
      apply Classical.byContradiction
      intro hn
      apply hf
      intro s hs1 hs2
      apply Classical.byContradiction
      intro hn2
      exact hn ⟨s, hs1, hs2, hn2⟩
    obtain ⟨⟨m, v⟩, hds, hrs, hne⟩ := hex
    have hmv : m < M ∧ v < c := hds
    rcases ep_par rank with hp | hp
    · have hD := ((h2 rank).1 hp).2
      rw [h3] at hD
      have hws : W (m, v) := Classical.byContradiction fun hn => hne ⟨fun x => absurd (hD _ hrs x) hn, fun x => absurd x hn⟩
      have hcs : ¬ cp W (m, v) := fun x => hne ⟨fun _ => hws, fun _ => x⟩
      apply ep_cn_lt 40
      · rintro k hk ⟨x1, x2, x3⟩
        refine ⟨x1, x2, ?_⟩
        rcases x3 with x3 | x3
        · exact Or.inl ⟨x3.1, hD _ x2 ((hW2 _ x2).1 x3.2)⟩
        · omega
      · refine ⟨m * 10 + v, by omega, ?_, ?_⟩
        · rw [ep_st_k _ m (by omega)]
          exact ⟨hds, hrs, Or.inl ⟨hp, hws⟩⟩
        · rw [ep_st_k _ m (by omega)]
          rintro ⟨_, _, x | x⟩
          · exact hcs ((hW2 _ hrs).1 x.2)
          · omega
    · have hD := ((h2 rank).2 hp).2
      rw [h3] at hD
      have hws : ¬ W (m, v) := fun x => hne ⟨fun _ => x, fun _ => hD _ hrs x⟩
      have hcs : cp W (m, v) := Classical.byContradiction fun hn => hne ⟨fun x => absurd x hn, fun x => absurd x hws⟩
      apply ep_cn_lt 40
      · rintro k hk ⟨x1, x2, x3⟩
        refine ⟨x1, x2, ?_⟩
        rcases x3 with x3 | x3
        · omega
        · exact Or.inr ⟨x3.1, fun x => x3.2 ((hW2 _ x2).2 (hD _ x2 x))⟩
      · refine ⟨m * 10 + v, by omega, ?_, ?_⟩
        · rw [ep_st_k _ m (by omega)]
          exact ⟨hds, hrs, Or.inr ⟨hp, hws⟩⟩
        · rw [ep_st_k _ m (by omega)]
          rintro ⟨_, _, x | x⟩
          · omega
          · exact x.2 ((hW2 _ hrs).2 hcs)
  have hsame : ∀ q, rank < q → ep_cw rk (ep_dom M c) W2 q = ep_cw rk (ep_dom M c) W q := fun q hq =>
    ep_cw_same fun s e => ((hs s).1 (by omega)).trans ((hat s).2 (by omega))
  have hh := ep_h_lt hsame hlt (n := ep_nw rk (ep_dom M c)) (fun q _ => ep_cw_le _ _ _ q) 6 0 (by omega) (by omega)
  refine ⟨h2d, ep_inv_chg hc hd h2 h3 hat hs, rfl, by omega, by omega⟩
theorem ep_ok_end {rk : Nat × Nat → Nat} {cp : (Nat × Nat → Prop) → (Nat × Nat → Prop)} {dom W : Nat × Nat → Prop} {round : Nat}
    (hk : ∀ s, rk s < 6) (h : ep_ok rk cp dom W 6 round) : W = ep_sol rk cp 6 (fun _ => False) := by
  exact h.2.2.1.symm.trans (ep_sol_dep rk cp 6 fun s hs => by have := hk s; omega)
theorem ep_ok_start {rk : Nat × Nat → Nat} {cp : (Nat × Nat → Prop) → (Nat × Nat → Prop)} (hc : ep_mono cp) {dom W W2 : Nat × Nat → Prop}
    (hd : ∀ X, ep_le (cp X) dom) (hk : ∀ s, rk s < 6) (h2d : ep_le W2 dom) (hs : ep_start rk dom W 6 W2) (hb : ep_pr (ep_nw rk dom) 6 0 ≤ 142857) :
    ep_ok rk cp dom W2 0 0 := by
  have h := ep_h_pr (c := ep_cw rk dom W2) (n := ep_nw rk dom) (fun q => ep_cw_le _ _ _ q) 6 0
  exact ⟨h2d, ep_inv_0 hc hd hk hs, rfl, by omega, by omega⟩
/-! the bounds -/
theorem ep_nw_0 {rk : Nat × Nat → Nat} {dom : Nat × Nat → Prop} {r : Nat} (h : ∀ s, rk s ≠ r) : ep_nw rk dom r = 0 := by
  have : ep_nw rk dom r ≤ ep_cn (fun _ => False) 40 := ep_cn_mono 40 fun i _ x => absurd x.2 (h _)
  have h0 : ∀ k, ep_cn (fun _ => False) k = 0 := by
    intro k
    induction k with
    | zero => rfl
    | succ k ih => rw [ep_cn_f (fun h => h)]; exact ih
  rw [h0] at this
  omega
theorem ep_nw_40 (rk : Nat × Nat → Nat) (dom : Nat × Nat → Prop) (r : Nat) : ep_nw rk dom r ≤ 40 := ep_cn_le _ 40
theorem ep_pr6 (n : Nat → Nat) : ep_pr n 6 0 = (n 0 + 1) * ((n 1 + 1) * ((n 2 + 1) * ((n 3 + 1) * ((n 4 + 1) * ((n 5 + 1) * 1))))) := rfl
theorem ep_bnd3 {rk : Nat × Nat → Nat} {dom : Nat × Nat → Prop} (h : ∀ s, rk s < 3) : ep_pr (ep_nw rk dom) 6 0 ≤ 142857 := by
  rw [ep_pr6, ep_nw_0 (r := 3) (fun s => by have := h s; omega), ep_nw_0 (r := 4) (fun s => by have := h s; omega), ep_nw_0 (r := 5) (fun s => by have := h s; omega)]
  have h0 := ep_nw_40 rk dom 0
  have h1 := ep_nw_40 rk dom 1
  have h2 := ep_nw_40 rk dom 2
  have a1 : (ep_nw rk dom 1 + 1) * (ep_nw rk dom 2 + 1) ≤ 41 * 41 := Nat.mul_le_mul (by omega) (by omega)
  have a2 : (ep_nw rk dom 0 + 1) * ((ep_nw rk dom 1 + 1) * (ep_nw rk dom 2 + 1)) ≤ 41 * (41 * 41) := Nat.mul_le_mul (by omega) a1
  have e : (ep_nw rk dom 0 + 1) * ((ep_nw rk dom 1 + 1) * ((ep_nw rk dom 2 + 1) * ((0 + 1) * ((0 + 1) * ((0 + 1) * 1))))) = (ep_nw rk dom 0 + 1) * ((ep_nw rk dom 1 + 1) * (ep_nw rk dom 2 + 1)) := by simp
  rw [e]
  omega
theorem ep_sq (x y : Nat) : 4 * (x * y) ≤ (x + y) * (x + y) := by
  rcases Nat.le_total x y with h | h
  · obtain ⟨d, rfl⟩ := Nat.exists_eq_add_of_le h
    have : (x + (x + d)) * (x + (x + d)) = 4 * (x * (x + d)) + d * d := by grind
    omega
  · obtain ⟨d, rfl⟩ := Nat.exists_eq_add_of_le h
    have : ((y + d) + y) * ((y + d) + y) = 4 * ((y + d) * y) + d * d := by grind
    omega
theorem ep_tab : ∀ s, s < 21 → ∀ t, t < 21 → s + t ≤ 20 → (s + 2) * (s + 2) * ((t + 2) * (t + 2)) * (20 - s - t + 1) ≤ 2285712 := by decide +kernel
theorem ep_five {a b c d e : Nat} (h : a + b + c + d + e ≤ 20) : (a + 1) * ((b + 1) * ((c + 1) * ((d + 1) * (e + 1)))) ≤ 142857 := by
  have h1 := ep_sq (a + 1) (b + 1)
  have h2 := ep_sq (c + 1) (d + 1)
  have h3 : 4 * ((a + 1) * (b + 1)) * (4 * ((c + 1) * (d + 1))) ≤ (a + 1 + (b + 1)) * (a + 1 + (b + 1)) * ((c + 1 + (d + 1)) * (c + 1 + (d + 1))) := Nat.mul_le_mul h1 h2
  have h4 := Nat.mul_le_mul h3 (show e + 1 ≤ 20 - (a + b) - (c + d) + 1 by omega)
  have h5 := ep_tab (a + b) (by omega) (c + d) (by omega) (by omega)
  have e1 : a + 1 + (b + 1) = a + b + 2 := by omega
  have e2 : c + 1 + (d + 1) = c + d + 2 := by omega
  rw [e1, e2] at h4
  have e3 : 4 * ((a + 1) * (b + 1)) * (4 * ((c + 1) * (d + 1))) * (e + 1) = 16 * ((a + 1) * ((b + 1) * ((c + 1) * ((d + 1) * (e + 1))))) := by grind
  rw [e3] at h4
  omega
theorem ep_cn_sum (d : Nat → Prop) (rk : Nat → Nat) : ∀ k, ep_cn (fun i => d i ∧ rk i = 0) k + ep_cn (fun i => d i ∧ rk i = 1) k + ep_cn (fun i => d i ∧ rk i = 2) k + ep_cn (fun i => d i ∧ rk i = 3) k + ep_cn (fun i => d i ∧ rk i = 4) k + ep_cn (fun i => d i ∧ rk i = 5) k ≤ ep_cn d k := by
  intro k
  induction k with
  | zero => exact Nat.le_refl 0
  | succ k ih =>
    by_cases hd : d k
    · have st : ∀ r, ∃ x, ep_cn (fun i => d i ∧ rk i = r) (k + 1) = ep_cn (fun i => d i ∧ rk i = r) k + x ∧ (rk k = r → x = 1) ∧ (rk k ≠ r → x = 0) := by
        intro r
        by_cases hr : rk k = r
        · exact ⟨1, ep_cn_t ⟨hd, hr⟩, fun _ => rfl, fun h => absurd hr h⟩
        · exact ⟨0, ep_cn_f (fun h => hr h.2), fun h => absurd h hr, fun _ => rfl⟩
      obtain ⟨x0, e0, a0, b0⟩ := st 0
      obtain ⟨x1, e1, a1, b1⟩ := st 1
      obtain ⟨x2, e2, a2, b2⟩ := st 2
      obtain ⟨x3, e3, a3, b3⟩ := st 3
      obtain ⟨x4, e4, a4, b4⟩ := st 4
      obtain ⟨x5, e5, a5, b5⟩ := st 5
      rw [e0, e1, e2, e3, e4, e5, ep_cn_t hd]
      have hx : x0 + x1 + x2 + x3 + x4 + x5 ≤ 1 := by
        clear ih e0 e1 e2 e3 e4 e5 st
        omega
      omega
    · have st : ∀ r, ep_cn (fun i => d i ∧ rk i = r) (k + 1) = ep_cn (fun i => d i ∧ rk i = r) k := fun r => ep_cn_f (fun h => hd h.1)
      rw [st 0, st 1, st 2, st 3, st 4, st 5, ep_cn_f hd]
      exact ih
theorem ep_cn_20 {p : Nat → Prop} (h : ∀ i, p i → i < 20) : ∀ k, ep_cn p k ≤ 20 := by
  intro k
  induction k with
  | zero => exact Nat.zero_le 20
  | succ k ih =>
    by_cases hp : p k
    · have := h k hp
      have := ep_cn_le p (k + 1)
      omega
    · rw [ep_cn_f hp]; exact ih
theorem ep_nw_sum (rk : Nat × Nat → Nat) {M c : Nat} (hM : M ≤ 2) (hc : c ≤ 10) :
    ep_nw rk (ep_dom M c) 0 + ep_nw rk (ep_dom M c) 1 + ep_nw rk (ep_dom M c) 2 + ep_nw rk (ep_dom M c) 3 + ep_nw rk (ep_dom M c) 4 + ep_nw rk (ep_dom M c) 5 ≤ 20 := by
  have h := ep_cn_sum (ep_st (ep_dom M c)) (fun k => rk (k / 10, k % 10)) 40
  have h2 := ep_cn_20 (p := ep_st (ep_dom M c)) (fun i x => by have : i / 10 < M ∧ i % 10 < c := x; omega) 40
  exact Nat.le_trans h h2
theorem ep_bnd6 {rk : Nat × Nat → Nat} {M c : Nat} (hM : M ≤ 2) (hc : c ≤ 10) (h : (∀ s, rk s ≠ 0) ∨ (∀ s, rk s ≠ 5)) : ep_pr (ep_nw rk (ep_dom M c)) 6 0 ≤ 142857 := by
  have hs := ep_nw_sum rk hM hc
  rw [ep_pr6]
  rcases h with h | h
  · rw [ep_nw_0 (r := 0) h] at hs ⊢
    rw [Nat.zero_add, Nat.one_mul, Nat.mul_one]
    exact ep_five (by omega)
  · rw [ep_nw_0 (r := 5) h] at hs ⊢
    rw [Nat.zero_add, Nat.one_mul, Nat.mul_one]
    exact ep_five (by omega)
end
section
/-! the game of the positions; memories and ranks of each goal -/
def ep_fr (c : Nat) (ow E : Nat → Int32) (p : Int32) (S : Nat → Prop) : Nat → Prop :=
  fun v => v < c ∧ ((ow v = p ∧ ∃ w, bt (E v) w = true ∧ S w) ∨ (ow v ≠ p ∧ ∀ w, bt (E v) w = true → S w))
/-- the positions: at most 10, owners 0 or 1, moves and sets within -/
def ep_G (c : Nat) (ow E J : Nat → Int32) : Prop :=
  c ≤ 10 ∧ (∀ v, v < 10 → ow v = 0 ∨ ow v = 1) ∧ (∀ v, v < 10 → ∀ w, bt (E v) w = true → w < c) ∧ (∀ s, s < 4 → ∀ w, bt (J s) w = true → w < c)
theorem ep_fr_F {c : Nat} {ow E J : Nat → Int32} (h : ep_G c ow E J) (p : Int32) : ep_F c (ep_fr c ow E p) := by
  refine ⟨?_, fun A v x => x.1⟩
  rintro A B hab v ⟨hv, x⟩
  have hE := h.2.2.1 v (by have := h.1; omega)
  refine ⟨hv, ?_⟩
  rcases x with ⟨x1, w, x2, x3⟩ | ⟨x1, x2⟩
  · exact Or.inl ⟨x1, w, x2, hab w (hE w x2) x3⟩
  · exact Or.inr ⟨x1, fun w hw => hab w (hE w hw) (x2 w hw)⟩
theorem ep_fr_du {c : Nat} {ow E J : Nat → Int32} (h : ep_G c ow E J) (S : Nat → Prop) {v : Nat} (hv : v < c) :
    ¬ ep_fr c ow E 0 (ep_not S) v ↔ ep_fr c ow E 1 S v := by
  have ho := h.2.1 v (by have := h.1; omega)
  have h01 : (1 : Int32) ≠ 0 := by decide
  constructor
  · intro hn
    refine ⟨hv, ?_⟩
    rcases ho with ho | ho
    · refine Or.inr ⟨by rw [ho]; decide, fun w hw => ?_⟩
      apply Classical.byContradiction
      intro hs
      exact hn ⟨hv, Or.inl ⟨ho, w, hw, hs⟩⟩
    · refine Or.inl ⟨ho, ?_⟩
      apply Classical.byContradiction
      intro hs
      exact hn ⟨hv, Or.inr ⟨by rw [ho]; decide, fun w hw hS => hs ⟨w, hw, hS⟩⟩⟩
  · rintro ⟨_, x⟩ ⟨_, y⟩
    rcases ho with ho | ho
    · rcases x with x | x
      · exact absurd (ho.symm.trans x.1) (by decide)
      · rcases y with ⟨_, w, hw, hs⟩ | y
        · exact hs (x.2 w hw)
        · exact y.1 ho
    · rcases x with ⟨_, w, hw, hs⟩ | x
      · rcases y with y | y
        · exact absurd (ho.symm.trans y.1) (by decide)
        · exact y.2 w hw hs
      · exact x.1 ho
def ep_nA (J : Nat → Nat → Bool) (first m v : Nat) : Nat := if J (first + m) v = true then 1 - m else m
def ep_bC (J : Nat → Nat → Bool) (first m v : Nat) : Bool := decide (m = 1) && J (first + 1) v
def ep_nF (J : Nat → Nat → Bool) (an fr v : Nat) : Nat := if J (2 * (1 - fr) + an) v = true then 1 - fr else fr
def ep_pR (J : Nat → Nat → Bool) (an fr v : Nat) : Nat :=
  if J (2 * (1 - fr) + an) v = true then 4 else if J (2 * (1 - fr) + (1 - an)) v = true then 3 else if J (2 * fr + an) v = true then 2 else if J (2 * fr + (1 - an)) v = true then 1 else 0
def ep_nU (J : Nat → Nat → Bool) (m v : Nat) : Nat := if m ≠ 0 then m else if J 1 v = true then 1 else if J 0 v = true then 0 else 2
def ep_nm (J : Nat → Nat → Bool) : Nat → Nat → Nat → Nat
  | 0, m, v => if m = 1 ∨ J 0 v = true then 1 else 0
  | 1, m, v => if m = 1 ∨ ¬ J 0 v = true then 1 else 0
  | 4, m, v => ep_nA J 0 m v
  | 5, m, v => ep_nA J 0 (m % 2) v + 2 * ep_nA J 2 (m / 2) v
  | 6, m, v => ep_nF J 0 m v
  | 7, m, v => ep_nF J 1 m v
  | 8, m, v => ep_nU J m v
  | _, _, _ => 0
def ep_rk (J : Nat → Nat → Bool) : Nat → Nat → Nat → Nat
  | 0, m, v => if m = 1 ∨ J 0 v = true then 0 else 1
  | 1, m, v => if m = 1 ∨ ¬ J 0 v = true then 1 else 0
  | 2, _, v => if J 0 v = true then 2 else 1
  | 3, _, v => if J 0 v = true then 0 else 1
  | 4, m, v => if ep_bC J 0 m v = true then 2 else 1
  | 5, m, v => if ep_bC J 2 (m / 2) v = true then 2 else if ep_bC J 0 (m % 2) v = true then 1 else 0
  | 6, m, v => 1 + ep_pR J 0 m v
  | 7, m, v => ep_pR J 1 m v
  | _, m, v => if ep_nU J m v = 1 then 0 else 1
def ep_Mg : Nat → Nat
  | 2 => 1
  | 3 => 1
  | 5 => 4
  | 8 => 3
  | _ => 2
theorem ep_pR_le (J : Nat → Nat → Bool) (an fr v : Nat) : ep_pR J an fr v ≤ 4 := by
  unfold ep_pR
  repeat' split
  all_goals omega
theorem ep_Mg_4 : ∀ g, g < 9 → ep_Mg g ≤ 4 := by decide
theorem ep_nm_lt (J : Nat → Nat → Bool) {g m : Nat} (hg : g < 9) (hm : m < ep_Mg g) (v : Nat) : ep_nm J g m v < ep_Mg g := by
  match g, hg, hm with
  | 0, _, hm => show (if m = 1 ∨ J 0 v = true then 1 else 0) < 2; split <;> omega
  | 1, _, hm => show (if m = 1 ∨ ¬ J 0 v = true then 1 else 0) < 2; split <;> omega
  | 2, _, hm => exact Nat.zero_lt_one
  | 3, _, hm => exact Nat.zero_lt_one
  | 4, _, hm =>
    have hm : m < 2 := hm
    show ep_nA J 0 m v < 2
    unfold ep_nA; split <;> omega
  | 5, _, hm =>
    have hm : m < 4 := hm
    show ep_nA J 0 (m % 2) v + 2 * ep_nA J 2 (m / 2) v < 4
    unfold ep_nA; split <;> split <;> omega
  | 6, _, hm =>
    have hm : m < 2 := hm
    show ep_nF J 0 m v < 2
    unfold ep_nF; split <;> omega
  | 7, _, hm =>
    have hm : m < 2 := hm
    show ep_nF J 1 m v < 2
    unfold ep_nF; split <;> omega
  | 8, _, hm =>
    have hm : m < 3 := hm
    show ep_nU J m v < 3
    unfold ep_nU; split
    · exact hm
    · split
      · omega
      · split <;> omega
theorem ep_rk_6 (J : Nat → Nat → Bool) {g : Nat} (hg : g < 9) (m v : Nat) : ep_rk J g m v < 6 := by
  match g, hg with
  | 0, _ => show (if m = 1 ∨ J 0 v = true then 0 else 1) < 6; split <;> omega
  | 1, _ => show (if m = 1 ∨ ¬ J 0 v = true then 1 else 0) < 6; split <;> omega
  | 2, _ => show (if J 0 v = true then 2 else 1) < 6; split <;> omega
  | 3, _ => show (if J 0 v = true then 0 else 1) < 6; split <;> omega
  | 4, _ => show (if ep_bC J 0 m v = true then 2 else 1) < 6; split <;> omega
  | 5, _ =>
    show (if ep_bC J 2 (m / 2) v = true then 2 else if ep_bC J 0 (m % 2) v = true then 1 else 0) < 6
    split
    · omega
    · split <;> omega
  | 6, _ => show 1 + ep_pR J 0 m v < 6; have := ep_pR_le J 0 m v; omega
  | 7, _ => show ep_pR J 1 m v < 6; have := ep_pR_le J 1 m v; omega
  | 8, _ => show (if ep_nU J m v = 1 then 0 else 1) < 6; split <;> omega
theorem ep_rk_3 (J : Nat → Nat → Bool) {g : Nat} (hg : g < 9) (h6 : g ≠ 6) (h7 : g ≠ 7) (m v : Nat) : ep_rk J g m v < 3 := by
  match g, hg, h6, h7 with
  | 0, _, _, _ => show (if m = 1 ∨ J 0 v = true then 0 else 1) < 3; split <;> omega
  | 1, _, _, _ => show (if m = 1 ∨ ¬ J 0 v = true then 1 else 0) < 3; split <;> omega
  | 2, _, _, _ => show (if J 0 v = true then 2 else 1) < 3; split <;> omega
  | 3, _, _, _ => show (if J 0 v = true then 0 else 1) < 3; split <;> omega
  | 4, _, _, _ => show (if ep_bC J 0 m v = true then 2 else 1) < 3; split <;> omega
  | 5, _, _, _ =>
    show (if ep_bC J 2 (m / 2) v = true then 2 else if ep_bC J 0 (m % 2) v = true then 1 else 0) < 3
    split
    · omega
    · split <;> omega
  | 6, _, h, _ => exact absurd rfl h
  | 7, _, _, h => exact absurd rfl h
  | 8, _, _, _ => show (if ep_nU J m v = 1 then 0 else 1) < 3; split <;> omega
/-- the states from which player 0 forces, one move ahead -/
def ep_cp (c : Nat) (ow E : Nat → Int32) (M : Nat) (nm : Nat → Nat → Nat) (W : Nat × Nat → Prop) : Nat × Nat → Prop :=
  fun s => ep_dom M c s ∧ ep_fr c ow E 0 (fun w => W (nm s.1 s.2, w)) s.2
theorem ep_cp_mono {c : Nat} {ow E J : Nat → Int32} (h : ep_G c ow E J) (M : Nat) (nm : Nat → Nat → Nat) : ep_mono (ep_cp c ow E M nm) :=
  fun _ _ hab s x => ⟨x.1, (ep_fr_F h 0).1 _ _ (fun w _ => hab (nm s.1 s.2, w)) s.2 x.2⟩
theorem ep_cp_C {c : Nat} {ow E J : Nat → Int32} (h : ep_G c ow E J) (M : Nat) (nm : Nat → Nat → Nat) : ep_C c (ep_fr c ow E 0) M nm (ep_cp c ow E M nm) :=
  ⟨ep_cp_mono h M nm, fun _ _ _ hm hv => ⟨fun x => x.2, fun x => ⟨⟨hm, hv⟩, x⟩⟩⟩
theorem ep_cp_D {c : Nat} {ow E J : Nat → Int32} (h : ep_G c ow E J) (M : Nat) (nm : Nat → Nat → Nat) : ep_C c (ep_fr c ow E 1) M nm (ep_du (ep_cp c ow E M nm)) := by
  refine ⟨ep_du_mono (ep_cp_mono h M nm), fun X m v hm hv => ?_⟩
  rw [← ep_fr_du h _ hv]
  constructor
  · exact fun x y => x ⟨⟨hm, hv⟩, y⟩
  · exact fun x y => x y.2
/-- the reference's answer for each goal, over the force of each player and the sets -/
def ep_R (c : Nat) (f0 f1 : (Nat → Prop) → (Nat → Prop)) (s : Nat → Nat → Prop) : Nat → Nat → Prop
  | 0 => ep_reach f0 (fun v => (s 0 v ∧ ep_safe f0 (fun v => v < c) v) ∨ ep_forced f0 (fun v => v < c) v) (fun v => v < c)
  | 1 => ep_stay f0 (s 0) (ep_forced f0 fun v => v < c)
  | 2 => ep_again f0 (fun v => v < c) (s 0)
  | 3 => ep_end f0 (s 0)
  | 4 => ep_both f0 (fun v => v < c) (s 0) (s 1)
  | 5 => ep_ifb f0 (fun v => v < c) (s 0) (s 1) (s 2) (s 3)
  | 6 => ep_one f0 (fun v => v < c) (s 1) (s 0) (s 3) (s 2)
  | 7 => fun v => v < c ∧ ¬ ep_one f1 (fun v => v < c) (s 0) (s 1) (s 2) (s 3) v
  | _ => ep_reach f0 (fun v => (s 1 v ∧ ep_safe f0 (fun v => v < c) v) ∨ ep_forced f0 (fun v => v < c) v) (s 0)
end
section
/-! the settled states of each goal are the reference's answer -/
theorem ep_to3 {S : Type} {rk : S → Nat} (cp : (S → Prop) → (S → Prop)) (W : S → Prop) (h : ∀ s, rk s < 3) : ep_sol rk cp 6 W = ep_sol rk cp 3 W := by
  rw [ep_sol_skip rk cp 5 W (fun s => by have := h s; omega), ep_sol_skip rk cp 4 W (fun s => by have := h s; omega), ep_sol_skip rk cp 3 W (fun s => by have := h s; omega)]
theorem ep_to2 {S : Type} {rk : S → Nat} (cp : (S → Prop) → (S → Prop)) (W : S → Prop) (h : ∀ s, rk s < 2) : ep_sol rk cp 6 W = ep_sol rk cp 2 W := by
  rw [ep_to3 cp W (fun s => by have := h s; omega), ep_sol_skip rk cp 2 W (fun s => by have := h s; omega)]
theorem ep_bC0 (J : Nat → Nat → Bool) (fi v : Nat) : ¬ ep_bC J fi 0 v = true := by
  show ¬ (decide (0 = 1) && J (fi + 1) v) = true
  simp
theorem ep_a0 {c : Nat} {ow E K : Nat → Int32} (h : ep_G c ow E K) (J : Nat → Nat → Bool) (v : Nat) (hv : v < c) :
    ep_sol (fun s => ep_rk J 0 s.1 s.2) (ep_cp c ow E 2 (ep_nm J 0)) 6 (fun _ => False) (0, v) ↔ ep_R c (ep_fr c ow E 0) (ep_fr c ow E 1) (fun s v => J s v = true) 0 v := by
  rw [ep_to2 _ _ (fun s => by show (if s.1 = 1 ∨ J 0 s.2 = true then 0 else 1) < 2; split <;> omega)]
  refine ep_g0 (ep_fr_F h 0) (ep_cp_C h 2 _) ?_ ?_ ?_ ?_ ?_ ?_ v hv
  · intro v; show (if 1 = 1 ∨ J 0 v = true then 1 else 0) = 1; exact if_pos (Or.inl rfl)
  · intro v x; show (if 0 = 1 ∨ J 0 v = true then 1 else 0) = 1; exact if_pos (Or.inr x)
  · intro v x; show (if 0 = 1 ∨ J 0 v = true then 1 else 0) = 0; exact if_neg (fun y => y.elim (fun z => absurd z (by decide)) x)
  · intro v; show (if 1 = 1 ∨ J 0 v = true then 0 else 1) = 0; exact if_pos (Or.inl rfl)
  · intro v x; show (if 0 = 1 ∨ J 0 v = true then 0 else 1) = 0; exact if_pos (Or.inr x)
  · intro v x; show (if 0 = 1 ∨ J 0 v = true then 0 else 1) = 1; exact if_neg (fun y => y.elim (fun z => absurd z (by decide)) x)
theorem ep_a1 {c : Nat} {ow E K : Nat → Int32} (h : ep_G c ow E K) (J : Nat → Nat → Bool) (v : Nat) (hv : v < c) :
    ep_sol (fun s => ep_rk J 1 s.1 s.2) (ep_cp c ow E 2 (ep_nm J 1)) 6 (fun _ => False) (0, v) ↔ ep_R c (ep_fr c ow E 0) (ep_fr c ow E 1) (fun s v => J s v = true) 1 v := by
  rw [ep_to2 _ _ (fun s => by show (if s.1 = 1 ∨ ¬ J 0 s.2 = true then 1 else 0) < 2; split <;> omega)]
  refine ep_g1 (ep_fr_F h 0) (ep_cp_C h 2 _) ?_ ?_ ?_ ?_ ?_ ?_ v hv
  · intro v; show (if 1 = 1 ∨ ¬ J 0 v = true then 1 else 0) = 1; exact if_pos (Or.inl rfl)
  · intro v x; show (if 0 = 1 ∨ ¬ J 0 v = true then 1 else 0) = 0; exact if_neg (fun y => y.elim (fun z => absurd z (by decide)) (fun z => z x))
  · intro v x; show (if 0 = 1 ∨ ¬ J 0 v = true then 1 else 0) = 1; exact if_pos (Or.inr x)
  · intro v; show (if 1 = 1 ∨ ¬ J 0 v = true then 1 else 0) = 1; exact if_pos (Or.inl rfl)
  · intro v x; show (if 0 = 1 ∨ ¬ J 0 v = true then 1 else 0) = 0; exact if_neg (fun y => y.elim (fun z => absurd z (by decide)) (fun z => z x))
  · intro v x; show (if 0 = 1 ∨ ¬ J 0 v = true then 1 else 0) = 1; exact if_pos (Or.inr x)
theorem ep_a2 {c : Nat} {ow E K : Nat → Int32} (h : ep_G c ow E K) (J : Nat → Nat → Bool) (v : Nat) (hv : v < c) :
    ep_sol (fun s => ep_rk J 2 s.1 s.2) (ep_cp c ow E 1 (ep_nm J 2)) 6 (fun _ => False) (0, v) ↔ ep_R c (ep_fr c ow E 0) (ep_fr c ow E 1) (fun s v => J s v = true) 2 v := by
  rw [ep_to3 _ _ (fun s => by show (if J 0 s.2 = true then 2 else 1) < 3; split <;> omega)]
  refine ep_g2 (ep_fr_F h 0) (ep_cp_C h 1 _) ?_ ?_ ?_ ?_ v hv
  · intro v; rfl
  · intro v x; exact if_pos x
  · intro v x; exact if_neg x
  · intro s; show (if J 0 s.2 = true then 2 else 1) ≠ 0; split <;> omega
theorem ep_a3 {c : Nat} {ow E K : Nat → Int32} (h : ep_G c ow E K) (J : Nat → Nat → Bool) (v : Nat) (hv : v < c) :
    ep_sol (fun s => ep_rk J 3 s.1 s.2) (ep_cp c ow E 1 (ep_nm J 3)) 6 (fun _ => False) (0, v) ↔ ep_R c (ep_fr c ow E 0) (ep_fr c ow E 1) (fun s v => J s v = true) 3 v := by
  rw [ep_to2 _ _ (fun s => by show (if J 0 s.2 = true then 0 else 1) < 2; split <;> omega)]
  refine ep_g3 (ep_fr_F h 0) (ep_cp_C h 1 _) ?_ ?_ ?_ v hv
  · intro v; rfl
  · intro v x; exact if_pos x
  · intro v x; exact if_neg x
theorem ep_a4 {c : Nat} {ow E K : Nat → Int32} (h : ep_G c ow E K) (J : Nat → Nat → Bool) (v : Nat) (hv : v < c) :
    ep_sol (fun s => ep_rk J 4 s.1 s.2) (ep_cp c ow E 2 (ep_nm J 4)) 6 (fun _ => False) (0, v) ↔ ep_R c (ep_fr c ow E 0) (ep_fr c ow E 1) (fun s v => J s v = true) 4 v := by
  rw [ep_to3 _ _ (fun s => by show (if ep_bC J 0 s.1 s.2 = true then 2 else 1) < 3; split <;> omega)]
  refine ep_g4 (ep_fr_F h 0) (ep_cp_C h 2 _) ?_ ?_ ?_ ?_ ?_ ?_ ?_ ?_ v hv
  · intro v x; exact if_pos x
  · intro v x; exact if_neg x
  · intro v x; exact if_pos x
  · intro v x; exact if_neg x
  · intro v; show (if ep_bC J 0 0 v = true then 2 else 1) = 1; exact if_neg (ep_bC0 J 0 v)
  · intro v x; exact if_pos (show (decide (1 = 1) && J 1 v) = true by rw [x]; rfl)
  · intro v x; exact if_neg (fun y => x (by simpa [ep_bC] using y))
  · intro s; show (if ep_bC J 0 s.1 s.2 = true then 2 else 1) ≠ 0; split <;> omega
theorem ep_a8 {c : Nat} {ow E K : Nat → Int32} (h : ep_G c ow E K) (J : Nat → Nat → Bool) (v : Nat) (hv : v < c) :
    ep_sol (fun s => ep_rk J 8 s.1 s.2) (ep_cp c ow E 3 (ep_nm J 8)) 6 (fun _ => False) (0, v) ↔ ep_R c (ep_fr c ow E 0) (ep_fr c ow E 1) (fun s v => J s v = true) 8 v := by
  rw [ep_to2 _ _ (fun s => by show (if ep_nU J s.1 s.2 = 1 then 0 else 1) < 2; split <;> omega)]
  have u1 : ∀ v, ep_nU J 1 v = 1 := fun v => if_pos (by decide)
  have u2 : ∀ v, ep_nU J 2 v = 2 := fun v => if_pos (by decide)
  have ub : ∀ v, J 1 v = true → ep_nU J 0 v = 1 := fun v x => (if_neg (by decide)).trans (if_pos x)
  have ua : ∀ v, ¬ J 1 v = true → J 0 v = true → ep_nU J 0 v = 0 := fun v x y => (if_neg (by decide)).trans ((if_neg x).trans (if_pos y))
  have ux : ∀ v, ¬ J 1 v = true → ¬ J 0 v = true → ep_nU J 0 v = 2 := fun v x y => (if_neg (by decide)).trans ((if_neg x).trans (if_neg y))
  refine ep_g8 (ep_fr_F h 0) (ep_cp_C h 3 _) u1 u2 ub ua ux ?_ ?_ ?_ ?_ v hv
  · intro v; show (if ep_nU J 1 v = 1 then 0 else 1) = 0; exact if_pos (u1 v)
  · intro v; show (if ep_nU J 2 v = 1 then 0 else 1) = 1; rw [u2 v]; rfl
  · intro v x; show (if ep_nU J 0 v = 1 then 0 else 1) = 0; exact if_pos (ub v x)
  · intro v x
    show (if ep_nU J 0 v = 1 then 0 else 1) = 1
    refine if_neg ?_
    by_cases y : J 0 v = true
    · rw [ua v x y]; decide
    · rw [ux v x y]; decide
theorem ep_a5 {c : Nat} {ow E K : Nat → Int32} (h : ep_G c ow E K) (J : Nat → Nat → Bool) (v : Nat) (hv : v < c) :
    ep_sol (fun s => ep_rk J 5 s.1 s.2) (ep_cp c ow E 4 (ep_nm J 5)) 6 (fun _ => False) (0, v) ↔ ep_R c (ep_fr c ow E 0) (ep_fr c ow E 1) (fun s v => J s v = true) 5 v := by
  rw [ep_to3 (S := Nat × Nat) (rk := fun s => ep_rk J 5 s.1 s.2) _ _ (fun s => ep_rk_3 J (g := 5) (by decide) (by decide) (by decide) s.1 s.2)]
  have hrk : ∀ m v, ep_rk J 5 m v = if ep_bC J 2 (m / 2) v = true then 2 else if ep_bC J 0 (m % 2) v = true then 1 else 0 := fun _ _ => rfl
  have hnm : ∀ m v, ep_nm J 5 m v = ep_nA J 0 (m % 2) v + 2 * ep_nA J 2 (m / 2) v := fun _ _ => rfl
  have d0 : ∀ j : Nat, (0 + 2 * j) / 2 = j ∧ (0 + 2 * j) % 2 = 0 := fun j => by omega
  have d1 : ∀ j : Nat, (1 + 2 * j) / 2 = j ∧ (1 + 2 * j) % 2 = 1 := fun j => by omega
  have b2 : ∀ j w, j < 2 → ¬ J (2 + j) w = true → ¬ ep_bC J 2 j w = true := by
    intro j w hj hs hb
    have hb2 : j = 1 ∧ J (2 + 1) w = true := by simpa [ep_bC] using hb
    rw [hb2.1] at hs
    exact hs hb2.2
  have nAt : ∀ i v, J (0 + i) v = true → ep_nA J 0 i v = 1 - i := fun i v x => if_pos x
  have nAf : ∀ i v, ¬ J (0 + i) v = true → ep_nA J 0 i v = i := fun i v x => if_neg x
  have nCt : ∀ i v, J (2 + i) v = true → ep_nA J 2 i v = 1 - i := fun i v x => if_pos x
  have nCf : ∀ i v, ¬ J (2 + i) v = true → ep_nA J 2 i v = i := fun i v x => if_neg x
  have nAl : ∀ i v, i < 2 → ep_nA J 0 i v = 0 ∨ ep_nA J 0 i v = 1 := by
    intro i v hi
    unfold ep_nA
    split <;> omega
  refine ep_g5 (a := fun v => J 0 v = true) (b := fun v => J 1 v = true) (s := fun j v => J (2 + j) v = true) (ep_fr_F h 0) (ep_cp_C h 4 _)
    (fun s => ep_rk_3 J (g := 5) (by decide) (by decide) (by decide) s.1 s.2) ?_ ?_ ?_ ?_ ?_ ?_ ?_ ?_ ?_ ?_ ?_ v hv
  · intro j w hj hs hb
    show ep_rk J 5 (1 + 2 * j) w = 1
    rw [hrk, (d1 j).1, (d1 j).2, if_neg (b2 j w hj hs)]
    exact if_pos (show (decide (1 = 1) && J 1 w) = true by rw [hb]; rfl)
  · intro j w hj hs hb
    show ep_rk J 5 (1 + 2 * j) w = 0
    rw [hrk, (d1 j).1, (d1 j).2, if_neg (b2 j w hj hs)]
    exact if_neg (fun y => hb (by simpa [ep_bC] using y))
  · intro j w hj hs
    show ep_rk J 5 (0 + 2 * j) w = 0
    rw [hrk, (d0 j).1, (d0 j).2, if_neg (b2 j w hj hs)]
    exact if_neg (ep_bC0 J 0 w)
  · intro m w hm hs
    show ep_rk J 5 m w = 2
    have e : m / 2 = 1 := by omega
    rw [hrk, e]
    exact if_pos (show (decide (1 = 1) && J 3 w) = true by have : J 3 w = true := hs; rw [this]; rfl)
  · intro m w hm
    show ep_rk J 5 m w < 2
    have e : m / 2 = 0 := by omega
    rw [hrk, e, if_neg (ep_bC0 J 2 w)]
    split <;> omega
  · intro j w hj hs
    show ep_nm J 5 (0 + 2 * j) w = _ ∨ ep_nm J 5 (0 + 2 * j) w = _
    rw [hnm, (d0 j).1, (d0 j).2, nCt j w hs]
    rcases nAl 0 w (by decide) with e | e <;> rw [e]
    · exact Or.inl rfl
    · exact Or.inr rfl
  · intro j w hj hs
    show ep_nm J 5 (1 + 2 * j) w = _ ∨ ep_nm J 5 (1 + 2 * j) w = _
    rw [hnm, (d1 j).1, (d1 j).2, nCt j w hs]
    rcases nAl 1 w (by decide) with e | e <;> rw [e]
    · exact Or.inl rfl
    · exact Or.inr rfl
  · intro j w hj hs ha
    show ep_nm J 5 (0 + 2 * j) w = _
    rw [hnm, (d0 j).1, (d0 j).2, nCf j w hs, nAt 0 w ha]
  · intro j w hj hs ha
    show ep_nm J 5 (0 + 2 * j) w = _
    rw [hnm, (d0 j).1, (d0 j).2, nCf j w hs, nAf 0 w ha]
  · intro j w hj hs ha
    show ep_nm J 5 (1 + 2 * j) w = _
    rw [hnm, (d1 j).1, (d1 j).2, nCf j w hs, nAt 1 w ha]
  · intro j w hj hs ha
    show ep_nm J 5 (1 + 2 * j) w = _
    rw [hnm, (d1 j).1, (d1 j).2, nCf j w hs, nAf 1 w ha]
/-- memory and rank by the pair behind -/
theorem ep_r6_of (J : Nat → Nat → Bool) (an : Nat) : ep_r6 (ep_nF J an) (fun s => 1 + ep_pR J an s.1 s.2) (fun i v => J (2 * i + (1 - an)) v = true) (fun i v => J (2 * i + an) v = true) := by
  intro m b v hmb
  have e : 1 - m = b := by unfold ep_mb at hmb; omega
  have hn : ep_nF J an m v = if J (2 * b + an) v = true then b else m := by unfold ep_nF; rw [e]
  have hr : ep_pR J an m v = if J (2 * b + an) v = true then 4 else if J (2 * b + (1 - an)) v = true then 3 else if J (2 * m + an) v = true then 2 else if J (2 * m + (1 - an)) v = true then 1 else 0 := by
    unfold ep_pR; rw [e]
  show (_ → ep_nF J an m v = b ∧ 1 + ep_pR J an m v = 5) ∧ (_ → ep_nF J an m v = m ∧ (_ → 1 + ep_pR J an m v = 4) ∧ (_ → (_ → 1 + ep_pR J an m v = 3) ∧ (_ → (_ → 1 + ep_pR J an m v = 2) ∧ (_ → 1 + ep_pR J an m v = 1))))
  rw [hn, hr]
  refine ⟨fun x => ⟨if_pos x, by rw [if_pos x]⟩, fun x => ⟨if_neg x, fun y => by rw [if_neg x, if_pos y], fun y => ⟨fun z => by rw [if_neg x, if_neg y, if_pos z], fun z => ⟨fun q => by rw [if_neg x, if_neg y, if_neg z, if_pos q], fun q => by rw [if_neg x, if_neg y, if_neg z, if_neg q]⟩⟩⟩⟩
theorem ep_a6 {c : Nat} {ow E K : Nat → Int32} (h : ep_G c ow E K) (J : Nat → Nat → Bool) (v : Nat) (hv : v < c) :
    ep_sol (fun s => ep_rk J 6 s.1 s.2) (ep_cp c ow E 2 (ep_nm J 6)) 6 (fun _ => False) (0, v) ↔ ep_R c (ep_fr c ow E 0) (ep_fr c ow E 1) (fun s v => J s v = true) 6 v :=
  ep_g6 (rk := fun s => 1 + ep_pR J 0 s.1 s.2) (nm := ep_nF J 0) (ep_fr_F h 0) (ep_cp_C h 2 (ep_nF J 0)) (ep_r6_of J 0) (fun s => by show 1 + ep_pR J 0 s.1 s.2 ≠ 0; omega) v hv
theorem ep_a7 {c : Nat} {ow E K : Nat → Int32} (h : ep_G c ow E K) (J : Nat → Nat → Bool) (v : Nat) (hv : v < c) :
    ep_sol (fun s => ep_rk J 7 s.1 s.2) (ep_cp c ow E 2 (ep_nm J 7)) 6 (fun _ => False) (0, v) ↔ ep_R c (ep_fr c ow E 0) (ep_fr c ow E 1) (fun s v => J s v = true) 7 v := by
  have hd := ep_sol_du (fun s => ep_rk J 7 s.1 s.2) (ep_cp c ow E 2 (ep_nm J 7)) 6 (fun _ => False)
  have hk : (fun s : Nat × Nat => ep_rk J 7 s.1 s.2 + 1) = (fun s => 1 + ep_pR J 1 s.1 s.2) := funext fun s => Nat.add_comm _ _
  rw [hk, ep_sol_skip _ _ 6 _ (fun s => by show 1 + ep_pR J 1 s.1 s.2 ≠ 6; have := ep_pR_le J 1 s.1 s.2; omega)] at hd
  have h6 := ep_g6 (rk := fun s => 1 + ep_pR J 1 s.1 s.2) (nm := ep_nF J 1) (W0 := ep_not fun _ => False) (ep_fr_F h 1) (ep_cp_D h 2 (ep_nF J 1)) (ep_r6_of J 1) (fun s => by show 1 + ep_pR J 1 s.1 s.2 ≠ 0; omega) v hv
  have e : ep_not (ep_sol (fun s => ep_rk J 7 s.1 s.2) (ep_cp c ow E 2 (ep_nm J 7)) 6 (fun _ => False)) (0, v) =
      ep_sol (fun s => 1 + ep_pR J 1 s.1 s.2) (ep_du (ep_cp c ow E 2 (ep_nF J 1))) 6 (ep_not fun _ => False) (0, v) := congrFun hd (0, v)
  rw [← e] at h6
  constructor
  · exact fun x => ⟨hv, fun y => h6.2 y x⟩
  · intro x
    apply Classical.byContradiction
    intro y
    exact x.2 (h6.1 y)
theorem ep_agree {c : Nat} {ow E K : Nat → Int32} (h : ep_G c ow E K) (J : Nat → Nat → Bool) {g : Nat} (hg : g < 9) (v : Nat) (hv : v < c) :
    ep_sol (fun s => ep_rk J g s.1 s.2) (ep_cp c ow E (ep_Mg g) (ep_nm J g)) 6 (fun _ => False) (0, v) ↔ ep_R c (ep_fr c ow E 0) (ep_fr c ow E 1) (fun s v => J s v = true) g v := by
  match g, hg with
  | 0, _ => exact ep_a0 h J v hv
  | 1, _ => exact ep_a1 h J v hv
  | 2, _ => exact ep_a2 h J v hv
  | 3, _ => exact ep_a3 h J v hv
  | 4, _ => exact ep_a4 h J v hv
  | 5, _ => exact ep_a5 h J v hv
  | 6, _ => exact ep_a6 h J v hv
  | 7, _ => exact ep_a7 h J v hv
  | 8, _ => exact ep_a8 h J v hv
end
section
/-! the reference's walks -/
theorem ep_e1 {x : Int32} (hx : ∀ w, bt x w = true → w < 10) (S : Nat → Prop) : x &&& ep_I S = 0 ↔ ¬ ∃ w, bt x w = true ∧ S w := by
  rw [ep_zero]
  constructor
  · rintro h ⟨w, h1, h2⟩
    have hw := hx w h1
    refine h w (by omega) ?_
    rw [b_and, Bool.and_eq_true, ep_I_bit]
    exact ⟨h1, hw, h2⟩
  · intro h i _ hb
    rw [b_and, Bool.and_eq_true, ep_I_bit] at hb
    exact h ⟨i, hb.1, hb.2.2⟩
theorem ep_e2 {x : Int32} (hx : ∀ w, bt x w = true → w < 10) (S : Nat → Prop) : x &&& (ep_I S ^^^ (-1)) = 0 ↔ ∀ w, bt x w = true → S w := by
  rw [ep_zero]
  constructor
  · intro h w hw
    have h10 := hx w hw
    apply Classical.byContradiction
    intro hs
    refine h w (by omega) ?_
    rw [b_and, Bool.and_eq_true, ep_bnot _ (by omega), Bool.not_eq_true', ← Bool.not_eq_true, ep_I_bit]
    exact ⟨hw, fun y => hs y.2⟩
  · intro h i hi hb
    rw [b_and, Bool.and_eq_true, ep_bnot _ hi, Bool.not_eq_true', ← Bool.not_eq_true, ep_I_bit] at hb
    exact hb.2 ⟨hx i hb.1, h i hb.1⟩
theorem ep_e3 {x : Int32} (hx : ∀ w, bt x w = true → w < 10) (S : Nat → Prop) : x &&& ep_I S = x ↔ ∀ w, bt x w = true → S w := by
  constructor
  · intro h w hw
    rw [← h, b_and, Bool.and_eq_true, ep_I_bit] at hw
    exact hw.2.2
  · intro h
    apply ep_beq
    intro i _
    rw [b_and, Bool.and_eq_true, ep_I_bit]
    exact ⟨fun y => y.1, fun y => ⟨y, hx i y, h i y⟩⟩
theorem ep_nIc {a b : Nat} (h : b < a) (ha : a ≤ 40) : ¬ nI a ≤ nI b := nI_ge h (by omega)
theorem ep_sI_c {c : Nat} (hc : c ≤ 10) {P : Nat → Prop} (h : ∀ v, P v → v < c) : ep_sI P c = ep_I P :=
  ep_I_eq fun i _ => by rw [ep_sI_bit P c (by omega)]; exact ⟨fun x => ⟨by omega, x.2⟩, fun x => ⟨h i x.2, x.2⟩⟩
theorem ep_y0 {post : Int32 → Prop} {J5 : Int32 → Int32 → Prop} {x1 x2 x3 x4 : Int32} {fc ff : Int32} {ow E K gr rd : Nat → Int32} (h : J5 x3 (x4 + 1)) :
    wY_force_64 post J5 x1 x2 x3 x4 0 fc ff ow E K gr rd := br_t rfl (nm_e h)
theorem ep_y1 {post : Int32 → Prop} {J5 : Int32 → Int32 → Prop} {x1 x2 x3 x4 : Int32} {fc ff : Int32} {ow E K gr rd : Nat → Int32}
    (h : J5 (x3 ||| ((1 : Int32) <<< (x4 &&& 31))) (x4 + 1)) : wY_force_64 post J5 x1 x2 x3 x4 1 fc ff ow E K gr rd := br_f (by decide) (nm_e (nm_e h))
theorem ep_yforce {c : Nat} {ff : Int32} {ow E K gr rd : Nat → Int32} (hG : ep_G c ow E K) (p : Int32) (S : Nat → Prop) {x : Int32} (ex : x = ep_I S) {post : Int32 → Prop}
    (h : post (ep_I (ep_fr c ow E p S))) : wpY_force post (nI c, ff, ow, E, K, gr, rd) p x := by
  subst ex
  have hc := hG.1
  have key : ∀ d j, j + d = c → wY_force_5 post p (ep_I S) (nI c) ff ow E K gr rd (d + 1) (ep_sI (ep_fr c ow E p S) j) (nI j) := by
    intro d
    induction d with
    | zero =>
      intro j hj
      have e : j = c := by omega
      subst e
      refine br_t (nI_le (Nat.le_refl j) (by omega)) ?_
      rw [ep_sI_c hc (fun v x => x.1)]
      exact h
    | succ d ih =>
      intro j hj
      have ih := ih (j + 1) (by omega)
      have ec : (nI j).toNatClampNeg = j := nI_clamp (by omega)
      have hx : ∀ w, bt (E j) w = true → w < 10 := fun w hw => by have := hG.2.2.1 j (by omega) w hw; omega
      have hin : vp_in (nI j) 10 := vp_in_nI (by omega) (by omega)
      have c1 := ep_e1 hx S
      have c2 := ep_e2 hx S
      have y0 : ¬ ep_fr c ow E p S j → wY_force_64 post (wY_force_5 post p (ep_I S) (nI c) ff ow E K gr rd (d + 1)) p (ep_I S) (ep_sI (ep_fr c ow E p S) j) (nI j) 0 (nI c) ff ow E K gr rd := fun hn =>
        ep_y0 (by rw [nI_1, ← ep_sI_f hn]; exact ih)
      have y1 : ep_fr c ow E p S j → wY_force_64 post (wY_force_5 post p (ep_I S) (nI c) ff ow E K gr rd (d + 1)) p (ep_I S) (ep_sI (ep_fr c ow E p S) j) (nI j) 1 (nI c) ff ow E K gr rd := fun hn =>
        ep_y1 (by rw [nI_1, ← ep_sI_t hn]; exact ih)
      refine br_f (ep_nIc (by omega) (by omega)) ⟨hin, ?_⟩
      rw [ec]
      by_cases ho : ow j = p
      · refine br_t ho ⟨hin, ?_⟩
        by_cases he : E j &&& ep_I S = 0
        · exact br_t he (y0 fun q => q.2.elim (fun z => c1.1 he z.2) (fun z => z.1 ho))
        · refine br_f he (y1 ⟨by omega, Or.inl ⟨ho, Classical.byContradiction fun hn => he (c1.2 hn)⟩⟩)
      · refine br_f ho ⟨hin, ?_⟩
        by_cases he : E j &&& (ep_I S ^^^ (-1)) = 0
        · exact br_t he (y1 ⟨by omega, Or.inr ⟨ho, c2.1 he⟩⟩)
        · exact br_f he (y0 fun q => q.2.elim (fun z => ho z.1) (fun z => he (c2.2 z.2)))
  exact ⟨c + 1, key c 0 (by omega)⟩
theorem ep_yall {c : Nat} {ff : Int32} {ow E K gr rd : Nat → Int32} (hc : c ≤ 10) {post : Int32 → Prop} (h : post (ep_I fun v => v < c)) :
    wpY_all post (nI c, ff, ow, E, K, gr, rd) := by
  show post (((1 : Int32) <<< (nI c &&& 31)) - 1)
  rw [ep_I_all hc]
  exact h
theorem ep_rF_bd {c : Nat} (hc : c ≤ 10) {f : (Nat → Prop) → (Nat → Prop)} (hF : ep_F c f) {P T : Nat → Prop} (hP : ep_le P fun v => v < c) (X : Nat → Prop) :
    ep_le (ep_rF f P T X) fun v => v < c := fun v x => x.elim (hP v) (fun y => hF.2 _ _ y.2)
theorem ep_10 {c : Nat} (hc : c ≤ 10) {P : Nat → Prop} (h : ep_le P fun v => v < c) : ep_bd P := fun v x => Nat.lt_of_lt_of_le (h v x) hc
theorem ep_reach_al {c : Nat} {f : (Nat → Prop) → (Nat → Prop)} (hF : ep_F c f) {P T : Nat → Prop} (hP : ep_le P fun v => v < c) : ep_le (ep_reach f P T) fun v => v < c :=
  fun v x => (ep_reach_out (ep_F_mono hF) v x).elim (hP v) (fun y => hF.2 _ _ y.2)
theorem ep_stay_al {c : Nat} {f : (Nat → Prop) → (Nat → Prop)} (hF : ep_F c f) {P T : Nat → Prop} (hP : ep_le P fun v => v < c) : ep_le (ep_stay f T P) fun v => v < c :=
  fun v x => (ep_stay_out (ep_F_mono hF) v x).elim (hP v) (fun y => hF.2 _ _ y.2)
theorem ep_yreach {c : Nat} {ff : Int32} {ow E K gr rd : Nat → Int32} (hG : ep_G c ow E K) {P T : Nat → Prop} {x y : Int32} (ex : x = ep_I P) (ey : y = ep_I T)
    (hP : ep_le P fun v => v < c) {post : Int32 → Prop} (h : post (ep_I (ep_reach (ep_fr c ow E 0) P T))) : wpY_reach post (nI c, ff, ow, E, K, gr, rd) x y := by
  subst ex; subst ey
  have hF := ep_fr_F hG 0
  exact ep_up (F := ep_rF (ep_fr c ow E 0) P T) (W := fun n b x => wY_reach_5 post (ep_I P) (ep_I T) (nI c) ff ow E K gr rd n x b) (post := post)
    (ep_rF_mono (ep_F_mono hF) P T) (fun X => ep_10 hG.1 (ep_rF_bd hG.1 hF hP X)) (fun n x hp => br_t rfl hp)
    (fun n b X _ hne hW => br_f hne (ep_yforce hG 0 X rfl (nm_r (by rw [ep_I_and, ep_I_or]; rfl) hW)))
    h 10 P (ep_10 hG.1 hP) (by omega) (fun v x => Or.inl x) (fun v x => ep_reach_in (ep_F_mono hF) v (Or.inl x)) (-1) (ep_I_m1 P)
theorem ep_ystay {c : Nat} {ff : Int32} {ow E K gr rd : Nat → Int32} (hG : ep_G c ow E K) {P T : Nat → Prop} {x y : Int32} (ex : x = ep_I T) (ey : y = ep_I P)
    (hP : ep_le P fun v => v < c) {post : Int32 → Prop} (h : post (ep_I (ep_stay (ep_fr c ow E 0) T P))) : wpY_stay post (nI c, ff, ow, E, K, gr, rd) x y := by
  subst ex; subst ey
  have hF := ep_fr_F hG 0
  unfold wpY_stay
  dsimp only
  exact ep_yall hG.1 (ep_down0 (F := ep_rF (ep_fr c ow E 0) P T) (W := fun n b x => wY_stay_8 post (ep_I T) (ep_I P) (nI c) ff ow E K gr rd n x b) (post := post)
    (ep_rF_mono (ep_F_mono hF) P T) hG.1 (fun X => ep_rF_bd hG.1 hF hP X) (fun n x hp => br_t rfl hp)
    (fun n b X _ hne hW => br_f hne (ep_yforce hG 0 X rfl (nm_r (by rw [ep_I_and, ep_I_or]; rfl) hW))) h)
theorem ep_yagain {c : Nat} {ff : Int32} {ow E K gr rd : Nat → Int32} (hG : ep_G c ow E K) {a : Nat → Prop} {x : Int32} (ex : x = ep_I a)
    {post : Int32 → Prop} (h : post (ep_I (ep_again (ep_fr c ow E 0) (fun v => v < c) a))) : wpY_againAndAgain post (nI c, ff, ow, E, K, gr, rd) x := by
  subst ex
  have hF := ep_fr_F hG 0
  unfold wpY_againAndAgain
  dsimp only
  exact ep_yall hG.1 (ep_down0 (F := ep_againF (ep_fr c ow E 0) (fun v => v < c) a) (W := fun n b x => wY_againAndAgain_7 post (ep_I a) (nI c) ff ow E K gr rd n x b) (post := post)
    (ep_againF_mono (ep_F_mono hF) _ a) hG.1 (fun X => ep_reach_al hF (fun v x => hF.2 _ _ x.2)) (fun n x hp => br_t rfl hp)
    (fun n b X _ hne hW => br_f hne (ep_yforce hG 0 X rfl (ep_yall hG.1 (ep_yreach hG (ep_I_and _ _) rfl (fun v x => hF.2 _ _ x.2) hW)))) h)
theorem ep_yend {c : Nat} {ff : Int32} {ow E K gr rd : Nat → Int32} (hG : ep_G c ow E K) {a : Nat → Prop} {x : Int32} (ex : x = ep_I a)
    {post : Int32 → Prop} (h : post (ep_I (ep_end (ep_fr c ow E 0) a))) : wpY_inTheEnd post (nI c, ff, ow, E, K, gr, rd) x := by
  subst ex
  have hF := ep_fr_F hG 0
  exact ep_up0 (F := ep_endF (ep_fr c ow E 0) a) (W := fun n b x => wY_inTheEnd_4 post (ep_I a) (nI c) ff ow E K gr rd n x b) (post := post)
    (ep_endF_mono (ep_F_mono hF) a) (fun X => ep_10 hG.1 (ep_stay_al hF (fun v x => hF.2 _ _ x))) (fun n x hp => br_t rfl hp)
    (fun n b X _ hne hW => br_f hne (ep_yforce hG 0 X rfl (ep_ystay hG rfl rfl (fun v x => hF.2 _ _ x) hW))) h
theorem ep_yboth {c : Nat} {ff : Int32} {ow E K gr rd : Nat → Int32} (hG : ep_G c ow E K) {a b : Nat → Prop} {x y : Int32} (ex : x = ep_I a) (ey : y = ep_I b)
    {post : Int32 → Prop} (h : post (ep_I (ep_both (ep_fr c ow E 0) (fun v => v < c) a b))) : wpY_bothAgain post (nI c, ff, ow, E, K, gr, rd) x y := by
  subst ex; subst ey
  have hF := ep_fr_F hG 0
  unfold wpY_bothAgain
  dsimp only
  exact ep_yall hG.1 (ep_down0 (F := ep_bothF (ep_fr c ow E 0) (fun v => v < c) a b) (W := fun n b' x => wY_bothAgain_8 post (ep_I a) (ep_I b) (nI c) ff ow E K gr rd n x b') (post := post)
    (ep_bothF_mono (ep_F_mono hF) _ a b) hG.1 (fun X v x => ep_reach_al hF (fun v x => hF.2 _ _ x.2) v x.1) (fun n x hp => br_t rfl hp)
    (fun n b' X _ hne hW => br_f hne (ep_yforce hG 0 X rfl (ep_yall hG.1 (ep_yreach hG (ep_I_and _ _) rfl (fun v x => hF.2 _ _ x.2)
      (ep_yforce hG 0 X rfl (ep_yall hG.1 (ep_yreach hG (ep_I_and _ _) rfl (fun v x => hF.2 _ _ x.2) (nm_r (by rw [ep_I_and]; rfl) hW)))))))) h)
theorem ep_yspoil {c : Nat} {ff : Int32} {ow E K gr rd : Nat → Int32} (hG : ep_G c ow E K) {a b st z : Nat → Prop} {x y : Int32} (ex : x = ep_I st) (ey : y = ep_I z)
    (e0 : K 0 = ep_I a) (e1 : K 1 = ep_I b)
    {post : Int32 → Prop} (h : post (ep_I (ep_spoil (ep_fr c ow E 0) (fun v => v < c) a b st z))) : wpY_orSpoil post (nI c, ff, ow, E, K, gr, rd) x y := by
  subst ex; subst ey
  have hF := ep_fr_F hG 0
  have hst : ∀ X : Nat → Prop, ep_le (fun v => (st v ∧ ep_fr c ow E 0 z v) ∨ ep_fr c ow E 0 X v) (fun v => v < c) := fun X v x => x.elim (fun y => hF.2 _ _ y.2) (fun y => hF.2 _ _ y)
  exact ep_up0 (F := ep_spoilF (ep_fr c ow E 0) (fun v => v < c) a b st z) (W := fun n b' x => wY_orSpoil_5 post (ep_I st) (ep_I z) (nI c) ff ow E K gr rd n x b') (post := post)
    (ep_spoilF_mono (ep_F_mono hF) _ a b st z) (fun X => ep_10 hG.1 (fun v x => x.elim (ep_stay_al hF (hst X) v) (ep_stay_al hF (hst X) v))) (fun n x hp => br_t rfl hp)
    (fun n b' X _ hne hW => br_f hne (ep_yforce hG 0 z rfl (ep_yforce hG 0 X rfl (nm_r (show _ = ep_I (fun v => (st v ∧ ep_fr c ow E 0 z v) ∨ ep_fr c ow E 0 X v) by rw [ep_I_and, ep_I_or])
      (ep_yall hG.1 (ep_ystay hG (show _ = ep_I (fun v => v < c ∧ ¬ a v) by rw [e0, ep_I_diff]) rfl (hst X)
      (ep_yall hG.1 (ep_ystay hG (show _ = ep_I (fun v => v < c ∧ ¬ b v) by rw [e1, ep_I_diff]) rfl (hst X) (nm_r (by rw [ep_I_or]; rfl) hW))))))))) h
theorem ep_spoil_al {c : Nat} {f : (Nat → Prop) → (Nat → Prop)} (hF : ep_F c f) {a b st z : Nat → Prop} : ep_le (ep_spoil f (fun v => v < c) a b st z) fun v => v < c := by
  have hst : ∀ X : Nat → Prop, ep_le (fun v => (st v ∧ f z v) ∨ f X v) (fun v => v < c) := fun X v x => x.elim (fun y => hF.2 _ _ y.2) (fun y => hF.2 _ _ y)
  exact fun v x => (ep_lfp_post (ep_spoilF_mono (ep_F_mono hF) _ a b st z) v x).elim (ep_stay_al hF (hst _) v) (ep_stay_al hF (hst _) v)
theorem ep_yifb {c : Nat} {ff : Int32} {ow E K gr rd : Nat → Int32} (hG : ep_G c ow E K) {a b d e : Nat → Prop}
    (e0 : K 0 = ep_I a) (e1 : K 1 = ep_I b) (e2 : K 2 = ep_I d) (e3 : K 3 = ep_I e)
    {post : Int32 → Prop} (h : post (ep_I (ep_ifb (ep_fr c ow E 0) (fun v => v < c) a b d e))) : wpY_ifBoth post (nI c, ff, ow, E, K, gr, rd) := by
  have hF := ep_fr_F hG 0
  unfold wpY_ifBoth
  dsimp only
  exact ep_yall hG.1 (ep_down0 (F := ep_ifbF (ep_fr c ow E 0) (fun v => v < c) a b d e) (W := fun n b' x => wY_ifBoth_7 post (nI c) ff ow E K gr rd n x b') (post := post)
    (ep_ifbF_mono (ep_F_mono hF) _ a b d e) hG.1 (fun X v x => ep_spoil_al hF v x.1) (fun n x hp => br_t rfl hp)
    (fun n b' X _ hne hW => br_f hne (ep_yspoil hG e2 rfl e0 e1 (ep_yspoil hG e3 rfl e0 e1 (nm_r (by rw [ep_I_and]; rfl) hW)))) h)
theorem ep_inner_al {c : Nat} {f : (Nat → Prop) → (Nat → Prop)} (hF : ep_F c f) {g wi ri : Nat → Prop} (hr : ep_le ri fun v => v < c) (Y : Nat → Prop) : ep_le (ep_innF f g wi ri Y) fun v => v < c :=
  ep_reach_al hF (fun v x => x.elim (hr v) (fun y => hF.2 _ _ y.2))
theorem ep_yinner {c : Nat} {ff : Int32} {ow E K gr rd : Nat → Int32} (hG : ep_G c ow E K) (p : Int32) {j x y : Int32} {g wi ri : Nat → Prop} (hj : vp_in j 2)
    (eg : gr j.toNatClampNeg = ep_I g) (ex : x = ep_I wi) (ey : y = ep_I ri) (hr : ep_le ri fun v => v < c)
    {post : Int32 → Prop} (h : post (ep_I (ep_inner (ep_fr c ow E p) g wi ri))) : wpY_inner post (nI c, ff, ow, E, K, gr, rd) p j x y := by
  subst ex; subst ey
  have hF := ep_fr_F hG p
  have hm := ep_F_mono hF
  have hst : ∀ X : Nat → Prop, ep_le (fun v => ri v ∨ ((wi v ∧ g v) ∧ ep_fr c ow E p X v)) (fun v => v < c) := fun X v x => x.elim (hr v) (fun y => hF.2 _ _ y.2)
  unfold wpY_inner
  dsimp only
  exact ep_yall hG.1 (ep_down0 (F := ep_innF (ep_fr c ow E p) g wi ri) (W := fun n b' x => wY_inner_9 post p j (ep_I wi) (ep_I ri) (nI c) ff ow E K gr rd n x b') (post := post)
    (ep_innF_mono hm g wi ri) hG.1 (fun X => ep_inner_al hF hr X) (fun n x hp => br_t rfl hp)
    (fun n b' X _ hne hW => br_f hne ⟨hj, ep_yforce hG p X rfl (nm_r (show _ = ep_I (fun v => ri v ∨ ((wi v ∧ g v) ∧ ep_fr c ow E p X v)) by rw [eg, ep_I_and, ep_I_and, ep_I_or])
      (ep_up0 (F := ep_rF (ep_fr c ow E p) (fun v => ri v ∨ ((wi v ∧ g v) ∧ ep_fr c ow E p X v)) wi)
        (W := fun m b2 x => wY_inner_47 post (wY_inner_9 post p j (ep_I wi) (ep_I ri) (nI c) ff ow E K gr rd n) p j (ep_I wi) (ep_I ri) (ep_I X) (ep_I (fun v => ri v ∨ ((wi v ∧ g v) ∧ ep_fr c ow E p X v))) (nI c) ff ow E K gr rd m x b2)
        (post := fun x => wY_inner_9 post p j (ep_I wi) (ep_I ri) (nI c) ff ow E K gr rd n x (ep_I X))
        (ep_rF_mono hm _ wi) (fun Z => ep_10 hG.1 (ep_rF_bd hG.1 hF (hst X) Z)) (fun m x hp => br_t rfl hp)
        (fun m b2 Z _ hne2 hW2 => br_f hne2 (ep_yforce hG p Z rfl (nm_r (by rw [ep_I_and, ep_I_or]; rfl) hW2))) hW))⟩) h)
theorem ep_own_al {c : Nat} {f : (Nat → Prop) → (Nat → Prop)} (hF : ep_F c f) {al g r y ri : Nat → Prop} (hr : ep_le ri fun v => v < c) (X : Nat → Prop) :
    ep_le (ep_own f al g r y ri X) fun v => v < c :=
  fun v x => x.elim (fun z => z.elim (hr v) (fun q => hF.2 _ _ q.2)) (fun z => hF.2 _ _ z.2)
theorem ep_leastF_al {c : Nat} {f : (Nat → Prop) → (Nat → Prop)} (hF : ep_F c f) {al g r g' r' y ri : Nat → Prop} (hr : ep_le ri fun v => v < c) (X : Nat → Prop) :
    ep_le (ep_leastF f al g r g' r' y ri X) fun v => v < c :=
  fun v x => ep_inner_al hF (ep_own_al hF hr X) _ v (ep_gfp_post (ep_innF_mono (ep_F_mono hF) _ _ _) v x)
theorem ep_least_al {c : Nat} {f : (Nat → Prop) → (Nat → Prop)} (hF : ep_F c f) {al g r g' r' y ri : Nat → Prop} (hr : ep_le ri fun v => v < c) :
    ep_le (ep_least f al g r g' r' y ri) fun v => v < c :=
  fun v x => ep_leastF_al hF hr _ v (ep_lfp_post (ep_leastF_mono (ep_F_mono hF) al g r g' r' y ri) v x)
theorem ep_yleast {c : Nat} {ff : Int32} {ow E K gr rd : Nat → Int32} (hG : ep_G c ow E K) (p : Int32) {i x y : Int32} {g r g' r' Y ri : Nat → Prop} (hi : vp_in i 2) (hj : vp_in (1 - i) 2)
    (eg : gr i.toNatClampNeg = ep_I g) (er : rd i.toNatClampNeg = ep_I r) (eg' : gr (1 - i).toNatClampNeg = ep_I g') (er' : rd (1 - i).toNatClampNeg = ep_I r')
    (ex : x = ep_I Y) (ey : y = ep_I ri) (hr : ep_le ri fun v => v < c)
    {post : Int32 → Prop} (h : post (ep_I (ep_least (ep_fr c ow E p) (fun v => v < c) g r g' r' Y ri))) : wpY_leastOfPair post (nI c, ff, ow, E, K, gr, rd) p i x y := by
  subst ex; subst ey
  have hF := ep_fr_F hG p
  have hm := ep_F_mono hF
  unfold wpY_leastOfPair
  dsimp only
  exact ep_yall hG.1 ⟨hi, nm_r (show _ = ep_I (fun v => v < c ∧ ¬ r v) by rw [er, ep_I_diff]) ⟨hi, ep_yforce hG p Y rfl
    (nm_r (show _ = ep_I (fun v => ri v ∨ (((v < c ∧ ¬ r v) ∧ g v) ∧ ep_fr c ow E p Y v)) by rw [eg, ep_I_and, ep_I_and, ep_I_or])
      (ep_up0 (F := ep_leastF (ep_fr c ow E p) (fun v => v < c) g r g' r' Y ri)
        (W := fun n b' x => wY_leastOfPair_42 post p i (ep_I (fun v => v < c ∧ ¬ r v)) (ep_I (fun v => ri v ∨ (((v < c ∧ ¬ r v) ∧ g v) ∧ ep_fr c ow E p Y v))) (nI c) ff ow E K gr rd n x b') (post := post)
        (ep_leastF_mono hm _ g r g' r' Y ri) (fun X => ep_10 hG.1 (ep_leastF_al hF hr X)) (fun n x hp => br_t rfl hp)
        (fun n b' X _ hne hW => br_f hne (ep_yforce hG p X rfl (nm_r (show _ = ep_I (ep_own (ep_fr c ow E p) (fun v => v < c) g r Y ri X) by rw [ep_I_and, ep_I_or]; rfl)
          ⟨hj, ep_yinner hG p hj eg' (show _ = ep_I (fun v => (v < c ∧ ¬ r v) ∧ ¬ r' v) by rw [er', ep_I_diff]) rfl (ep_own_al hF hr X) hW⟩))) h))⟩⟩
theorem ep_ypair {c : Nat} {ff : Int32} {ow E K gr rd : Nat → Int32} (hG : ep_G c ow E K) (p : Int32) {i y : Int32} {g r g' r' ri : Nat → Prop} (hi : vp_in i 2) (hj : vp_in (1 - i) 2)
    (eg : gr i.toNatClampNeg = ep_I g) (er : rd i.toNatClampNeg = ep_I r) (eg' : gr (1 - i).toNatClampNeg = ep_I g') (er' : rd (1 - i).toNatClampNeg = ep_I r')
    (ey : y = ep_I ri) (hr : ep_le ri fun v => v < c)
    {post : Int32 → Prop} (h : post (ep_I (ep_pair (ep_fr c ow E p) (fun v => v < c) g r g' r' ri))) : wpY_pair post (nI c, ff, ow, E, K, gr, rd) p i y := by
  subst ey
  have hF := ep_fr_F hG p
  unfold wpY_pair
  dsimp only
  exact ep_yall hG.1 (ep_down0 (F := fun Y => ep_least (ep_fr c ow E p) (fun v => v < c) g r g' r' Y ri) (W := fun n b' x => wY_pair_9 post p i (ep_I ri) (nI c) ff ow E K gr rd n x b') (post := post)
    (ep_pairF_mono (ep_F_mono hF) _ g r g' r' ri) hG.1 (fun X => ep_least_al hF hr) (fun n x hp => br_t rfl hp)
    (fun n b' X _ hne hW => br_f hne (ep_yleast hG p hi hj eg er eg' er' rfl rfl hr hW)) h)
theorem ep_pair_al {c : Nat} {f : (Nat → Prop) → (Nat → Prop)} (hF : ep_F c f) {al g r g' r' ri : Nat → Prop} (hr : ep_le ri fun v => v < c) :
    ep_le (ep_pair f al g r g' r' ri) fun v => v < c :=
  fun v x => ep_least_al hF hr v (ep_gfp_post (ep_pairF_mono (ep_F_mono hF) al g r g' r' ri) v x)
theorem ep_yone {c : Nat} {ff : Int32} {ow E K gr rd : Nat → Int32} (hG : ep_G c ow E K) (p : Int32) {g r g' r' : Nat → Prop}
    (eg : gr 0 = ep_I g) (er : rd 0 = ep_I r) (eg' : gr 1 = ep_I g') (er' : rd 1 = ep_I r')
    {post : Int32 → Prop} (h : post (ep_I (ep_one (ep_fr c ow E p) (fun v => v < c) g r g' r'))) : wpY_onePair post (nI c, ff, ow, E, K, gr, rd) p := by
  have hF := ep_fr_F hG p
  have i0 : vp_in 0 2 := vp_in_iff.mpr (by decide)
  have i1 : vp_in 1 2 := vp_in_iff.mpr (by decide)
  have j0 : vp_in (1 - 0) 2 := vp_in_iff.mpr (by decide)
  have j1 : vp_in (1 - 1) 2 := vp_in_iff.mpr (by decide)
  have t0 : (0 : Int32).toNatClampNeg = 0 := by decide
  have t1 : (1 : Int32).toNatClampNeg = 1 := by decide
  have t2 : (1 - 0 : Int32).toNatClampNeg = 1 := by decide
  have t3 : (1 - 1 : Int32).toNatClampNeg = 0 := by decide
  have hr : ∀ X : Nat → Prop, ep_le (ep_fr c ow E p X) fun v => v < c := fun X v x => hF.2 _ _ x
  exact ep_up0 (F := ep_oneF (ep_fr c ow E p) (fun v => v < c) g r g' r') (W := fun n b' x => wY_onePair_4 post p (nI c) ff ow E K gr rd n x b') (post := post)
    (ep_oneF_mono (ep_F_mono hF) _ g r g' r') (fun X => ep_10 hG.1 (fun v x => x.elim (ep_pair_al hF (hr X) v) (ep_pair_al hF (hr X) v))) (fun n x hp => br_t rfl hp)
    (fun n b' X _ hne hW => br_f hne (ep_yforce hG p X rfl
      (ep_ypair hG p i0 j0 (by rw [t0]; exact eg) (by rw [t0]; exact er) (by rw [t2]; exact eg') (by rw [t2]; exact er') rfl (hr X)
      (ep_ypair hG p i1 j1 (by rw [t1]; exact eg') (by rw [t1]; exact er') (by rw [t3]; exact eg) (by rw [t3]; exact er) rfl (hr X) (nm_r (by rw [ep_I_or]; rfl) hW))))) h
end
section
/-! the reference's answer for a goal -/
theorem ep_us {f : Nat → Int32} {k : Nat} {x : Int32} : upd f k x k = x := if_pos rfl
theorem ep_un {f : Nat → Int32} {k j : Nat} {x : Int32} (h : j ≠ k) : upd f k x j = f j := if_neg h
theorem ep_p2 {σ : Type} {post : Int32 → σ → Prop} {x y : Int32} {u : σ} (e : x = y) (h : post y u) : post x u := by rw [e]; exact h
theorem ep_cl0 : (0 : Int32).toNatClampNeg = 0 := by decide
theorem ep_cl1 : (1 : Int32).toNatClampNeg = 1 := by decide
theorem ep_cl2 : (2 : Int32).toNatClampNeg = 2 := by decide
theorem ep_cl3 : (3 : Int32).toNatClampNeg = 3 := by decide
theorem ep_K {c : Nat} {ow E K : Nat → Int32} (hG : ep_G c ow E K) {i : Nat} (hi : i < 4) : K i = ep_I (fun v => bt (K i) v = true) :=
  ep_I_of hG.1 (hG.2.2.2 i hi)
theorem ep_ysolve {c : Nat} {ff : Int32} {ow E K gr rd : Nat → Int32} (hG : ep_G c ow E K) {g : Nat} (hg : g < 9) {post : Int32 → SY → Prop}
    (h : ∀ ff' gr' rd', post (ep_I (ep_R c (ep_fr c ow E 0) (ep_fr c ow E 1) (fun s v => bt (K s) v = true) g)) (nI c, ff', ow, E, K, gr', rd')) :
    wpY_solve post (nI c, ff, ow, E, K, gr, rd) (nI g) := by
  have hc := hG.1
  have hF := ep_fr_F hG 0
  have k0 := ep_K hG (i := 0) (by decide)
  have k1 := ep_K hG (i := 1) (by decide)
  have k2 := ep_K hG (i := 2) (by decide)
  have k3 := ep_K hG (i := 3) (by decide)
  have hFO : ep_le (ep_forced (ep_fr c ow E 0) fun v => v < c) fun v => v < c := ep_reach_al hF (fun v x => x.elim)
  have hSA : ep_le (ep_safe (ep_fr c ow E 0) fun v => v < c) fun v => v < c := ep_stay_al hF (fun v x => x.elim)
  have i0 : vp_in 0 4 := vp_in_iff.mpr (by decide)
  have i1 : vp_in 1 4 := vp_in_iff.mpr (by decide)
  have i2 : vp_in 2 4 := vp_in_iff.mpr (by decide)
  have i3 : vp_in 3 4 := vp_in_iff.mpr (by decide)
  have g6 : upd (upd gr 0 (K (1 : Int32).toNatClampNeg)) 1 (K (3 : Int32).toNatClampNeg) 0 = ep_I (fun v => bt (K 1) v = true) ∧ upd (upd rd 0 (K (0 : Int32).toNatClampNeg)) 1 (K (2 : Int32).toNatClampNeg) 0 = ep_I (fun v => bt (K 0) v = true) ∧
      upd (upd gr 0 (K (1 : Int32).toNatClampNeg)) 1 (K (3 : Int32).toNatClampNeg) 1 = ep_I (fun v => bt (K 3) v = true) ∧ upd (upd rd 0 (K (0 : Int32).toNatClampNeg)) 1 (K (2 : Int32).toNatClampNeg) 1 = ep_I (fun v => bt (K 2) v = true) := by
    rw [ep_un (by decide), ep_us, ep_un (by decide), ep_us, ep_us, ep_us, ep_cl0, ep_cl1, ep_cl2, ep_cl3]
    exact ⟨k1, k0, k3, k2⟩
  have g7 : upd (upd gr 0 (K (0 : Int32).toNatClampNeg)) 1 (K (2 : Int32).toNatClampNeg) 0 = ep_I (fun v => bt (K 0) v = true) ∧ upd (upd rd 0 (K (1 : Int32).toNatClampNeg)) 1 (K (3 : Int32).toNatClampNeg) 0 = ep_I (fun v => bt (K 1) v = true) ∧
      upd (upd gr 0 (K (0 : Int32).toNatClampNeg)) 1 (K (2 : Int32).toNatClampNeg) 1 = ep_I (fun v => bt (K 2) v = true) ∧ upd (upd rd 0 (K (1 : Int32).toNatClampNeg)) 1 (K (3 : Int32).toNatClampNeg) 1 = ep_I (fun v => bt (K 3) v = true) := by
    rw [ep_un (by decide), ep_us, ep_un (by decide), ep_us, ep_us, ep_us, ep_cl0, ep_cl1, ep_cl2, ep_cl3]
    exact ⟨k0, k1, k2, k3⟩
  unfold wpY_solve
  dsimp only
  refine ep_yall hc ?_
  refine ep_yreach hG ep_I_0.symm rfl (fun v x => x.elim) ?_
  refine nm_r k0 ?_
  refine ep_yall hc ?_
  refine ep_ystay hG rfl ep_I_0.symm (fun v x => x.elim) ?_
  match g, hg, h with
  | 0, _, h => exact br_f (by decide) (br_t (by decide) (ep_yall hc (ep_yreach hG (P := fun v => (bt (K 0) v = true ∧ ep_safe (ep_fr c ow E 0) (fun v => v < c) v) ∨ ep_forced (ep_fr c ow E 0) (fun v => v < c) v)
      (by rw [ep_I_and, ep_I_or]; rfl) rfl (fun v x => x.elim (fun y => hSA v y.2) (hFO v)) (h _ _ _))))
  | 1, _, h => exact br_f (by decide) (br_f (by decide) (ep_ystay hG rfl rfl hFO (h _ _ _)))
  | 2, _, h => exact br_t (by decide) (br_f (by decide) (br_t (by decide) (ep_yagain hG rfl (h _ _ _))))
  | 3, _, h => exact br_t (by decide) (br_f (by decide) (br_f (by decide) (ep_yend hG rfl (h _ _ _))))
  | 4, _, h => exact br_t (by decide) (br_t (by decide) (br_f (by decide) (br_t (by decide) (ep_yboth hG rfl k1 (h _ _ _)))))
  | 5, _, h => exact br_t (by decide) (br_t (by decide) (br_f (by decide) (br_f (by decide) (ep_yifb hG k0 k1 k2 k3 (h _ _ _)))))
  | 6, _, h => exact br_t (by decide) (br_t (by decide) (br_t (by decide) (br_t (by decide) ⟨i1, nm_e ⟨i0, nm_e ⟨i3, nm_e ⟨i2, nm_e (ep_yone hG 0 g6.1 g6.2.1 g6.2.2.1 g6.2.2.2 (h _ _ _))⟩⟩⟩⟩)))
  | 7, _, h => exact br_t (by decide) (br_t (by decide) (br_t (by decide) (br_f (by decide) (br_t (by decide) ⟨i0, nm_e ⟨i1, nm_e ⟨i2, nm_e ⟨i3, nm_e (ep_yall hc (ep_yone hG 1 g7.1 g7.2.1 g7.2.2.1 g7.2.2.2 (ep_p2 (ep_I_diff _ _) (h _ _ _))))⟩⟩⟩⟩))))
  | 8, _, h => exact br_t (by decide) (br_t (by decide) (br_t (by decide) (br_f (by decide) (br_f (by decide) (ep_yreach hG (P := fun v => (bt (K 1) v = true ∧ ep_safe (ep_fr c ow E 0) (fun v => v < c) v) ∨ ep_forced (ep_fr c ow E 0) (fun v => v < c) v)
      (by rw [k1, ep_I_and, ep_I_or, ← k1]; rfl) rfl (fun v x => x.elim (fun y => hSA v y.2) (hFO v)) (h _ _ _))))))
end
section
/-! the class's small methods -/
theorem ep_nI1 {m : Nat} (h : m < 2 ^ 31) : nI m = 1 ↔ m = 1 := nI_eq (b := 1) h (by decide)
theorem ep_nI0 {m : Nat} (h : m < 2 ^ 31) : nI m = 0 ↔ m = 0 := nI_eq (b := 0) h (by decide)
theorem ep_1m : ∀ m, m < 2 → (1 : Int32) - nI m = nI (1 - m) := by decide +kernel
theorem ep_m2 : ∀ m, m < 4 → nI m &&& 1 = nI (m % 2) := by decide +kernel
theorem ep_d2 : ∀ m, m < 4 → nI m >>> ((1 : Int32) &&& 31) = nI (m / 2) := by decide +kernel
theorem ep_2ma : ∀ m, m < 2 → ∀ a, a < 2 → (2 * nI m) + nI a = nI (2 * m + a) := by decide +kernel
theorem ep_a2b : ∀ m, m < 2 → ∀ a, a < 2 → nI m + (2 * nI a) = nI (m + 2 * a) := by decide +kernel
def ep_J (K : Nat → Int32) : Nat → Nat → Bool := fun s v => bt (K s) v
theorem ep_xin {fc fm : Int32} {ow E K ma : Nat → Int32} {sr : Nat → Int64} {i w : Nat} {s : Int32} (es : s = nI i) (hi : i < 4) (hw : w < 10) {post : Int32 → Prop}
    (h1 : ep_J K i w = true → post 1) (h0 : ¬ ep_J K i w = true → post 0) : wpX_isIn post (fc, fm, ow, E, K, ma, sr) s (nI w) := by
  subst es
  refine ⟨vp_in_nI hi (by omega), ?_⟩
  rw [nI_clamp (by omega), ep_bit1 _ (by omega)]
  by_cases hb : bt (K i) w = true
  · rw [if_pos hb]; exact br_t rfl (h1 hb)
  · rw [if_neg hb]; exact br_f (by decide) (h0 hb)
theorem ep_xnA {fc fm : Int32} {ow E K ma : Nat → Int32} {sr : Nat → Int64} {fi m w : Nat} {x y : Int32} (ex : x = nI fi) (ey : y = nI m) (hm : m < 2) (hi : fi + m < 4) (hw : w < 10) {post : Int32 → Prop}
    (h : post (nI (ep_nA (ep_J K) fi m w))) : wpX_nextAwaited post (fc, fm, ow, E, K, ma, sr) x y (nI w) := by
  subst ex; subst ey
  unfold wpX_nextAwaited
  dsimp only
  refine ep_xin (nI_add fi m) hi hw (fun hb => ?_) (fun hb => ?_)
  · refine br_f (by decide) ?_
    rw [ep_1m m hm]
    unfold ep_nA at h
    rw [if_pos hb] at h
    exact h
  · refine br_t rfl ?_
    unfold ep_nA at h
    rw [if_neg hb] at h
    exact h
theorem ep_xbC {fc fm : Int32} {ow E K ma : Nat → Int32} {sr : Nat → Int64} {fi m w : Nat} {x y : Int32} (ex : x = nI fi) (ey : y = nI m) (hm : m < 2) (hi : fi + 1 < 4) (hw : w < 10) {post : Int32 → Prop}
    (h1 : ep_bC (ep_J K) fi m w = true → post 1) (h0 : ¬ ep_bC (ep_J K) fi m w = true → post 0) : wpX_bothCame post (fc, fm, ow, E, K, ma, sr) x y (nI w) := by
  subst ex; subst ey
  by_cases e : m = 1
  · subst e
    refine br_t rfl (ep_xin (nI_1 fi) hi hw (fun hb => br_f (by decide) (h1 ?_)) (fun hb => br_t rfl (h0 ?_)))
    · show (decide (1 = 1) && ep_J K (fi + 1) w) = true
      rw [hb]; rfl
    · intro hx
      have hx : (decide (1 = 1) && ep_J K (fi + 1) w) = true := hx
      rw [Bool.and_eq_true] at hx
      exact hb hx.2
  · refine br_f (fun hx => e ((ep_nI1 (by omega)).1 hx)) (h0 fun hx => ?_)
    have hx : (decide (m = 1) && ep_J K (fi + 1) w) = true := hx
    rw [Bool.and_eq_true, decide_eq_true_iff] at hx
    exact e hx.1
theorem ep_xnF {fc fm : Int32} {ow E K ma : Nat → Int32} {sr : Nat → Int64} {an m w : Nat} {x : Int32} (ex : x = nI an) (ha : an < 2) (hm : m < 2) (hw : w < 10) {post : Int32 → Prop}
    (h : post (nI (ep_nF (ep_J K) an m w))) : wpX_nextFront post (fc, fm, ow, E, K, ma, sr) x (nI m) (nI w) := by
  subst ex
  unfold ep_nF at h
  refine nm_r (ep_1m m hm) (ep_xin (ep_2ma (1 - m) (by omega) an ha) (by omega) hw (fun hb => br_f (by decide) ?_) (fun hb => br_t rfl ?_))
  · rw [if_pos hb] at h; exact h
  · rw [if_neg hb] at h; exact h
theorem ep_xpR {fc fm : Int32} {ow E K ma : Nat → Int32} {sr : Nat → Int64} {an m w : Nat} {x : Int32} (ex : x = nI an) (ha : an < 2) (hm : m < 2) (hw : w < 10) {post : Int32 → Prop}
    (h : post (nI (ep_pR (ep_J K) an m w))) : wpX_pairsRank post (fc, fm, ow, E, K, ma, sr) x (nI m) (nI w) := by
  subst ex
  unfold ep_pR at h
  refine nm_r (ep_1m m hm) (nm_r (ep_1m an ha) (ep_xin (ep_2ma (1 - m) (by omega) an ha) (by omega) hw (fun hb => br_f (by decide) ?_) (fun hb => br_t rfl
    (ep_xin (ep_2ma (1 - m) (by omega) (1 - an) (by omega)) (by omega) hw (fun hb2 => br_f (by decide) ?_) (fun hb2 => br_t rfl
    (ep_xin (ep_2ma m hm an ha) (by omega) hw (fun hb3 => br_f (by decide) ?_) (fun hb3 => br_t rfl
    (ep_xin (ep_2ma m hm (1 - an) (by omega)) (by omega) hw (fun hb4 => br_f (by decide) ?_) (fun hb4 => br_t rfl ?_)))))))))
  · rw [if_pos hb] at h; exact h
  · rw [if_neg hb, if_pos hb2] at h; exact h
  · rw [if_neg hb, if_neg hb2, if_pos hb3] at h; exact h
  · rw [if_neg hb, if_neg hb2, if_neg hb3, if_pos hb4] at h; exact h
  · rw [if_neg hb, if_neg hb2, if_neg hb3, if_neg hb4] at h; exact h
theorem ep_xnU {fc fm : Int32} {ow E K ma : Nat → Int32} {sr : Nat → Int64} {m w : Nat} (hm : m < 4) (hw : w < 10) {post : Int32 → Prop}
    (h : post (nI (ep_nU (ep_J K) m w))) : wpX_nextUntil post (fc, fm, ow, E, K, ma, sr) (nI m) (nI w) := by
  unfold ep_nU at h
  by_cases e : m = 0
  · subst e
    rw [if_neg (by decide)] at h
    refine br_t rfl (ep_xin (i := 1) rfl (by decide) hw (fun hb => br_f (by decide) ?_) (fun hb => br_t rfl (ep_xin (i := 0) rfl (by decide) hw (fun hb2 => br_f (by decide) ?_) (fun hb2 => br_t rfl ?_))))
    · rw [if_pos hb] at h; exact h
    · rw [if_neg hb, if_pos hb2] at h; exact h
    · rw [if_neg hb, if_neg hb2] at h; exact h
  · rw [if_pos e] at h
    exact br_f (fun hx => e ((ep_nI0 (by omega)).1 hx)) h
theorem ep_xrank {fc fm : Int32} {ow E K ma : Nat → Int32} {sr : Nat → Int64} {g m w : Nat} (hg : g < 9) (hm : m < ep_Mg g) (hw : w < 10) {post : Int32 → Prop}
    (h : post (nI (ep_rk (ep_J K) g m w))) : wpX_rankOf post (fc, fm, ow, E, K, ma, sr) (nI g) (nI m) (nI w) := by
  match g, hg, hm, h with
  | 0, _, hm, h =>
    have hm : m < 2 := hm
    have h : post (nI (if m = 1 ∨ ep_J K 0 w = true then 0 else 1)) := h
    refine br_f (by decide) (br_f (by decide) (br_t (by decide) ?_))
    by_cases e : m = 1
    · subst e; rw [if_pos (Or.inl rfl)] at h; exact br_t rfl h
    · refine br_f (fun hx => e ((ep_nI1 (by omega)).1 hx)) (ep_xin (i := 0) rfl (by decide) hw (fun hb => br_f (by decide) ?_) (fun hb => br_t rfl ?_))
      · rw [if_pos (Or.inr hb)] at h; exact h
      · rw [if_neg (fun y => y.elim e hb)] at h; exact h
  | 1, _, hm, h =>
    have hm : m < 2 := hm
    have h : post (nI (if m = 1 ∨ ¬ ep_J K 0 w = true then 1 else 0)) := h
    refine br_f (by decide) (br_f (by decide) (br_f (by decide) (br_t (by decide) ?_)))
    by_cases e : m = 1
    · subst e; rw [if_pos (Or.inl rfl)] at h; exact br_t rfl h
    · refine br_f (fun hx => e ((ep_nI1 (by omega)).1 hx)) (ep_xin (i := 0) rfl (by decide) hw (fun hb => br_f (by decide) ?_) (fun hb => br_t rfl ?_))
      · rw [if_neg (fun y => y.elim e (fun z => z hb))] at h; exact h
      · rw [if_pos (Or.inr hb)] at h; exact h
  | 2, _, hm, h =>
    have h : post (nI (if ep_J K 0 w = true then 2 else 1)) := h
    refine br_f (by decide) (br_f (by decide) (br_f (by decide) (br_f (by decide) (br_t (by decide) (ep_xin (i := 0) rfl (by decide) hw (fun hb => br_f (by decide) ?_) (fun hb => br_t rfl ?_))))))
    · rw [if_pos hb] at h; exact h
    · rw [if_neg hb] at h; exact h
  | 3, _, hm, h =>
    have h : post (nI (if ep_J K 0 w = true then 0 else 1)) := h
    refine br_f (by decide) (br_f (by decide) (br_f (by decide) (br_f (by decide) (br_f (by decide) (br_t (by decide) (ep_xin (i := 0) rfl (by decide) hw (fun hb => br_f (by decide) ?_) (fun hb => br_t rfl ?_)))))))
    · rw [if_pos hb] at h; exact h
    · rw [if_neg hb] at h; exact h
  | 4, _, hm, h =>
    have hm : m < 2 := hm
    have h : post (nI (if ep_bC (ep_J K) 0 m w = true then 2 else 1)) := h
    refine br_f (by decide) (br_f (by decide) (br_f (by decide) (br_f (by decide) (br_f (by decide) (br_f (by decide) (br_t (by decide) (ep_xbC (fi := 0) rfl rfl hm (by decide) hw (fun hb => br_f (by decide) ?_) (fun hb => br_t rfl ?_))))))))
    · rw [if_pos hb] at h; exact h
    · rw [if_neg hb] at h; exact h
  | 5, _, hm, h =>
    have hm : m < 4 := hm
    have h : post (nI (if ep_bC (ep_J K) 2 (m / 2) w = true then 2 else if ep_bC (ep_J K) 0 (m % 2) w = true then 1 else 0)) := h
    refine br_f (by decide) (br_f (by decide) (br_f (by decide) (br_f (by decide) (br_f (by decide) (br_f (by decide) (br_f (by decide) (br_t (by decide)
      (ep_xbC (fi := 2) rfl (ep_d2 m hm) (by omega) (by decide) hw (fun hb => br_f (by decide) ?_) (fun hb => br_t rfl
      (ep_xbC (fi := 0) rfl (ep_m2 m hm) (by omega) (by decide) hw (fun hb2 => br_f (by decide) ?_) (fun hb2 => br_t rfl ?_)))))))))))
    · rw [if_pos hb] at h; exact h
    · rw [if_neg hb, if_pos hb2] at h; exact h
    · rw [if_neg hb, if_neg hb2] at h; exact h
  | 6, _, hm, h =>
    have hm : m < 2 := hm
    have h : post (nI (1 + ep_pR (ep_J K) 0 m w)) := h
    refine br_f (by decide) (br_f (by decide) (br_f (by decide) (br_f (by decide) (br_f (by decide) (br_f (by decide) (br_f (by decide) (br_f (by decide) (br_t (by decide) (ep_xpR (an := 0) rfl (by decide) hm hw ?_)))))))))
    have e : (1 : Int32) + nI (ep_pR (ep_J K) 0 m w) = nI (1 + ep_pR (ep_J K) 0 m w) := nI_add 1 _
    rw [e]; exact h
  | 7, _, hm, h =>
    have hm : m < 2 := hm
    exact br_f (by decide) (br_f (by decide) (br_f (by decide) (br_f (by decide) (br_f (by decide) (br_f (by decide) (br_f (by decide) (br_f (by decide) (br_f (by decide) (br_t (by decide) (ep_xpR (an := 1) rfl (by decide) hm hw h))))))))))
  | 8, _, hm, h =>
    have hm : m < 3 := hm
    have h : post (nI (if ep_nU (ep_J K) m w = 1 then 0 else 1)) := h
    refine br_f (by decide) (br_t (by decide) (ep_xnU (by omega) hw ?_))
    have hl : ep_nU (ep_J K) m w < 2 ^ 31 := by
      unfold ep_nU
      split
      · omega
      · split
        · omega
        · split <;> omega
    by_cases e : ep_nU (ep_J K) m w = 1
    · rw [if_pos e] at h; exact br_t ((ep_nI1 hl).2 e) h
    · rw [if_neg e] at h; exact br_f (fun hx => e ((ep_nI1 hl).1 hx)) h
theorem ep_nA_2 (J : Nat → Nat → Bool) (fi : Nat) {m : Nat} (hm : m < 2) (w : Nat) : ep_nA J fi m w < 2 := by
  unfold ep_nA; split <;> omega
theorem ep_xnext {fc fm : Int32} {ow E K ma : Nat → Int32} {sr : Nat → Int64} {g m w : Nat} (hg : g < 9) (hm : m < ep_Mg g) (hw : w < 10) {post : Int32 → Prop}
    (h : post (nI (ep_nm (ep_J K) g m w))) : wpX_nextMemory post (fc, fm, ow, E, K, ma, sr) (nI g) (nI m) (nI w) := by
  match g, hg, hm, h with
  | 0, _, hm, h =>
    have hm : m < 2 := hm
    have h : post (nI (if m = 1 ∨ ep_J K 0 w = true then 1 else 0)) := h
    refine br_f (by decide) (br_f (by decide) (br_t (by decide) ?_))
    by_cases e : m = 1
    · subst e; rw [if_pos (Or.inl rfl)] at h; exact br_t rfl h
    · refine br_f (fun hx => e ((ep_nI1 (by omega)).1 hx)) (ep_xin (i := 0) rfl (by decide) hw (fun hb => br_f (by decide) ?_) (fun hb => br_t rfl ?_))
      · rw [if_pos (Or.inr hb)] at h; exact h
      · rw [if_neg (fun y => y.elim e hb)] at h; exact h
  | 1, _, hm, h =>
    have hm : m < 2 := hm
    have h : post (nI (if m = 1 ∨ ¬ ep_J K 0 w = true then 1 else 0)) := h
    refine br_f (by decide) (br_f (by decide) (br_f (by decide) (br_t (by decide) ?_)))
    by_cases e : m = 1
    · subst e; rw [if_pos (Or.inl rfl)] at h; exact br_t rfl h
    · refine br_f (fun hx => e ((ep_nI1 (by omega)).1 hx)) (ep_xin (i := 0) rfl (by decide) hw (fun hb => br_f (by decide) ?_) (fun hb => br_t rfl ?_))
      · rw [if_neg (fun y => y.elim e (fun z => z hb))] at h; exact h
      · rw [if_pos (Or.inr hb)] at h; exact h
  | 2, _, hm, h => exact br_f (by decide) (br_f (by decide) (br_f (by decide) (br_f (by decide) (br_t (by decide) h))))
  | 3, _, hm, h => exact br_f (by decide) (br_f (by decide) (br_f (by decide) (br_f (by decide) (br_f (by decide) (br_t (by decide) h)))))
  | 4, _, hm, h => exact br_f (by decide) (br_f (by decide) (br_f (by decide) (br_f (by decide) (br_f (by decide) (br_f (by decide) (br_t (by decide) (ep_xnA (fi := 0) rfl rfl hm (by have hm : m < 2 := hm; omega) hw h)))))))
  | 5, _, hm, h =>
    have hm : m < 4 := hm
    refine br_f (by decide) (br_f (by decide) (br_f (by decide) (br_f (by decide) (br_f (by decide) (br_f (by decide) (br_f (by decide) (br_t (by decide)
      (ep_xnA (fi := 0) rfl (ep_m2 m hm) (by omega) (by omega) hw (ep_xnA (fi := 2) rfl (ep_d2 m hm) (by omega) (by omega) hw ?_)))))))))
    rw [ep_a2b _ (ep_nA_2 _ _ (by omega) _) _ (ep_nA_2 _ _ (by omega) _)]
    exact h
  | 6, _, hm, h => exact br_f (by decide) (br_f (by decide) (br_f (by decide) (br_f (by decide) (br_f (by decide) (br_f (by decide) (br_f (by decide) (br_f (by decide) (br_t (by decide) (ep_xnF (an := 0) rfl (by decide) hm hw h)))))))))
  | 7, _, hm, h => exact br_f (by decide) (br_f (by decide) (br_f (by decide) (br_f (by decide) (br_f (by decide) (br_f (by decide) (br_f (by decide) (br_f (by decide) (br_f (by decide) (br_t (by decide) (ep_xnF (an := 1) rfl (by decide) hm hw h))))))))))
  | 8, _, hm, h => exact br_f (by decide) (br_f (by decide) (br_f (by decide) (br_f (by decide) (br_f (by decide) (br_f (by decide) (br_f (by decide) (br_f (by decide) (br_f (by decide) (br_f (by decide) (br_t (by decide) (ep_xnU (by have hm : m < 3 := hm; omega) hw h)))))))))))
theorem ep_xmem {u : SX} {g : Nat} (hg : g < 9) {post : Int32 → Prop} (h : post (nI (ep_Mg g))) : wpX_memoriesOf post u (nI g) := by
  match g, hg, h with
  | 0, _, h => exact br_t (by decide) h
  | 1, _, h => exact br_t (by decide) h
  | 2, _, h => exact br_f (by decide) (br_f (by decide) (br_t (by decide) h))
  | 3, _, h => exact br_f (by decide) (br_f (by decide) (br_f (by decide) (br_t (by decide) h)))
  | 4, _, h => exact br_f (by decide) (br_f (by decide) (br_f (by decide) (br_f (by decide) (br_t (by decide) h))))
  | 5, _, h => exact br_f (by decide) (br_f (by decide) (br_f (by decide) (br_f (by decide) (br_f (by decide) (br_t (by decide) h)))))
  | 6, _, h => exact br_f (by decide) (br_f (by decide) (br_f (by decide) (br_f (by decide) (br_f (by decide) (br_f (by decide) (br_t (by decide) h))))))
  | 7, _, h => exact br_f (by decide) (br_f (by decide) (br_f (by decide) (br_f (by decide) (br_f (by decide) (br_f (by decide) (br_f (by decide) (br_t (by decide) h)))))))
  | 8, _, h => exact br_f (by decide) (br_f (by decide) (br_f (by decide) (br_f (by decide) (br_f (by decide) (br_f (by decide) (br_f (by decide) (br_f (by decide) (br_t (by decide) h))))))))
/-- whether player 0 forces the target, one move ahead -/
theorem ep_xcan {c : Nat} {fm : Int32} {ow E K ma : Nat → Int32} {sr : Nat → Int64} (hG : ep_G c ow E K) {v : Nat} (hv : v < c) {S : Nat → Prop} {y : Int32} (ey : y = ep_I S) {post : Int32 → Prop}
    (h1 : ep_fr c ow E 0 S v → post 1) (h0 : ¬ ep_fr c ow E 0 S v → post 0) : wpX_canForce post (nI c, fm, ow, E, K, ma, sr) (nI v) y := by
  subst ey
  have hc := hG.1
  have ec : (nI v).toNatClampNeg = v := nI_clamp (by omega)
  have hx : ∀ w, bt (E v) w = true → w < 10 := fun w hw => by have := hG.2.2.1 v (by omega) w hw; omega
  have hin : vp_in (nI v) 10 := vp_in_nI (by omega) (by omega)
  have c1 := ep_e1 hx S
  have c3 := ep_e3 hx S
  refine ⟨hin, nm_e ⟨hin, ?_⟩⟩
  rw [ec]
  by_cases ho : ow v = 0
  · refine br_t ho ?_
    by_cases he : E v &&& ep_I S = 0
    · exact br_t he (h0 fun q => q.2.elim (fun z => c1.1 he z.2) (fun z => z.1 ho))
    · exact br_f he (h1 ⟨hv, Or.inl ⟨ho, Classical.byContradiction fun hn => he (c1.2 hn)⟩⟩)
  · refine br_f ho ⟨hin, ?_⟩
    by_cases he : E v &&& ep_I S = E v
    · exact br_t he (h1 ⟨hv, Or.inr ⟨ho, c3.1 he⟩⟩)
    · exact br_f he (h0 fun q => q.2.elim (fun z => ho z.1) (fun z => he (c3.2 z.2)))
theorem ep_xforce {c : Nat} {fm : Int32} {ow E K ma : Nat → Int32} {sr : Nat → Int64} (hG : ep_G c ow E K) {S : Nat → Prop} {x : Int32} (ex : x = ep_I S) {post : Int32 → Prop}
    (h : post (ep_I (ep_fr c ow E 0 S))) : wpX_positionsForcing post (nI c, fm, ow, E, K, ma, sr) x := by
  subst ex
  have hc := hG.1
  have key : ∀ d j, j + d = c → wX_positionsForcing_4 post (ep_I S) (nI c) fm ow E K ma sr (d + 1) (ep_sI (ep_fr c ow E 0 S) j) (nI j) := by
    intro d
    induction d with
    | zero =>
      intro j hj
      have e : j = c := by omega
      subst e
      refine br_t (nI_le (Nat.le_refl j) (by omega)) ?_
      rw [ep_sI_c hc (fun v x => x.1)]
      exact h
    | succ d ih =>
      intro j hj
      have ih := ih (j + 1) (by omega)
      refine br_f (ep_nIc (by omega) (by omega)) (ep_xcan hG (by omega) rfl (fun hf => br_f (by decide) (nm_r (ep_sI_t hf).symm (nm_r (nI_1 j) ih))) (fun hf => br_t rfl (nm_r (nI_1 j) ?_)))
      rw [← ep_sI_f hf]
      exact ih
  exact ⟨c + 1, key c 0 (by omega)⟩
end
section
/-! the class's laying out and settling -/
theorem ep_m10 : ∀ m, m < 4 → ∀ j, j < 10 → (nI m * 10) + nI j = nI (m * 10 + j) := by decide +kernel
theorem ep_m10' : ∀ m, m < 4 → nI m * 10 = nI (m * 10) := by decide +kernel
theorem ep_r2 : ∀ l, l < 6 → nI l - nI l / 2 * 2 = nI (l % 2) := by decide +kernel
def ep_done (c m j : Nat) : Nat × Nat → Prop := fun s => (s.1 < m ∧ s.2 < c) ∨ (s.1 = m ∧ s.2 < j)
theorem ep_done_next (c m : Nat) : ep_done c m c = ep_done c (m + 1) 0 := by
  funext s
  refine propext ?_
  show (s.1 < m ∧ s.2 < c) ∨ (s.1 = m ∧ s.2 < c) ↔ (s.1 < m + 1 ∧ s.2 < c) ∨ (s.1 = m + 1 ∧ s.2 < 0)
  omega
theorem ep_done_0 (c : Nat) : ep_done c 0 0 = fun _ => False := by
  funext s
  refine propext ?_
  show (s.1 < 0 ∧ s.2 < c) ∨ (s.1 = 0 ∧ s.2 < 0) ↔ False
  exact ⟨fun x => x.elim (fun y => Nat.not_lt_zero _ y.1) (fun y => Nat.not_lt_zero _ y.2), fun x => x.elim⟩
theorem ep_done_M (M c : Nat) : ep_done c M 0 = ep_dom M c := by
  funext s
  refine propext ?_
  show (s.1 < M ∧ s.2 < c) ∨ (s.1 = M ∧ s.2 < 0) ↔ s.1 < M ∧ s.2 < c
  omega
theorem ep_done_s (c m j : Nat) (s : Nat × Nat) : ep_done c m (j + 1) s ↔ ep_done c m j s ∨ (s.1 = m ∧ s.2 = j) := by
  show (s.1 < m ∧ s.2 < c) ∨ (s.1 = m ∧ s.2 < j + 1) ↔ ((s.1 < m ∧ s.2 < c) ∨ (s.1 = m ∧ s.2 < j)) ∨ (s.1 = m ∧ s.2 = j)
  omega
/-- one state more -/
theorem ep_L_add (P : Nat × Nat → Prop) {c m j : Nat} (hm : m < 4) (hj : j < 10) (hp : P (m, j)) :
    ep_L (ep_st fun s => ep_done c m j s ∧ P s) ||| ((1 : Int64) <<< ((nI (m * 10 + j)).toInt64 &&& 63)) = ep_L (ep_st fun s => ep_done c m (j + 1) s ∧ P s) := by
  rw [ep_L_one _ (by omega)]
  apply ep_L_ext
  intro i hi
  show (ep_done c m j (i / 10, i % 10) ∧ P (i / 10, i % 10)) ∨ i = m * 10 + j ↔ ep_done c m (j + 1) (i / 10, i % 10) ∧ P (i / 10, i % 10)
  rw [ep_done_s]
  constructor
  · rintro (h | h)
    · exact ⟨Or.inl h.1, h.2⟩
    · have e1 : i / 10 = m := by omega
      have e2 : i % 10 = j := by omega
      rw [e1, e2]
      exact ⟨Or.inr ⟨rfl, rfl⟩, hp⟩
  · rintro ⟨h1 | h1, h2⟩
    · exact Or.inl ⟨h1, h2⟩
    · have h1 : i / 10 = m ∧ i % 10 = j := h1
      exact Or.inr (by omega)
theorem ep_L_non (P : Nat × Nat → Prop) {c m j : Nat} (hp : ¬ P (m, j)) :
    ep_L (ep_st fun s => ep_done c m j s ∧ P s) = ep_L (ep_st fun s => ep_done c m (j + 1) s ∧ P s) := by
  apply ep_L_ext
  intro i hi
  show ep_done c m j (i / 10, i % 10) ∧ P (i / 10, i % 10) ↔ ep_done c m (j + 1) (i / 10, i % 10) ∧ P (i / 10, i % 10)
  rw [ep_done_s]
  constructor
  · exact fun h => ⟨Or.inl h.1, h.2⟩
  · rintro ⟨h1 | h1, h2⟩
    · exact ⟨h1, h2⟩
    · have h1 : i / 10 = m ∧ i % 10 = j := h1
      rw [h1.1, h1.2] at h2
      exact absurd h2 hp
/-- what is laid out for a goal -/
def ep_laid (c M : Nat) (nm rk : Nat → Nat → Nat) (ma : Nat → Int32) (sr : Nat → Int64) : Prop :=
  (∀ m v, m < M → v < c → ma (m * 10 + v) = nI (nm m v)) ∧ (∀ r, r < 6 → sr r = ep_L (ep_st fun s => ep_dom M c s ∧ rk s.1 s.2 = r))
theorem ep_xsf {c M : Nat} {ow E K ma : Nat → Int32} {sr : Nat → Int64} (hG : ep_G c ow E K) (hM : M ≤ 4) {nm rk : Nat → Nat → Nat} (hl : ep_laid c M nm rk ma sr)
    (hn : ∀ m v, m < M → nm m v < M) {W : Nat × Nat → Prop} {x : Int64} (ex : x = ep_L (ep_st W)) {post : Int64 → Prop}
    (h : post (ep_L (ep_st (ep_cp c ow E M nm W)))) : wpX_statesForcing post (nI c, nI M, ow, E, K, ma, sr) x := by
  subst ex
  have hc := hG.1
  have inner : ∀ (J5 : Int64 → Int32 → Prop) (m : Nat), m < M → J5 (ep_L (ep_st fun s => ep_done c (m + 1) 0 s ∧ ep_cp c ow E M nm W s)) (nI (m + 1)) → ∀ d j, j + d = c →
      wX_statesForcing_17 post J5 (ep_L (ep_st W)) (nI m) (nI c) (nI M) ow E K ma sr (d + 1) (ep_L (ep_st fun s => ep_done c m j s ∧ ep_cp c ow E M nm W s)) (nI j) := by
    intro J5 m hm hJ d
    induction d with
    | zero =>
      intro j hj
      have e : j = c := by omega
      subst e
      refine br_t (nI_le (Nat.le_refl j) (by omega)) (nm_r (nI_1 m) ?_)
      rw [ep_done_next]
      exact hJ
    | succ d ih =>
      intro j hj
      have ih := ih (j + 1) (by omega)
      have hk : m * 10 + j < 40 := by omega
      have ec : (nI (m * 10 + j)).toNatClampNeg = m * 10 + j := nI_clamp (by omega)
      have hq := hn m j hm
      have e8 : ((((ep_L (ep_st W)).toUInt64 >>> (((ma (nI (m * 10 + j)).toNatClampNeg) * 10).toInt64.toUInt64 &&& Int64.toUInt64 63)).toInt64).toInt32) &&& 1023 = ep_I (fun w => W (nm m j, w)) := by
        rw [ec, hl.1 m j hm (by omega), ep_m10' _ (by omega), ep_L_row _ (by omega)]
        apply ep_I_ext
        intro w hw
        rw [ep_st_k W _ hw]
      refine br_f (ep_nIc (by omega) (by omega)) (nm_r (ep_m10 m (by omega) j (by omega)) ⟨vp_in_nI hk (by omega), nm_r e8 (ep_xcan hG (by omega) rfl (fun hf => br_f (by decide) (nm_r ?_ (nm_r (nI_1 j) ih))) (fun hf => br_t rfl (nm_r (nI_1 j) ?_)))⟩)
      · exact ep_L_add _ (by omega) (by omega) ⟨⟨hm, by show j < c; omega⟩, hf⟩
      · rw [ep_L_non _ (fun z => hf z.2)]
        exact ih
  have outer : ∀ d m, m + d = M → wX_statesForcing_5 post (ep_L (ep_st W)) (nI c) (nI M) ow E K ma sr (d + 1) (ep_L (ep_st fun s => ep_done c m 0 s ∧ ep_cp c ow E M nm W s)) (nI m) := by
    intro d
    induction d with
    | zero =>
      intro m hm
      have e : m = M := by omega
      subst e
      refine br_t (nI_le (Nat.le_refl m) (by omega)) ?_
      rw [ep_done_M]
      have e2 : (fun s => ep_dom m c s ∧ ep_cp c ow E m nm W s) = ep_cp c ow E m nm W := funext fun s => propext ⟨fun x => x.2, fun x => ⟨x.1, x⟩⟩
      rw [e2]
      exact h
    | succ d ih =>
      intro m hm
      exact br_f (ep_nIc (by omega) (by omega)) ⟨c + 1, inner _ m (by omega) (ih (m + 1) (by omega)) c 0 (by omega)⟩
  have e0 : (0 : Int64) = ep_L (ep_st fun s => ep_done c 0 0 s ∧ ep_cp c ow E M nm W s) := by
    rw [ep_done_0, ← ep_L_0]
    exact ep_L_ext fun i _ => ⟨fun x => x.elim, fun x => x.1⟩
  refine ⟨M + 1, ?_⟩
  rw [e0]
  exact outer M 0 (by omega)
/-- the lower ranks started again -/
def ep_sa (rk : Nat × Nat → Nat) (dom W : Nat × Nat → Prop) : Nat → Nat × Nat → Prop
  | 0 => W
  | l + 1 => fun s => if l % 2 = 0 then ep_sa rk dom W l s ∨ (dom s ∧ rk s = l) else ep_sa rk dom W l s ∧ ¬ (dom s ∧ rk s = l)
theorem ep_sa_le {rk : Nat × Nat → Nat} {dom W : Nat × Nat → Prop} (h : ep_le W dom) : ∀ l, ep_le (ep_sa rk dom W l) dom := by
  intro l
  induction l with
  | zero => exact h
  | succ l ih =>
    intro s hs
    have hs : if l % 2 = 0 then ep_sa rk dom W l s ∨ (dom s ∧ rk s = l) else ep_sa rk dom W l s ∧ ¬ (dom s ∧ rk s = l) := hs
    by_cases e : l % 2 = 0
    · rw [if_pos e] at hs
      exact hs.elim (ih s) (fun x => x.1)
    · rw [if_neg e] at hs
      exact ih s hs.1
theorem ep_sa_start {rk : Nat × Nat → Nat} {dom W : Nat × Nat → Prop} (h : ep_le W dom) : ∀ l, ep_start rk dom W l (ep_sa rk dom W l) := by
  intro l
  induction l with
  | zero => exact fun s => ⟨fun _ => Iff.rfl, fun x => absurd x (Nat.not_lt_zero _), fun x => absurd x (Nat.not_lt_zero _)⟩
  | succ l ih =>
    intro s
    have hle := ep_sa_le (rk := rk) h l s
    have ih := ih s
    show (l + 1 ≤ rk s → ((if l % 2 = 0 then ep_sa rk dom W l s ∨ (dom s ∧ rk s = l) else ep_sa rk dom W l s ∧ ¬ (dom s ∧ rk s = l)) ↔ W s)) ∧
      (rk s < l + 1 → rk s % 2 = 0 → ((if l % 2 = 0 then ep_sa rk dom W l s ∨ (dom s ∧ rk s = l) else ep_sa rk dom W l s ∧ ¬ (dom s ∧ rk s = l)) ↔ dom s)) ∧
      (rk s < l + 1 → rk s % 2 = 1 → ¬ (if l % 2 = 0 then ep_sa rk dom W l s ∨ (dom s ∧ rk s = l) else ep_sa rk dom W l s ∧ ¬ (dom s ∧ rk s = l)))
    by_cases e : l % 2 = 0
    · rw [if_pos e]
      refine ⟨fun hr => ?_, fun hr hp => ?_, fun hr hp => ?_⟩
      · rw [ih.1 (by omega)]
        exact ⟨fun x => x.elim (fun y => y) (fun y => by omega), Or.inl⟩
      · by_cases e2 : rk s = l
        · exact ⟨fun x => x.elim hle (fun y => y.1), fun x => Or.inr ⟨x, e2⟩⟩
        · rw [ih.2.1 (by omega) hp]
          exact ⟨fun x => x.elim (fun y => y) (fun y => y.1), Or.inl⟩
      · have e2 : rk s ≠ l := by omega
        exact fun x => x.elim (ih.2.2 (by omega) hp) (fun y => e2 y.2)
    · rw [if_neg e]
      refine ⟨fun hr => ?_, fun hr hp => ?_, fun hr hp => ?_⟩
      · rw [ih.1 (by omega)]
        exact ⟨fun x => x.1, fun x => ⟨x, fun y => by omega⟩⟩
      · have e2 : rk s ≠ l := by omega
        rw [ih.2.1 (by omega) hp]
        exact ⟨fun x => x.1, fun x => ⟨x, fun y => e2 y.2⟩⟩
      · by_cases e2 : rk s = l
        · exact fun x => x.2 ⟨hle x.1, e2⟩
        · exact fun x => ih.2.2 (by omega) hp x.1
theorem ep_xsa {c M : Nat} {ow E K ma : Nat → Int32} {sr : Nat → Int64} {nm rk : Nat → Nat → Nat} (hl : ep_laid c M nm rk ma sr)
    {W : Nat × Nat → Prop} {x : Int64} (ex : x = ep_L (ep_st W)) {r : Nat} (hr : r ≤ 6) {y : Int32} (ey : y = nI r) {post : Int64 → Prop}
    (h : post (ep_L (ep_st (ep_sa (fun s => rk s.1 s.2) (ep_dom M c) W r)))) : wpX_startAgainBelow post (nI c, nI M, ow, E, K, ma, sr) y x := by
  subst ex; subst ey
  have key : ∀ d l, l + d = r → wX_startAgainBelow_6 post (nI r) (nI c) (nI M) ow E K ma sr (d + 1) (ep_L (ep_st (ep_sa (fun s => rk s.1 s.2) (ep_dom M c) W l))) (nI l) := by
    intro d
    induction d with
    | zero =>
      intro l hl2
      have e : l = r := by omega
      subst e
      exact br_t (nI_le (Nat.le_refl l) (by omega)) h
    | succ d ih =>
      intro l hl2
      have ih := ih (l + 1) (by omega)
      have ec : (nI l).toNatClampNeg = l := nI_clamp (by omega)
      have esr : sr (nI l).toNatClampNeg = ep_L (ep_st fun s => ep_dom M c s ∧ rk s.1 s.2 = l) := by rw [ec]; exact hl.2 l (by omega)
      have hin : vp_in (nI l) 6 := vp_in_nI (by omega) (by omega)
      refine br_f (ep_nIc (by omega) (by omega)) ⟨by decide, ?_⟩
      rw [ep_r2 l (by omega)]
      by_cases e : l % 2 = 0
      · refine br_t (by rw [e]; rfl) ⟨hin, nm_r ?_ (nm_r (nI_1 l) ih)⟩
        rw [esr, ep_L_or]
        apply ep_L_ext
        intro i _
        show _ ↔ if l % 2 = 0 then _ else _
        rw [if_pos e]
        exact Iff.rfl
      · have e1 : l % 2 = 1 := by omega
        refine br_f (by rw [e1]; decide) ⟨hin, nm_r ?_ (nm_r (nI_1 l) ih)⟩
        rw [esr, ep_L_diff]
        apply ep_L_ext
        intro i _
        show _ ↔ if l % 2 = 0 then _ else _
        rw [if_neg e]
        exact Iff.rfl
  exact ⟨r + 1, key r 0 (by omega)⟩
theorem ep_xwon {c M : Nat} {ow E K ma : Nat → Int32} {sr : Nat → Int64} (hG : ep_G c ow E K) (hM : M ≤ 4) {nm rk : Nat → Nat → Nat} (hl : ep_laid c M nm rk ma sr)
    (hn : ∀ m v, m < M → nm m v < M) (hk : ∀ s : Nat × Nat, rk s.1 s.2 < 6) (hb : ep_pr (ep_nw (fun s => rk s.1 s.2) (ep_dom M c)) 6 0 ≤ 142857) {post : Int64 → Prop}
    (h : post (ep_L (ep_st (ep_sol (fun s => rk s.1 s.2) (ep_cp c ow E M nm) 6 fun _ => False)))) : wpX_wonStates post (nI c, nI M, ow, E, K, ma, sr) := by
  have hc := hG.1
  have hmono := ep_cp_mono hG M nm
  have hd : ∀ X, ep_le (ep_cp c ow E M nm X) (ep_dom M c) := fun X s x => x.1
  have key : ∀ d (W : Nat × Nat → Prop) (rank round : Nat), round + d = 1000000 → ep_ok (fun s => rk s.1 s.2) (ep_cp c ow E M nm) (ep_dom M c) W rank round →
      wX_wonStates_13 post (nI c) (nI M) ow E K ma sr (d + 1) (ep_L (ep_st W)) (nI rank) (nI round) := by
    intro d
    induction d with
    | zero =>
      intro W rank round hrd hok
      have := hok.2.2.2.2
      omega
    | succ d ih =>
      intro W rank round hrd hok
      have hr6 := hok.2.2.2.1
      refine br_f (nI_ge (b := 1000000) (by omega) (by omega)) ?_
      by_cases e : rank = 6
      · subst e
        have eW := ep_ok_end hk hok
        refine br_t (nI_le (b := 6) (a := 6) (by omega) (by omega)) ?_
        rw [eW]
        exact h
      · refine br_f (nI_ge (b := 6) (by omega) (by omega)) ?_
        have ec : (nI rank).toNatClampNeg = rank := nI_clamp (by omega)
        refine ⟨vp_in_nI (by omega) (by omega), nm_r (show _ = ep_L (ep_st fun s => ep_dom M c s ∧ rk s.1 s.2 = rank) by rw [ec]; exact hl.2 rank (by omega)) ?_⟩
        refine ep_xsf hG hM hl hn rfl ?_
        refine nm_r (ep_L_and _ _) ?_
        rw [ep_L_and]
        by_cases hE : ep_L (fun i => ep_st (ep_cp c ow E M nm W) i ∧ ep_st (fun s => ep_dom M c s ∧ rk s.1 s.2 = rank) i) = ep_L (fun i => ep_st W i ∧ ep_st (fun s => ep_dom M c s ∧ rk s.1 s.2 = rank) i)
        · refine br_t hE (nm_r (nI_1 rank) (nm_r (nI_1 round) (ih W (rank + 1) (round + 1) (by omega) (ep_ok_adv hd hok (by omega) ?_))))
          rintro ⟨m, v⟩ hds hrs
          have hmv : m < M ∧ v < c := hds
          have hi := ep_L_inj hE (m * 10 + v) (by omega)
          rw [ep_st_k _ m (by omega), ep_st_k _ m (by omega), ep_st_k _ m (by omega)] at hi
          exact ⟨fun x => (hi.1 ⟨x, hds, hrs⟩).1, fun x => (hi.2 ⟨x, hds, hrs⟩).1⟩
        · refine br_f hE ?_
          have hf : ¬ ∀ s, ep_dom M c s → rk s.1 s.2 = rank → (ep_cp c ow E M nm W s ↔ W s) := by
            intro hall
            apply hE
            apply ep_L_ext
            intro i _
            exact ⟨fun x => ⟨(hall _ x.2.1 x.2.2).1 x.1, x.2⟩, fun x => ⟨(hall _ x.2.1 x.2.2).2 x.1, x.2⟩⟩
          have hWd := hok.1
          obtain ⟨W1, eW1⟩ : ∃ W1 : Nat × Nat → Prop, W1 = ep_at (fun s => rk s.1 s.2) rank W (ep_cp c ow E M nm W) := ⟨_, rfl⟩
          have e1 : (ep_L (ep_st W) &&& (ep_L (ep_st fun s => ep_dom M c s ∧ rk s.1 s.2 = rank) ^^^ (-1))) |||
              ep_L (fun i => ep_st (ep_cp c ow E M nm W) i ∧ ep_st (fun s => ep_dom M c s ∧ rk s.1 s.2 = rank) i) = ep_L (ep_st W1) := by
            rw [ep_L_diff, ep_L_or, eW1]
            apply ep_L_ext
            intro i _
            show (W (i / 10, i % 10) ∧ ¬ (ep_dom M c (i / 10, i % 10) ∧ rk (i / 10) (i % 10) = rank)) ∨ (ep_cp c ow E M nm W (i / 10, i % 10) ∧ (ep_dom M c (i / 10, i % 10) ∧ rk (i / 10) (i % 10) = rank)) ↔
              (rk (i / 10) (i % 10) = rank ∧ ep_cp c ow E M nm W (i / 10, i % 10)) ∨ (rk (i / 10) (i % 10) ≠ rank ∧ W (i / 10, i % 10))
            constructor
            · rintro (x | x)
              · exact Or.inr ⟨fun z => x.2 ⟨hWd _ x.1, z⟩, x.1⟩
              · exact Or.inl ⟨x.2.2, x.1⟩
            · rintro (x | x)
              · exact Or.inr ⟨x.2, hd _ _ x.2, x.1⟩
              · exact Or.inl ⟨x.2, fun z => x.1 z.2⟩
          have hW1d : ep_le W1 (ep_dom M c) := by
            rw [eW1]
            intro s hs
            exact hs.elim (fun x => hd _ s x.2) (fun x => hWd s x.2)
          refine ep_xsa hl e1 (by omega) rfl (nm_r (nI_1 round) ?_)
          refine ih _ 0 (round + 1) (by omega) (ep_ok_chg hmono hM hc hd hok (by omega) hf (ep_sa_le hW1d rank) ?_)
          rw [← eW1]
          exact ep_sa_start hW1d rank
  have e0 : (0 : Int64) = ep_L (ep_st fun _ => False) := ep_L_0.symm
  have h0d : ep_le (fun _ : Nat × Nat => False) (ep_dom M c) := fun _ x => x.elim
  unfold wpX_wonStates
  dsimp only
  refine ep_xsa hl e0 (Nat.le_refl 6) rfl ⟨1000000 + 1, ?_⟩
  exact key 1000000 _ 0 0 (by omega) (ep_ok_start hmono hd hk (ep_sa_le h0d 6) (ep_sa_start h0d 6) hb)
end
section
/-! the class's answer for a goal -/
theorem ep_uLs {f : Nat → Int64} {k : Nat} {x : Int64} : vp_updL f k x k = x := if_pos rfl
theorem ep_uLn {f : Nat → Int64} {k j : Nat} {x : Int64} (h : j ≠ k) : vp_updL f k x j = f j := if_neg h
def ep_lay (c m j : Nat) (nm rk : Nat → Nat → Nat) (ma : Nat → Int32) (sr : Nat → Int64) : Prop :=
  (∀ a b, ep_done c m j (a, b) → ma (a * 10 + b) = nI (nm a b)) ∧ (∀ r, r < 6 → sr r = ep_L (ep_st fun s => ep_done c m j s ∧ rk s.1 s.2 = r))
theorem ep_lay_s {c m j : Nat} (hc : c ≤ 10) (hm : m < 4) (hj : j < c) {nm rk : Nat → Nat → Nat} (hk : rk m j < 6) {ma : Nat → Int32} {sr : Nat → Int64} (h : ep_lay c m j nm rk ma sr) :
    ep_lay c m (j + 1) nm rk (upd ma (m * 10 + j) (nI (nm m j))) (vp_updL sr (rk m j) (sr (rk m j) ||| ((1 : Int64) <<< ((nI (m * 10 + j)).toInt64 &&& 63)))) := by
  constructor
  · intro a b hab
    by_cases e : a * 10 + b = m * 10 + j
    · have hb : b < 10 := by
        have hab : (a < m ∧ b < c) ∨ (a = m ∧ b < j + 1) := hab
        omega
      have e1 : a = m := by omega
      have e2 : b = j := by omega
      subst e1; subst e2
      exact ep_us
    · rw [ep_un e]
      apply h.1
      rcases (ep_done_s c m j (a, b)).1 hab with x | x
      · exact x
      · have x : a = m ∧ b = j := x
        exact absurd (by rw [x.1, x.2]) e
  · intro r hr
    by_cases e : r = rk m j
    · subst e
      rw [ep_uLs, h.2 _ hr]
      exact ep_L_add (fun s => rk s.1 s.2 = rk m j) hm (by omega) rfl
    · rw [ep_uLn e, h.2 r hr]
      exact ep_L_non (fun s => rk s.1 s.2 = r) (fun x => e x.symm)
theorem ep_xlay {c : Nat} {fm : Int32} {ow E K ma : Nat → Int32} {sr : Nat → Int64} (hG : ep_G c ow E K) {g : Nat} (hg : g < 9) {post : SX → Prop}
    (h : ∀ ma' sr', ep_laid c (ep_Mg g) (ep_nm (ep_J K) g) (ep_rk (ep_J K) g) ma' sr' → post (nI c, nI (ep_Mg g), ow, E, K, ma', sr')) :
    wpX_layOut post (nI c, fm, ow, E, K, ma, sr) (nI g) := by
  have hc := hG.1
  have hM := ep_Mg_4 g hg
  have inner : ∀ (J32 : Int32 → (Nat → Int32) → (Nat → Int32) → (Nat → Int32) → (Nat → Int32) → (Nat → Int64) → Prop) (m : Nat), m < ep_Mg g →
      (∀ ma sr, ep_lay c (m + 1) 0 (ep_nm (ep_J K) g) (ep_rk (ep_J K) g) ma sr → J32 (nI (m + 1)) ow E K ma sr) → ∀ d j ma sr, j + d = c → ep_lay c m j (ep_nm (ep_J K) g) (ep_rk (ep_J K) g) ma sr →
      wX_layOut_42 post J32 (nI g) (nI m) (nI c) (nI (ep_Mg g)) (d + 1) (nI j) ow E K ma sr := by
    intro J32 m hm hJ d
    induction d with
    | zero =>
      intro j ma sr hj hl
      have e : j = c := by omega
      subst e
      refine br_t (nI_le (Nat.le_refl j) (by omega)) (nm_r (nI_1 m) (hJ ma sr ?_))
      unfold ep_lay at hl ⊢
      rw [ep_done_next] at hl
      exact hl
    | succ d ih =>
      intro j ma sr hj hl
      have hk := ep_rk_6 (ep_J K) hg m j
      have ec : (nI (m * 10 + j)).toNatClampNeg = m * 10 + j := nI_clamp (by omega)
      have er : (nI (ep_rk (ep_J K) g m j)).toNatClampNeg = ep_rk (ep_J K) g m j := nI_clamp (by omega)
      have hin : vp_in (nI (ep_rk (ep_J K) g m j)) 6 := vp_in_nI hk (by omega)
      refine br_f (ep_nIc (by omega) (by omega)) (nm_r (ep_m10 m (by omega) j (by omega)) (ep_xrank hg hm (by omega) (ep_xnext hg hm (by omega) ⟨vp_in_nI (by omega) (by omega), ?_⟩)))
      rw [ec]
      refine nm_e ⟨hin, hin, ?_⟩
      rw [er]
      exact nm_e (nm_r (nI_1 j) (ih (j + 1) _ _ (by omega) (ep_lay_s hc (by omega) (by omega) hk hl)))
  have outer : ∀ d m ma sr, m + d = ep_Mg g → ep_lay c m 0 (ep_nm (ep_J K) g) (ep_rk (ep_J K) g) ma sr →
      wX_layOut_32 post (nI g) (nI c) (nI (ep_Mg g)) (d + 1) (nI m) ow E K ma sr := by
    intro d
    induction d with
    | zero =>
      intro m ma sr hm hl
      have e : m = ep_Mg g := by omega
      subst e
      refine br_t (nI_le (Nat.le_refl _) (by omega)) (h ma sr ?_)
      unfold ep_lay at hl
      rw [ep_done_M] at hl
      exact ⟨fun m v hm hv => hl.1 m v ⟨hm, hv⟩, hl.2⟩
    | succ d ih =>
      intro m ma sr hm hl
      exact br_f (ep_nIc (by omega) (by omega)) ⟨c + 1, inner _ m (by omega) (fun ma sr hl => ih (m + 1) ma sr (by omega) hl) c 0 ma sr (by omega) hl⟩
  have first : ∀ d l ma sr, l + d = 6 → (∀ r, r < l → sr r = 0) → wX_layOut_11 post (nI g) (nI c) (nI (ep_Mg g)) (d + 1) (nI l) ow E K ma sr := by
    intro d
    induction d with
    | zero =>
      intro l ma sr hl hs
      have e : l = 6 := by omega
      subst e
      refine br_t (nI_le (a := 6) (b := 6) (by omega) (by omega)) ⟨ep_Mg g + 1, outer (ep_Mg g) 0 ma sr (by omega) ⟨fun a b x => ?_, fun r hr => ?_⟩⟩
      · rw [ep_done_0] at x
        exact x.elim
      · rw [hs r hr, ep_done_0, ← ep_L_0]
        exact ep_L_ext fun i _ => ⟨fun x => x.elim, fun x => x.1⟩
    | succ d ih =>
      intro l ma sr hl hs
      have ec : (nI l).toNatClampNeg = l := nI_clamp (by omega)
      refine br_f (nI_ge (b := 6) (by omega) (by omega)) ⟨vp_in_nI (by omega) (by omega), ?_⟩
      rw [ec]
      refine nm_e (nm_r (nI_1 l) (ih (l + 1) ma _ (by omega) (fun r hr => ?_)))
      by_cases e : r = l
      · subst e; exact ep_uLs
      · rw [ep_uLn e]; exact hs r (by omega)
  unfold wpX_layOut
  dsimp only
  exact ep_xmem hg ⟨6 + 1, first 6 0 ma sr (by omega) (fun r hr => absurd hr (Nat.not_lt_zero r))⟩
theorem ep_R_al {c : Nat} {ow E K : Nat → Int32} (hG : ep_G c ow E K) {s : Nat → Nat → Prop} (hs : ∀ i, i < 4 → ep_le (s i) fun v => v < c) {g : Nat} (hg : g < 9) :
    ep_le (ep_R c (ep_fr c ow E 0) (ep_fr c ow E 1) s g) fun v => v < c := by
  have hF := ep_fr_F hG 0
  have hm := ep_F_mono hF
  have hFO : ep_le (ep_forced (ep_fr c ow E 0) fun v => v < c) fun v => v < c := ep_reach_al hF (fun v x => x.elim)
  have hSA : ep_le (ep_safe (ep_fr c ow E 0) fun v => v < c) fun v => v < c := ep_stay_al hF (fun v x => x.elim)
  match g, hg with
  | 0, _ => exact ep_reach_al hF (fun v x => x.elim (fun y => hSA v y.2) (hFO v))
  | 1, _ => exact ep_stay_al hF hFO
  | 2, _ => exact fun v x => ep_reach_al hF (fun v x => hF.2 _ _ x.2) v (ep_gfp_post (ep_againF_mono hm _ _) v x)
  | 3, _ => exact fun v x => ep_stay_al hF (fun v x => hF.2 _ _ x) v (ep_lfp_post (ep_endF_mono hm _) v x)
  | 4, _ => exact fun v x => ep_reach_al hF (fun v x => hF.2 _ _ x.2) v (ep_gfp_post (ep_bothF_mono hm _ _ _) v x).1
  | 5, _ => exact fun v x => ep_spoil_al hF v (ep_gfp_post (ep_ifbF_mono hm _ _ _ _ _) v x).1
  | 6, _ => exact fun v x => (ep_lfp_post (ep_oneF_mono hm _ _ _ _ _) v x).elim (ep_pair_al hF (fun v x => hF.2 _ _ x) v) (ep_pair_al hF (fun v x => hF.2 _ _ x) v)
  | 7, _ => exact fun v x => x.1
  | 8, _ => exact ep_reach_al hF (fun v x => x.elim (fun y => hSA v y.2) (hFO v))
/-- a solved state is forced one move ahead -/
theorem ep_sol_cp {S : Type} {rk : S → Nat} {cp : (S → Prop) → (S → Prop)} (hc : ep_mono cp) (W : S → Prop) : ∀ r s, rk s < r → ep_sol rk cp r W s → ∃ X, cp X s := by
  intro r
  induction r generalizing W with
  | zero => intro s hs; omega
  | succ r ih =>
    intro s hs h
    rw [ep_sol_un rk hc] at h
    by_cases e : rk s = r
    · rw [ep_sol_hi rk hc r _ s (by omega), ep_at_eq e] at h
      exact ⟨_, h⟩
    · exact ih _ s (by omega) h
theorem ep_sol_dom {S : Type} {rk : S → Nat} {cp : (S → Prop) → (S → Prop)} (hc : ep_mono cp) {dom W : S → Prop} (hd : ∀ X, ep_le (cp X) dom) (hk : ∀ s, rk s < 6) : ep_le (ep_sol rk cp 6 W) dom := by
  intro s hs
  obtain ⟨X, hX⟩ := ep_sol_cp hc W 6 s (hk s) hs
  exact hd X s hX
theorem ep_xgoal {c : Nat} {fm : Int32} {ow E K ma : Nat → Int32} {sr : Nat → Int64} (hG : ep_G c ow E K) {g : Nat} (hg : g < 9) {post : Int32 → SX → Prop}
    (h : ∀ fm' ma' sr', post (ep_I (ep_R c (ep_fr c ow E 0) (ep_fr c ow E 1) (fun s v => bt (K s) v = true) g)) (nI c, fm', ow, E, K, ma', sr')) :
    wpX_wonPositions post (nI c, fm, ow, E, K, ma, sr) (nI g) := by
  have hc := hG.1
  unfold wpX_wonPositions
  dsimp only
  refine ep_xlay hG hg fun ma' sr' hl => ?_
  have hb : ep_pr (ep_nw (fun s => ep_rk (ep_J K) g s.1 s.2) (ep_dom (ep_Mg g) c)) 6 0 ≤ 142857 := by
    by_cases h6 : g = 6
    · subst h6
      exact ep_bnd6 (by decide) hc (Or.inl fun s => by show 1 + ep_pR (ep_J K) 0 s.1 s.2 ≠ 0; omega)
    · by_cases h7 : g = 7
      · subst h7
        exact ep_bnd6 (by decide) hc (Or.inr fun s => by show ep_pR (ep_J K) 1 s.1 s.2 ≠ 5; have := ep_pR_le (ep_J K) 1 s.1 s.2; omega)
      · exact ep_bnd3 fun s => ep_rk_3 (ep_J K) hg h6 h7 s.1 s.2
  refine ep_xwon hG (ep_Mg_4 g hg) hl (fun m v hm => ep_nm_lt (ep_J K) hg hm v) (fun s => ep_rk_6 (ep_J K) hg s.1 s.2) hb ?_
  have e : (ep_L (ep_st (ep_sol (fun s => ep_rk (ep_J K) g s.1 s.2) (ep_cp c ow E (ep_Mg g) (ep_nm (ep_J K) g)) 6 fun _ => False))).toInt32 &&& 1023 =
      ep_I (ep_R c (ep_fr c ow E 0) (ep_fr c ow E 1) (fun s v => bt (K s) v = true) g) := by
    rw [ep_L_low]
    apply ep_I_ext
    intro i hi
    have e2 : ep_st (ep_sol (fun s => ep_rk (ep_J K) g s.1 s.2) (ep_cp c ow E (ep_Mg g) (ep_nm (ep_J K) g)) 6 fun _ => False) i =
        ep_sol (fun s => ep_rk (ep_J K) g s.1 s.2) (ep_cp c ow E (ep_Mg g) (ep_nm (ep_J K) g)) 6 (fun _ => False) (0, i) := by
      have h1 := ep_st_k (ep_sol (fun s => ep_rk (ep_J K) g s.1 s.2) (ep_cp c ow E (ep_Mg g) (ep_nm (ep_J K) g)) 6 fun _ => False) 0 hi
      rw [Nat.zero_mul, Nat.zero_add] at h1
      exact h1
    rw [e2]
    by_cases hic : i < c
    · exact ep_agree hG (ep_J K) hg i hic
    · constructor
      · intro x
        exfalso
        have hf : ep_le (ep_sol (fun s => ep_rk (ep_J K) g s.1 s.2) (ep_cp c ow E (ep_Mg g) (ep_nm (ep_J K) g)) 6 fun _ => False) (ep_dom (ep_Mg g) c) :=
          ep_sol_dom (ep_cp_mono hG _ _) (fun X s x => x.1) (fun s => ep_rk_6 (ep_J K) hg s.1 s.2)
        exact hic (hf _ x).2
      · exact fun x => absurd (ep_R_al hG (fun j hj v y => hG.2.2.2 j hj v y) hg i x) hic
  exact ep_p2 e (h _ _ _)
end
section
/-! the relation, and the calls that look at no goal -/
def i_Rel (k : Nat) (u : SX) (v : SY) : Prop :=
  ∃ (c : Nat) (fm : Int32) (ow E K ma : Nat → Int32) (sr : Nat → Int64) (ff : Int32) (gr rd : Nat → Int32), ep_G c ow E K ∧ u = (nI c, fm, ow, E, K, ma, sr) ∧ v = (nI c, ff, ow, E, K, gr, rd) ∧ k = k
theorem i_up {k : Nat} {u : SX} {v : SY} (h : i_Rel k u v) : i_Rel (k + 3) u v := by
  obtain ⟨c, fm, ow, E, K, ma, sr, ff, gr, rd, hG, eu, ev, _⟩ := h
  exact ⟨c, fm, ow, E, K, ma, sr, ff, gr, rd, hG, eu, ev, rfl⟩
theorem ep_rel {k c : Nat} {fm : Int32} {ow E K ma : Nat → Int32} {sr : Nat → Int64} {ff : Int32} {gr rd : Nat → Int32} (hG : ep_G c ow E K) :
    i_Rel k (nI c, fm, ow, E, K, ma, sr) (nI c, ff, ow, E, K, gr, rd) := ⟨c, fm, ow, E, K, ma, sr, ff, gr, rd, hG, rfl, rfl, rfl⟩
theorem ep_z0 (w : Nat) : ¬ bt 0 w = true := by rw [b_0]; exact fun z => nomatch z
theorem i_vc0 : wpX_init (fun u => wpY_init (fun v => i_Rel 0 u v)) :=
  ep_rel (c := 0) ⟨by decide, fun _ _ => Or.inl rfl, fun _ _ w h => absurd h (ep_z0 w), fun _ _ w h => absurd h (ep_z0 w)⟩
theorem ep_ix (x : Int32) {n : Nat} (hn : n < 2 ^ 31) : x < 0 ∨ (¬ x < 0 ∧ nI n ≤ x) ∨ ∃ j : Nat, j < n ∧ x = nI j := by
  by_cases h0 : x < 0
  · exact Or.inl h0
  · by_cases h1 : nI n ≤ x
    · exact Or.inr (Or.inl ⟨h0, h1⟩)
    · obtain ⟨j, hj, e⟩ := nI_of h0
      subst e
      refine Or.inr (Or.inr ⟨j, ?_, rfl⟩)
      rw [nI_leI hn hj] at h1
      omega
theorem ep_n0 {j : Nat} (hj : j < 2 ^ 31) : ¬ nI j < 0 := nI_pos hj
theorem ep_xp_no {c : Nat} {fm : Int32} {ow E K ma : Nat → Int32} {sr : Nat → Int64} {x : Int32} (h : x < 0 ∨ (¬ x < 0 ∧ nI c ≤ x)) {post : Int32 → Prop} (hp : post 0) :
    wpX_isPosition post (nI c, fm, ow, E, K, ma, sr) x := by
  rcases h with h | h
  · exact br_t h hp
  · exact br_f h.1 (br_t h.2 hp)
theorem ep_xp_yes {c : Nat} {fm : Int32} {ow E K ma : Nat → Int32} {sr : Nat → Int64} {j : Nat} (hc : c ≤ 10) (h : j < c) {post : Int32 → Prop} (hp : post 1) :
    wpX_isPosition post (nI c, fm, ow, E, K, ma, sr) (nI j) := br_f (ep_n0 (by omega)) (br_f (ep_nIc h (by omega)) hp)
theorem ep_yp_no {c : Nat} {ff : Int32} {ow E K gr rd : Nat → Int32} {x : Int32} (h : x < 0 ∨ (¬ x < 0 ∧ nI c ≤ x)) {post : Int32 → Prop} (hp : post 0) :
    wpY_isPosition post (nI c, ff, ow, E, K, gr, rd) x := by
  rcases h with h | h
  · exact br_t h hp
  · exact br_f h.1 (br_t h.2 hp)
theorem ep_yp_yes {c : Nat} {ff : Int32} {ow E K gr rd : Nat → Int32} {j : Nat} (hc : c ≤ 10) (h : j < c) {post : Int32 → Prop} (hp : post 1) :
    wpY_isPosition post (nI c, ff, ow, E, K, gr, rd) (nI j) := br_f (ep_n0 (by omega)) (br_f (ep_nIc h (by omega)) hp)
theorem ep_xg_no {c : Nat} {fm : Int32} {ow E K ma : Nat → Int32} {sr : Nat → Int64} {x : Int32} (h : x < 0 ∨ (¬ x < 0 ∧ nI 9 ≤ x)) {post : Int32 → Prop} (hp : post 0) :
    wpX_isGoal post (nI c, fm, ow, E, K, ma, sr) x := by
  rcases h with h | h
  · exact br_t h hp
  · exact br_f h.1 (br_t h.2 hp)
theorem ep_xg_yes {c : Nat} {fm : Int32} {ow E K ma : Nat → Int32} {sr : Nat → Int64} {j : Nat} (h : j < 9) {post : Int32 → Prop} (hp : post 1) :
    wpX_isGoal post (nI c, fm, ow, E, K, ma, sr) (nI j) := br_f (ep_n0 (by omega)) (br_f (ep_nIc (a := 9) h (by omega)) hp)
theorem ep_lt_le {x : Int32} {a : Nat} (ha : a + 1 < 2 ^ 31) (h0 : ¬ x < 0) : nI a < x ↔ nI (a + 1) ≤ x := by
  obtain ⟨j, hj, e⟩ := nI_of h0
  subst e
  rw [nI_ltI (by omega) hj, nI_leI ha hj]
  omega
theorem ep_yg_no {c : Nat} {ff : Int32} {ow E K gr rd : Nat → Int32} {x : Int32} (h : x < 0 ∨ (¬ x < 0 ∧ nI 9 ≤ x)) {post : Int32 → Prop} (hp : post 0) :
    wpY_isGoal post (nI c, ff, ow, E, K, gr, rd) x := by
  rcases h with h | h
  · exact br_t h hp
  · exact br_f h.1 (br_t ((ep_lt_le (a := 8) (by decide) h.1).2 h.2) hp)
theorem ep_yg_yes {c : Nat} {ff : Int32} {ow E K gr rd : Nat → Int32} {j : Nat} (h : j < 9) {post : Int32 → Prop} (hp : post 1) :
    wpY_isGoal post (nI c, ff, ow, E, K, gr, rd) (nI j) :=
  br_f (ep_n0 (by omega)) (br_f (fun z => ep_nIc (a := 9) h (by omega) ((ep_lt_le (a := 8) (by decide) (ep_n0 (by omega))).1 z)) hp)
theorem i_vc_positions {k : Nat} {u : SX} {v : SY} (I : i_Rel k u v) (hk : k + 3 ≤ 1536) : wpX_positions (fun r => wpY_positions (fun r' => r' = r ∧ i_Rel (k + 3) u v) v) u := by
  obtain ⟨c, fm, ow, E, K, ma, sr, ff, gr, rd, hG, rfl, rfl, _⟩ := I
  exact ⟨rfl, ep_rel hG⟩
theorem ep_G_pos {c : Nat} {ow E K : Nat → Int32} (hG : ep_G c ow E K) (hc : c < 10) {x : Int32} (hx : x = 0 ∨ x = 1) : ep_G (c + 1) (upd ow c x) (upd E c 0) K := by
  refine ⟨by omega, fun v hv => ?_, fun v hv w hw => ?_, fun s hs w hw => ?_⟩
  · by_cases e : v = c
    · subst e; rw [ep_us]; exact hx
    · rw [ep_un e]; exact hG.2.1 v hv
  · by_cases e : v = c
    · subst e; rw [ep_us] at hw; exact absurd hw (ep_z0 w)
    · rw [ep_un e] at hw; have := hG.2.2.1 v hv w hw; omega
  · have := hG.2.2.2 s hs w hw; omega
theorem ep_vpos {k c : Nat} {fm : Int32} {ow E K ma : Nat → Int32} {sr : Nat → Int64} {ff : Int32} {gr rd : Nat → Int32} (hG : ep_G c ow E K) {x : Int32} (hx : x = 0 ∨ x = 1)
    {post2 : Int32 → Int32 → SX → SY → Prop} (h : ∀ r u v, i_Rel k u v → post2 r r u v) :
    wX_position_11 (fun r u' => wY_position_11 (fun r' v' => post2 r' r u' v') x (nI c) ff ow E K gr rd) x (nI c) fm ow E K ma sr := by
  have hc := hG.1
  by_cases e : c = 10
  · subst e
    exact br_f (nI_nlt (a := 10) (b := 10) (by omega) (by omega)) (br_t rfl (h _ _ _ (ep_rel hG)))
  · have hlt : nI c < 10 := nI_lt (b := 10) (by omega) (by omega)
    have hne : ¬ nI c = 10 := fun z => e ((nI_eq (b := 10) (by omega) (by omega)).1 z)
    have hin : vp_in (nI c) 10 := vp_in_nI (by omega) (by omega)
    have ec : (nI c).toNatClampNeg = c := nI_clamp (by omega)
    have hG2 := ep_G_pos hG (by omega) hx
    refine br_t hlt ⟨hin, ?_⟩
    rw [ec]
    refine nm_e ⟨hin, nm_e (nm_r (nI_1 c) (br_f hne ⟨hin, ?_⟩))⟩
    rw [ec]
    exact nm_e ⟨hin, nm_e (nm_r (nI_1 c) (h _ _ _ (ep_rel hG2)))⟩
theorem i_vc_position {k : Nat} {u : SX} {v : SY} (I : i_Rel k u v) (hk : k + 3 ≤ 1536) (v1 : Int32) : wpX_position (fun r u' => wpY_position (fun r' v' => r' = r ∧ i_Rel (k + 3) u' v') v v1) u v1 := by
  obtain ⟨c, fm, ow, E, K, ma, sr, ff, gr, rd, hG, rfl, rfl, _⟩ := I
  by_cases e0 : v1 = 0
  · subst e0
    have h := ep_vpos (k := k + 3) (fm := fm) (ma := ma) (sr := sr) (ff := ff) (gr := gr) (rd := rd) hG (x := 0) (Or.inl rfl) (post2 := fun r' r u' v' => r' = r ∧ i_Rel (k + 3) u' v') (fun r u v hR => ⟨rfl, hR⟩)
    unfold wX_position_11 at h
    refine br_t rfl ?_
    unfold wX_position_11
    exact ⟨fun z => by
      refine ⟨(h.1 z).1, fun a ea => ⟨((h.1 z).2 a ea).1, fun b eb f ef => br_t rfl (((h.1 z).2 a ea).2 b eb f ef)⟩⟩, fun z => br_t rfl (h.2 z)⟩
  · by_cases e1 : v1 = 1
    · subst e1
      have h := ep_vpos (k := k + 3) (fm := fm) (ma := ma) (sr := sr) (ff := ff) (gr := gr) (rd := rd) hG (x := 1) (Or.inr rfl) (post2 := fun r' r u' v' => r' = r ∧ i_Rel (k + 3) u' v') (fun r u v hR => ⟨rfl, hR⟩)
      unfold wX_position_11 at h
      refine br_f e0 (br_t rfl ?_)
      unfold wX_position_11
      exact ⟨fun z => by
        refine ⟨(h.1 z).1, fun a ea => ⟨((h.1 z).2 a ea).1, fun b eb f ef => br_f e0 (br_t rfl (((h.1 z).2 a ea).2 b eb f ef))⟩⟩, fun z => br_f e0 (br_t rfl (h.2 z))⟩
    · exact br_f e0 (br_f e1 (br_f e0 (br_f e1 ⟨rfl, ep_rel hG⟩)))
/-- the arrays after a mask has been laid over the first j -/
def ep_mk (E : Nat → Int32) (x : Int32) (j : Nat) : Nat → Int32 := fun v => if v < j then E v &&& x else E v
theorem ep_mk_s (E : Nat → Int32) (x : Int32) (j : Nat) : upd (ep_mk E x j) j (ep_mk E x j j &&& x) = ep_mk E x (j + 1) := by
  funext v
  by_cases e : v = j
  · subst e
    rw [ep_us]
    show (if v < v then E v &&& x else E v) &&& x = if v < v + 1 then E v &&& x else E v
    rw [if_neg (Nat.lt_irrefl v), if_pos (Nat.lt_succ_self v)]
  · rw [ep_un e]
    show (if v < j then E v &&& x else E v) = if v < j + 1 then E v &&& x else E v
    by_cases h : v < j
    · rw [if_pos h, if_pos (by omega)]
    · rw [if_neg h, if_neg (by omega)]
theorem ep_mk_0 (E : Nat → Int32) (x : Int32) : ep_mk E x 0 = E := funext fun v => if_neg (Nat.not_lt_zero v)
theorem ep_xdrop {c : Nat} {fm x : Int32} {ow E K ma : Nat → Int32} {sr : Nat → Int64} {post : Int32 → SX → Prop}
    (h : post (nI c) (nI c, fm, ow, ep_mk E x 10, ep_mk K x 4, ma, sr)) : ∃ n, wX_drop_31 post x (nI c) fm n 0 ow E K ma sr := by
  have second : ∀ d j, j + d = 4 → wX_drop_55 post x (nI c) fm (d + 1) (nI j) ow (ep_mk E x 10) (ep_mk K x j) ma sr := by
    intro d
    induction d with
    | zero =>
      intro j hj
      have e : j = 4 := by omega
      subst e
      exact br_t (nI_le (a := 4) (b := 4) (by omega) (by omega)) h
    | succ d ih =>
      intro j hj
      have ec : (nI j).toNatClampNeg = j := nI_clamp (by omega)
      have hin : vp_in (nI j) 4 := vp_in_nI (by omega) (by omega)
      refine br_f (nI_ge (b := 4) (by omega) (by omega)) ⟨hin, hin, ?_⟩
      rw [ec]
      exact nm_r (ep_mk_s K x j) (nm_r (nI_1 j) (ih (j + 1) (by omega)))
  have first : ∀ d j, j + d = 10 → wX_drop_31 post x (nI c) fm (d + 1) (nI j) ow (ep_mk E x j) K ma sr := by
    intro d
    induction d with
    | zero =>
      intro j hj
      have e : j = 10 := by omega
      subst e
      have h2 := second 4 0 (by omega)
      rw [ep_mk_0] at h2
      exact br_t (nI_le (a := 10) (b := 10) (by omega) (by omega)) ⟨_, h2⟩
    | succ d ih =>
      intro j hj
      have ec : (nI j).toNatClampNeg = j := nI_clamp (by omega)
      have hin : vp_in (nI j) 10 := vp_in_nI (by omega) (by omega)
      refine br_f (nI_ge (b := 10) (by omega) (by omega)) ⟨hin, hin, ?_⟩
      rw [ec]
      exact nm_r (ep_mk_s E x j) (nm_r (nI_1 j) (ih (j + 1) (by omega)))
  have h1 := first 10 0 (by omega)
  rw [ep_mk_0] at h1
  exact ⟨_, h1⟩
theorem ep_ydrop {c : Nat} {ff : Int32} {ow E K gr rd : Nat → Int32} {post : Int32 → SY → Prop}
    (h : post (nI c) (nI c, ff, ow, ep_mk E (((1 : Int32) <<< (nI c &&& 31)) ^^^ (-1)) 10, ep_mk K (((1 : Int32) <<< (nI c &&& 31)) ^^^ (-1)) 4, gr, rd)) : ∃ n, wY_drop_22 post (nI c) ff n 0 ow E K gr rd := by
  obtain ⟨x, ex⟩ : ∃ x : Int32, x = ((1 : Int32) <<< (nI c &&& 31)) ^^^ (-1) := ⟨_, rfl⟩
  rw [← ex] at h
  have second : ∀ d j, j + d = 4 → wY_drop_57 post (nI c) ff (d + 1) (nI j) ow (ep_mk E x 10) (ep_mk K x j) gr rd := by
    intro d
    induction d with
    | zero =>
      intro j hj
      have e : j = 4 := by omega
      subst e
      exact br_t (nI_le (a := 4) (b := 4) (by omega) (by omega)) h
    | succ d ih =>
      intro j hj
      have ec : (nI j).toNatClampNeg = j := nI_clamp (by omega)
      have hin : vp_in (nI j) 4 := vp_in_nI (by omega) (by omega)
      refine br_f (nI_ge (b := 4) (by omega) (by omega)) ⟨hin, hin, ?_⟩
      rw [ec, ← ex]
      exact nm_r (ep_mk_s K x j) (nm_r (nI_1 j) (ih (j + 1) (by omega)))
  have first : ∀ d j, j + d = 10 → wY_drop_22 post (nI c) ff (d + 1) (nI j) ow (ep_mk E x j) K gr rd := by
    intro d
    induction d with
    | zero =>
      intro j hj
      have e : j = 10 := by omega
      subst e
      have h2 := second 4 0 (by omega)
      rw [ep_mk_0] at h2
      exact br_t (nI_le (a := 10) (b := 10) (by omega) (by omega)) ⟨_, h2⟩
    | succ d ih =>
      intro j hj
      have ec : (nI j).toNatClampNeg = j := nI_clamp (by omega)
      have hin : vp_in (nI j) 10 := vp_in_nI (by omega) (by omega)
      refine br_f (nI_ge (b := 10) (by omega) (by omega)) ⟨hin, hin, ?_⟩
      rw [ec, ← ex]
      exact nm_r (ep_mk_s E x j) (nm_r (nI_1 j) (ih (j + 1) (by omega)))
  have h1 := first 10 0 (by omega)
  rw [ep_mk_0] at h1
  exact ⟨_, h1⟩
theorem ep_msk {c : Nat} (hc : c < 32) {x : Int32} {i : Nat} (h : bt (x &&& (((1 : Int32) <<< (nI c &&& 31)) ^^^ (-1))) i = true) : bt x i = true ∧ i ≠ c := by
  rw [b_and, Bool.and_eq_true] at h
  refine ⟨h.1, fun e => ?_⟩
  subst e
  have h2 := h.2
  rw [ep_bnot _ hc, ep_bone hc, decide_eq_true rfl] at h2
  exact nomatch h2
theorem ep_G_drop {c : Nat} {ow E K : Nat → Int32} (hG : ep_G (c + 1) ow E K) :
    ep_G c ow (ep_mk E (((1 : Int32) <<< (nI c &&& 31)) ^^^ (-1)) 10) (ep_mk K (((1 : Int32) <<< (nI c &&& 31)) ^^^ (-1)) 4) := by
  have hc := hG.1
  refine ⟨by omega, hG.2.1, fun v hv w hw => ?_, fun s hs w hw => ?_⟩
  · unfold ep_mk at hw
    rw [if_pos hv] at hw
    have h1 := ep_msk (by omega) hw
    have := hG.2.2.1 v hv w h1.1
    omega
  · unfold ep_mk at hw
    rw [if_pos hs] at hw
    have h1 := ep_msk (by omega) hw
    have := hG.2.2.2 s hs w h1.1
    omega
theorem i_vc_drop {k : Nat} {u : SX} {v : SY} (I : i_Rel k u v) (hk : k + 3 ≤ 1536) : wpX_drop (fun r u' => wpY_drop (fun r' v' => r' = r ∧ i_Rel (k + 3) u' v') v) u := by
  obtain ⟨c, fm, ow, E, K, ma, sr, ff, gr, rd, hG, rfl, rfl, _⟩ := I
  match c, hG with
  | 0, hG => exact br_f (by decide) (br_t rfl ⟨rfl, ep_rel hG⟩)
  | c + 1, hG =>
    have hc := hG.1
    refine br_t (nI_lt (a := 0) (by omega) (by omega)) (nm_r (nI_pred c) (nm_e (ep_xdrop ?_)))
    exact br_f (nI_ne0 (by omega) (by omega)) (nm_r (nI_pred c) (ep_ydrop ⟨rfl, ep_rel (ep_G_drop hG)⟩))
theorem ep_txor {c w : Nat} (hc : c ≤ 10) (hw : w < c) {x : Int32} (hx : ∀ i, bt x i = true → i < c) (i : Nat) (h : bt (x ^^^ ((1 : Int32) <<< (nI w &&& 31))) i = true) : i < c := by
  rw [b_xor, ep_bone (by omega)] at h
  by_cases e : i = w
  · omega
  · rw [decide_eq_false e, Bool.xor_false] at h
    exact hx i h
theorem ep_G_move {c v w : Nat} {ow E K : Nat → Int32} (hG : ep_G c ow E K) (hw : w < c) : ep_G c ow (upd E v (E v ^^^ ((1 : Int32) <<< (nI w &&& 31)))) K := by
  refine ⟨hG.1, hG.2.1, fun a ha i hi => ?_, hG.2.2.2⟩
  by_cases e : a = v
  · subst e
    rw [ep_us] at hi
    exact ep_txor hG.1 hw (hG.2.2.1 a ha) i hi
  · rw [ep_un e] at hi
    exact hG.2.2.1 a ha i hi
theorem ep_G_put {c s w : Nat} {ow E K : Nat → Int32} (hG : ep_G c ow E K) (hw : w < c) : ep_G c ow E (upd K s (K s ^^^ ((1 : Int32) <<< (nI w &&& 31)))) := by
  refine ⟨hG.1, hG.2.1, hG.2.2.1, fun a ha i hi => ?_⟩
  by_cases e : a = s
  · subst e
    rw [ep_us] at hi
    exact ep_txor hG.1 hw (hG.2.2.2 a ha) i hi
  · rw [ep_un e] at hi
    exact hG.2.2.2 a ha i hi
theorem ep_G_turn {c v : Nat} {ow E K : Nat → Int32} (hG : ep_G c ow E K) (hv : v < 10) : ep_G c (upd ow v (1 - ow v)) E K := by
  refine ⟨hG.1, fun a ha => ?_, hG.2.2.1, hG.2.2.2⟩
  by_cases e : a = v
  · subst e
    rw [ep_us]
    rcases hG.2.1 a hv with h | h
    · rw [h]; exact Or.inr (by decide)
    · rw [h]; exact Or.inl (by decide)
  · rw [ep_un e]
    exact hG.2.1 a ha
theorem ep_no {P : Prop} {x : Int32} {n : Nat} (hn : n < 2 ^ 31) (no : (x < 0 ∨ (¬ x < 0 ∧ nI n ≤ x)) → P) (yes : ∀ j, j < n → x = nI j → P) : P := by
  rcases ep_ix x hn with h | h | ⟨j, hj, e⟩
  · exact no (Or.inl h)
  · exact no (Or.inr h)
  · exact yes j hj e
theorem i_vc_move {k : Nat} {u : SX} {v : SY} (I : i_Rel k u v) (hk : k + 3 ≤ 1536) (v1 : Int32) (v2 : Int32) : wpX_move (fun r u' => wpY_move (fun r' v' => r' = r ∧ i_Rel (k + 3) u' v') v v1 v2) u v1 v2 := by
  obtain ⟨c, fm, ow, E, K, ma, sr, ff, gr, rd, hG, rfl, rfl, _⟩ := I
  have hc := hG.1
  unfold wpX_move wpY_move
  dsimp only
  refine ep_no (x := v1) (n := c) (by omega) (fun h => ?_) (fun j hj e => ?_)
  · exact ep_xp_no h (br_t rfl (ep_yp_no h (br_t rfl ⟨rfl, ep_rel hG⟩)))
  · subst e
    refine ep_xp_yes hc hj (br_f (by decide) ?_)
    refine ep_no (x := v2) (n := c) (by omega) (fun h => ?_) (fun w hw e => ?_)
    · exact ep_xp_no h (br_t rfl (ep_yp_yes hc hj (br_f (by decide) (ep_yp_no h (br_t rfl ⟨rfl, ep_rel hG⟩)))))
    · subst e
      have hin : vp_in (nI j) 10 := vp_in_nI (by omega) (by omega)
      have ec : (nI j).toNatClampNeg = j := nI_clamp (by omega)
      refine ep_xp_yes hc hw (br_f (by decide) ⟨hin, hin, ?_⟩)
      rw [ec]
      refine nm_e ⟨hin, ep_yp_yes hc hj (br_f (by decide) (ep_yp_yes hc hw (br_f (by decide) ⟨hin, hin, ?_⟩)))⟩
      exact nm_e ⟨hin, rfl, ep_rel (ep_G_move hG hw)⟩
theorem i_vc_turn {k : Nat} {u : SX} {v : SY} (I : i_Rel k u v) (hk : k + 3 ≤ 1536) (v1 : Int32) : wpX_turn (fun r u' => wpY_turn (fun r' v' => r' = r ∧ i_Rel (k + 3) u' v') v v1) u v1 := by
  obtain ⟨c, fm, ow, E, K, ma, sr, ff, gr, rd, hG, rfl, rfl, _⟩ := I
  have hc := hG.1
  unfold wpX_turn wpY_turn
  dsimp only
  refine ep_no (x := v1) (n := c) (by omega) (fun h => ?_) (fun j hj e => ?_)
  · exact ep_xp_no h (br_t rfl (ep_yp_no h (br_t rfl ⟨rfl, ep_rel hG⟩)))
  · subst e
    have hin : vp_in (nI j) 10 := vp_in_nI (by omega) (by omega)
    have ec : (nI j).toNatClampNeg = j := nI_clamp (by omega)
    refine ep_xp_yes hc hj (br_f (by decide) ⟨hin, hin, ?_⟩)
    rw [ec]
    refine nm_e ⟨hin, ep_yp_yes hc hj (br_f (by decide) ⟨hin, hin, ?_⟩)⟩
    exact nm_e ⟨hin, rfl, ep_rel (ep_G_turn hG (by omega))⟩
theorem i_vc_put {k : Nat} {u : SX} {v : SY} (I : i_Rel k u v) (hk : k + 3 ≤ 1536) (v1 : Int32) (v2 : Int32) : wpX_put (fun r u' => wpY_put (fun r' v' => r' = r ∧ i_Rel (k + 3) u' v') v v1 v2) u v1 v2 := by
  obtain ⟨c, fm, ow, E, K, ma, sr, ff, gr, rd, hG, rfl, rfl, _⟩ := I
  have hc := hG.1
  rcases ep_ix v1 (n := 4) (by omega) with h | h | ⟨s, hs, e⟩
  · exact br_t h (br_t h ⟨rfl, ep_rel hG⟩)
  · exact br_f h.1 (br_t h.2 (br_f h.1 (br_t ((ep_lt_le (a := 3) (by decide) h.1).2 h.2) ⟨rfl, ep_rel hG⟩)))
  · subst e
    have n0 : ¬ nI s < 0 := ep_n0 (by omega)
    have n4 : ¬ (4 : Int32) ≤ nI s := ep_nIc (a := 4) hs (by omega)
    have n3 : ¬ (3 : Int32) < nI s := fun z => n4 ((ep_lt_le (a := 3) (by decide) n0).1 z)
    refine br_f n0 (br_f n4 ?_)
    refine ep_no (x := v2) (n := c) (by omega) (fun h => ?_) (fun w hw e => ?_)
    · exact ep_xp_no h (br_t rfl (br_f n0 (br_f n3 (ep_yp_no h (br_t rfl ⟨rfl, ep_rel hG⟩)))))
    · subst e
      have hin : vp_in (nI s) 4 := vp_in_nI (by omega) (by omega)
      have ec : (nI s).toNatClampNeg = s := nI_clamp (by omega)
      refine ep_xp_yes hc hw (br_f (by decide) ⟨hin, hin, ?_⟩)
      rw [ec]
      refine nm_e ⟨hin, br_f n0 (br_f n3 (ep_yp_yes hc hw (br_f (by decide) ⟨hin, hin, ?_⟩)))⟩
      rw [ec]
      exact nm_e ⟨hin, rfl, ep_rel (ep_G_put hG hw)⟩
end
section
/-! winning, wins, goodMoves -/
theorem i_vc_winning {k : Nat} {u : SX} {v : SY} (I : i_Rel k u v) (hk : k + 3 ≤ 1536) (v1 : Int32) : wpX_winning (fun r u' => wpY_winning (fun r' v' => r' = r ∧ i_Rel (k + 3) u' v') v v1) u v1 := by
  obtain ⟨c, fm, ow, E, K, ma, sr, ff, gr, rd, hG, rfl, rfl, _⟩ := I
  unfold wpX_winning wpY_winning
  dsimp only
  refine ep_no (x := v1) (n := 9) (by omega) (fun h => ?_) (fun g hg e => ?_)
  · exact ep_xg_no h (br_t rfl (ep_yg_no h (br_t rfl ⟨rfl, ep_rel hG⟩)))
  · subst e
    refine ep_xg_yes hg (br_f (by decide) (ep_xgoal hG hg fun fm' ma' sr' => ?_))
    refine ep_yg_yes hg (br_f (by decide) (ep_ysolve hG hg fun ff' gr' rd' => ?_))
    exact ⟨rfl, ep_rel hG⟩
theorem i_vc_wins {k : Nat} {u : SX} {v : SY} (I : i_Rel k u v) (hk : k + 3 ≤ 1536) (v1 : Int32) (v2 : Int32) : wpX_wins (fun r u' => wpY_wins (fun r' v' => r' = r ∧ i_Rel (k + 3) u' v') v v1 v2) u v1 v2 := by
  obtain ⟨c, fm, ow, E, K, ma, sr, ff, gr, rd, hG, rfl, rfl, _⟩ := I
  have hc := hG.1
  unfold wpX_wins wpY_wins
  dsimp only
  refine ep_no (x := v1) (n := 9) (by omega) (fun h => ?_) (fun g hg e => ?_)
  · exact ep_xg_no h (br_t rfl (ep_yg_no h (br_t rfl ⟨rfl, ep_rel hG⟩)))
  · subst e
    refine ep_xg_yes hg (br_f (by decide) ?_)
    refine ep_no (x := v2) (n := c) (by omega) (fun h => ?_) (fun w hw e => ?_)
    · exact ep_xp_no h (br_t rfl (ep_yg_yes hg (br_f (by decide) (ep_yp_no h (br_t rfl ⟨rfl, ep_rel hG⟩)))))
    · subst e
      refine ep_xp_yes hc hw (br_f (by decide) (ep_xgoal hG hg fun fm' ma' sr' => ?_))
      refine br_c (fun hb => ?_) (fun hb => ?_)
      · exact ep_yg_yes hg (br_f (by decide) (ep_yp_yes hc hw (br_f (by decide) (ep_ysolve hG hg fun ff' gr' rd' => br_t hb ⟨rfl, ep_rel hG⟩))))
      · exact ep_yg_yes hg (br_f (by decide) (ep_yp_yes hc hw (br_f (by decide) (ep_ysolve hG hg fun ff' gr' rd' => br_f hb ⟨rfl, ep_rel hG⟩))))
theorem i_vc_goodMoves {k : Nat} {u : SX} {v : SY} (I : i_Rel k u v) (hk : k + 3 ≤ 1536) (v1 : Int32) (v2 : Int32) : wpX_goodMoves (fun r u' => wpY_goodMoves (fun r' v' => r' = r ∧ i_Rel (k + 3) u' v') v v1 v2) u v1 v2 := by
  obtain ⟨c, fm, ow, E, K, ma, sr, ff, gr, rd, hG, rfl, rfl, _⟩ := I
  have hc := hG.1
  unfold wpX_goodMoves wpY_goodMoves
  dsimp only
  refine ep_no (x := v1) (n := 9) (by omega) (fun h => ?_) (fun g hg e => ?_)
  · exact ep_xg_no h (br_t rfl (ep_yg_no h (br_t rfl ⟨rfl, ep_rel hG⟩)))
  · subst e
    refine ep_xg_yes hg (br_f (by decide) ?_)
    refine ep_no (x := v2) (n := c) (by omega) (fun h => ?_) (fun w hw e => ?_)
    · exact ep_xp_no h (br_t rfl (ep_yg_yes hg (br_f (by decide) (ep_yp_no h (br_t rfl ⟨rfl, ep_rel hG⟩)))))
    · subst e
      have hin : vp_in (nI w) 10 := vp_in_nI (by omega) (by omega)
      refine ep_xp_yes hc hw (br_f (by decide) (ep_xgoal hG hg fun fm' ma' sr' => ⟨hin, ?_⟩))
      refine br_c (fun hb => ⟨hin, ?_⟩) (fun hb => ⟨hin, ?_⟩)
      · exact ep_yg_yes hg (br_f (by decide) (ep_yp_yes hc hw (br_f (by decide) (ep_ysolve hG hg fun ff' gr' rd' => ⟨hin, hin, br_t hb ⟨rfl, ep_rel hG⟩⟩))))
      · exact ep_yg_yes hg (br_f (by decide) (ep_yp_yes hc hw (br_f (by decide) (ep_ysolve hG hg fun ff' gr' rd' => ⟨hin, hin, br_f hb ⟨rfl, ep_rel hG⟩⟩))))
end
section
/-! moves -/
theorem ep_bv (P : Nat → Prop) {v : Nat} (hv : v < 10) : (ep_I P >>> (nI v &&& 31)) &&& 1 = 1 ↔ P v := by
  rw [ep_bit1 _ (by omega)]
  by_cases h : bt (ep_I P) v = true
  · rw [if_pos h]
    exact ⟨fun _ => ((ep_I_bit P v).1 h).2, fun _ => rfl⟩
  · rw [if_neg h]
    exact ⟨fun z => absurd z (by decide), fun z => absurd ((ep_I_bit P v).2 ⟨hv, z⟩) h⟩
def ep_rc (f : (Nat → Prop) → (Nat → Prop)) (a : Nat → Prop) : Nat → Nat → Prop
  | 0 => fun v => a v ∨ f (fun _ => False) v
  | n + 1 => fun v => ep_rc f a n v ∨ f (ep_rc f a n) v
theorem ep_rc_al {c : Nat} {f : (Nat → Prop) → (Nat → Prop)} (hF : ep_F c f) {a : Nat → Prop} (ha : ep_le a fun v => v < c) : ∀ n, ep_le (ep_rc f a n) fun v => v < c := by
  intro n
  induction n with
  | zero => exact fun v x => x.elim (ha v) (hF.2 _ _)
  | succ n ih => exact fun v x => x.elim (ih v) (hF.2 _ _)
theorem ep_rc_st {c : Nat} {f : (Nat → Prop) → (Nat → Prop)} (hF : ep_F c f) {a : Nat → Prop} {n : Nat} (h : ep_le (ep_rc f a (n + 1)) (ep_rc f a n)) :
    ep_le (ep_rc f a (n + 2)) (ep_rc f a (n + 1)) :=
  fun v x => x.elim (fun y => y) (fun y => Or.inr (ep_F_mono hF _ _ h v y))
theorem ep_rc_cn {c : Nat} {f : (Nat → Prop) → (Nat → Prop)} (hF : ep_F c f) (hc : c ≤ 10) {a : Nat → Prop} (ha : ep_le a fun v => v < c) :
    ∀ n, ep_le (ep_rc f a (n + 1)) (ep_rc f a n) ∨ n + 1 ≤ ep_cn (ep_rc f a n) 10 := by
  intro n
  induction n with
  | zero =>
    by_cases h : ∃ v, ep_rc f a 0 v
    · obtain ⟨v, hv⟩ := h
      have hb := ep_rc_al hF ha 0 v hv
      have h1 := ep_cn_lt (p := fun _ => False) (q := ep_rc f a 0) 10 (fun _ _ x => x.elim) ⟨v, Nat.lt_of_lt_of_le hb hc, hv, fun x => x⟩
      exact Or.inr (by omega)
    · refine Or.inl fun v x => x.elim (fun y => y) (fun y => Or.inr (ep_F_mono hF _ _ (fun w z => h ⟨w, z⟩) v y))
  | succ n ih =>
    by_cases hs : ep_le (ep_rc f a (n + 1)) (ep_rc f a n)
    · exact Or.inl (ep_rc_st hF hs)
    · rcases ih with ih | ih
      · exact absurd ih hs
      · have h1 : ep_cn (ep_rc f a n) 10 < ep_cn (ep_rc f a (n + 1)) 10 := by
          apply ep_cn_ne (fun i _ x => Or.inl x)
          intro hall
          apply hs
          intro v hv
          exact (hall v (Nat.lt_of_lt_of_le (ep_rc_al hF ha (n + 1) v hv) hc)).2 hv
        exact Or.inr (by omega)
theorem ep_rc_10 {c : Nat} {f : (Nat → Prop) → (Nat → Prop)} (hF : ep_F c f) (hc : c ≤ 10) {a : Nat → Prop} (ha : ep_le a fun v => v < c) :
    ep_le (ep_rc f a 10) (ep_rc f a 9) := by
  rcases ep_rc_cn hF hc ha 9 with h | h
  · exact h
  · intro v hv
    exact ep_cn_full 10 h v (Nat.lt_of_lt_of_le (ep_rc_al hF ha 10 v hv) hc)
theorem ep_ystuck {c : Nat} {ff : Int32} {ow E K gr rd : Nat → Int32} (hG : ep_G c ow E K) {post : Int32 → Prop}
    (h : post (ep_I (ep_fr c ow E 0 fun _ => False))) : wpY_stuck post (nI c, ff, ow, E, K, gr, rd) := by
  have hc := hG.1
  have key : ∀ d j, j + d = c → wY_stuck_4 post (nI c) ff ow E K gr rd (d + 1) (ep_sI (ep_fr c ow E 0 fun _ => False) j) (nI j) := by
    intro d
    induction d with
    | zero =>
      intro j hj
      have e : j = c := by omega
      subst e
      refine br_t (nI_le (Nat.le_refl j) (by omega)) ?_
      rw [ep_sI_c hc (fun v x => x.1)]
      exact h
    | succ d ih =>
      intro j hj
      have ih := ih (j + 1) (by omega)
      have ec : (nI j).toNatClampNeg = j := nI_clamp (by omega)
      have hin : vp_in (nI j) 10 := vp_in_nI (by omega) (by omega)
      refine br_f (ep_nIc (by omega) (by omega)) ⟨hin, ?_⟩
      rw [ec]
      by_cases ho : ow j = 1
      · refine br_t ho ⟨hin, ?_⟩
        by_cases he : E j = 0
        · have hf : ep_fr c ow E 0 (fun _ => False) j := ⟨by omega, Or.inr ⟨by rw [ho]; decide, fun w hw => by rw [he] at hw; exact ep_z0 w hw⟩⟩
          exact br_t he (nm_r (ep_sI_t hf).symm (nm_r (nI_1 j) ih))
        · have hf : ¬ ep_fr c ow E 0 (fun _ => False) j := fun q => q.2.elim (fun z => z.2.elim fun w y => y.2) (fun z => he (ep_zero.2 fun i _ hi => z.2 i hi))
          refine br_f he (nm_r (nI_1 j) ?_)
          rw [← ep_sI_f hf]
          exact ih
      · have hf : ¬ ep_fr c ow E 0 (fun _ => False) j := fun q => q.2.elim (fun z => z.2.elim fun w y => y.2) (fun z => (hG.2.1 j (by omega)).elim z.1 ho)
        refine br_f ho (nm_r (nI_1 j) ?_)
        rw [← ep_sI_f hf]
        exact ih
  exact ⟨c + 1, key c 0 (by omega)⟩
noncomputable def ep_x2 (f : (Nat → Prop) → (Nat → Prop)) (a : Nat → Prop) : Nat → Int32
  | 0 => 0
  | n + 1 => ep_I (ep_rc f a n)
theorem ep_ymv {c : Nat} {ff : Int32} {ow E K gr rd : Nat → Int32} (hG : ep_G c ow E K) {v : Nat} (hv : v < c) {post : Int32 → Prop} {n j : Nat} (hj : j < 12)
    (h1 : ep_rc (ep_fr c ow E 0) (fun v => bt (K 0) v = true) j v → post (nI j))
    (h0 : ¬ ep_rc (ep_fr c ow E 0) (fun v => bt (K 0) v = true) j v → wY_moves_14 post (nI v) (nI c) ff ow E K gr rd n (ep_I (ep_rc (ep_fr c ow E 0) (fun v => bt (K 0) v = true) j)) (nI (j + 1))) :
    wY_moves_14 post (nI v) (nI c) ff ow E K gr rd (n + 1) (ep_x2 (ep_fr c ow E 0) (fun v => bt (K 0) v = true) j) (nI j) := by
  have hc := hG.1
  have k0 := ep_K hG (i := 0) (by decide)
  have h46 : wY_moves_46 post (wY_moves_14 post (nI v) (nI c) ff ow E K gr rd n) (nI v) (nI j) (ep_I (ep_rc (ep_fr c ow E 0) (fun v => bt (K 0) v = true) j)) (nI c) ff ow E K gr rd := by
    have hb := ep_bv (ep_rc (ep_fr c ow E 0) (fun v => bt (K 0) v = true) j) (v := v) (by omega)
    by_cases e : ep_rc (ep_fr c ow E 0) (fun v => bt (K 0) v = true) j v
    · exact br_t (hb.2 e) (h1 e)
    · exact br_f (fun z => e (hb.1 z)) (nm_r (nI_1 j) (h0 e))
  refine br_f (nI_ge (b := 12) (by omega) (by omega)) ?_
  match j, hj, h46 with
  | 0, _, h46 =>
    refine br_t rfl (ep_ystuck hG ?_)
    have e : K 0 ||| ep_I (ep_fr c ow E 0 fun _ => False) = ep_I (ep_rc (ep_fr c ow E 0) (fun v => bt (K 0) v = true) 0) := by
      have h := ep_I_or (fun v => bt (K 0) v = true) (ep_fr c ow E 0 fun _ => False)
      rw [← k0] at h
      exact h
    rw [e]
    exact h46
  | j + 1, hj, h46 =>
    refine br_f (nI_ne0 (by omega) (by omega)) (ep_yforce hG 0 (ep_rc (ep_fr c ow E 0) (fun v => bt (K 0) v = true) j) rfl ?_)
    have e : ep_x2 (ep_fr c ow E 0) (fun v => bt (K 0) v = true) (j + 1) ||| ep_I (ep_fr c ow E 0 (ep_rc (ep_fr c ow E 0) (fun v => bt (K 0) v = true) j)) = ep_I (ep_rc (ep_fr c ow E 0) (fun v => bt (K 0) v = true) (j + 1)) :=
      ep_I_or _ _
    rw [e]
    exact h46
theorem ep_mv {c : Nat} {fm ff : Int32} {ow E K ma gr rd : Nat → Int32} {sr : Nat → Int64} (hG : ep_G c ow E K) {v : Nat} (hv : v < c) : ∀ d j, j + d = 10 →
    (∀ i, i < j → ¬ ep_rc (ep_fr c ow E 0) (fun v => bt (K 0) v = true) i v) →
    ∃ r : Int32, (∀ post : Int32 → Prop, post r → wX_moves_24 post (nI v) (nI c) fm ow E K ma sr (d + 1) (ep_I (ep_rc (ep_fr c ow E 0) (fun v => bt (K 0) v = true) j)) (nI j)) ∧
      (∀ post : Int32 → Prop, post r → wY_moves_14 post (nI v) (nI c) ff ow E K gr rd (d + 3) (ep_x2 (ep_fr c ow E 0) (fun v => bt (K 0) v = true) j) (nI j)) := by
  have hc := hG.1
  have hF := ep_fr_F hG 0
  have ha : ep_le (fun v => bt (K 0) v = true) fun v => v < c := fun w hw => hG.2.2.2 0 (by decide) w hw
  intro d
  induction d with
  | zero =>
    intro j hj hno
    have e : j = 10 := by omega
    subst e
    have n9 := hno 9 (by omega)
    have n10 : ¬ ep_rc (ep_fr c ow E 0) (fun v => bt (K 0) v = true) 10 v := fun z => n9 (ep_rc_10 hF hc ha v z)
    have n11 : ¬ ep_rc (ep_fr c ow E 0) (fun v => bt (K 0) v = true) 11 v := fun z => n10 (ep_rc_st hF (ep_rc_10 hF hc ha) v z)
    refine ⟨-3, fun post hp => br_t (nI_le (a := 10) (b := 10) (by omega) (by omega)) hp, fun post hp => ?_⟩
    exact ep_ymv hG hv (by omega) (fun z => absurd z n10) (fun _ => ep_ymv hG hv (j := 11) (by omega) (fun z => absurd z n11) (fun _ => br_t (nI_le (a := 12) (b := 12) (by omega) (by omega)) hp))
  | succ d ih =>
    intro j hj hno
    have hb := ep_bv (ep_rc (ep_fr c ow E 0) (fun v => bt (K 0) v = true) j) (v := v) (by omega)
    have hx : ¬ (10 : Int32) ≤ nI j := nI_ge (b := 10) (by omega) (by omega)
    by_cases e : ep_rc (ep_fr c ow E 0) (fun v => bt (K 0) v = true) j v
    · exact ⟨nI j, fun post hp => br_f hx (br_t (hb.2 e) hp), fun post hp => ep_ymv hG hv (by omega) (fun _ => hp) (fun z => absurd e z)⟩
    · obtain ⟨r, h1, h2⟩ := ih (j + 1) (by omega) (fun i hi => by
        by_cases e2 : i = j
        · subst e2; exact e
        · exact hno i (by omega))
      refine ⟨r, fun post hp => br_f hx (br_f (fun z => e (hb.1 z)) (ep_xforce hG rfl (nm_r (ep_I_or _ _) (nm_r (nI_1 j) (h1 post hp))))), fun post hp => ep_ymv hG hv (by omega) (fun z => absurd z e) (fun _ => h2 post hp)⟩
theorem i_vc_moves {k : Nat} {u : SX} {v : SY} (I : i_Rel k u v) (hk : k + 3 ≤ 1536) (v1 : Int32) : wpX_moves (fun r => wpY_moves (fun r' => r' = r ∧ i_Rel (k + 3) u v) v v1) u v1 := by
  obtain ⟨c, fm, ow, E, K, ma, sr, ff, gr, rd, hG, rfl, rfl, _⟩ := I
  have hc := hG.1
  have k0 := ep_K hG (i := 0) (by decide)
  unfold wpX_moves wpY_moves
  dsimp only
  refine ep_no (x := v1) (n := c) (by omega) (fun h => ?_) (fun w hw e => ?_)
  · exact ep_xp_no h (br_t rfl (ep_yp_no h (br_t rfl ⟨rfl, ep_rel hG⟩)))
  · subst e
    obtain ⟨r, h1, h2⟩ := ep_mv (fm := fm) (ff := ff) (ma := ma) (sr := sr) (gr := gr) (rd := rd) hG hw 10 0 (by omega) (fun i hi => absurd hi (Nat.not_lt_zero i))
    refine ep_xp_yes hc hw (br_f (by decide) ?_)
    unfold wpX_stuckPositions
    dsimp only
    refine ep_xforce hG ep_I_0.symm (nm_r (show _ = ep_I (ep_rc (ep_fr c ow E 0) (fun v => bt (K 0) v = true) 0) from ?_) ⟨_, h1 _ ?_⟩)
    · have h := ep_I_or (fun v => bt (K 0) v = true) (ep_fr c ow E 0 fun _ => False)
      rw [← k0] at h
      exact h
    · exact ep_yp_yes hc hw (br_f (by decide) ⟨_, h2 _ ⟨rfl, ep_rel hG⟩⟩)
end
section
/-! goals and score -/
theorem ep_bv0 (P : Nat → Prop) {v : Nat} (hv : v < 32) (h : ¬ P v) : (ep_I P >>> (nI v &&& 31)) &&& 1 = 0 := by
  rw [ep_bit1 _ hv, if_neg (fun z => h ((ep_I_bit P v).1 z).2)]
theorem ep_bv1 (P : Nat → Prop) {v : Nat} (hv : v < 10) (h : P v) : (ep_I P >>> (nI v &&& 31)) &&& 1 = 1 := (ep_bv P hv).2 h
theorem ep_0shl : ∀ g, g < 9 → (0 : Int32) <<< (nI g &&& 31) = 0 := by decide +kernel
theorem ep_or0 (x : Int32) : x ||| 0 = x := ep_beq fun i _ => by rw [b_or, b_0, Bool.or_false]
theorem ep_xgoals {c : Nat} {fm : Int32} {ow E K ma : Nat → Int32} {sr : Nat → Int64} (hG : ep_G c ow E K) {v : Nat} (hv : v < c) {post : Int32 → SX → Prop}
    (h : ∀ fm' ma' sr', post (ep_sI (fun g => ep_R c (ep_fr c ow E 0) (ep_fr c ow E 1) (fun s v => bt (K s) v = true) g v) 9) (nI c, fm', ow, E, K, ma', sr')) :
    ∃ n, wX_goals_14 post (nI v) n 0 0 (nI c) fm ow E K ma sr := by
  have hc := hG.1
  have key : ∀ d g fm ma sr, g + d = 9 → wX_goals_14 post (nI v) (d + 1) (ep_sI (fun g => ep_R c (ep_fr c ow E 0) (ep_fr c ow E 1) (fun s v => bt (K s) v = true) g v) g) (nI g) (nI c) fm ow E K ma sr := by
    intro d
    induction d with
    | zero =>
      intro g fm ma sr hg
      have e : g = 9 := by omega
      subst e
      exact br_t (nI_le (a := 9) (b := 9) (by omega) (by omega)) (h _ _ _)
    | succ d ih =>
      intro g fm ma sr hg
      refine br_f (nI_ge (b := 9) (by omega) (by omega)) (ep_xgoal hG (by omega) fun fm' ma' sr' => nm_r ?_ (nm_r (nI_1 g) (ih (g + 1) fm' ma' sr' (by omega))))
      by_cases hp : ep_R c (ep_fr c ow E 0) (ep_fr c ow E 1) (fun s v => bt (K s) v = true) g v
      · rw [ep_bv1 _ (by omega) hp, ep_sI_t (p := fun g => ep_R c (ep_fr c ow E 0) (ep_fr c ow E 1) (fun s v => bt (K s) v = true) g v) (k := g) hp]
      · rw [ep_bv0 _ (by omega) hp, ep_0shl g (by omega), ep_or0, ep_sI_f (p := fun g => ep_R c (ep_fr c ow E 0) (ep_fr c ow E 1) (fun s v => bt (K s) v = true) g v) (k := g) hp]
  exact ⟨_, key 9 0 fm ma sr (by omega)⟩
theorem ep_ygoals {c : Nat} {ff : Int32} {ow E K gr rd : Nat → Int32} (hG : ep_G c ow E K) {v : Nat} (hv : v < c) {post : Int32 → SY → Prop}
    (h : ∀ ff' gr' rd', post (ep_sI (fun g => ep_R c (ep_fr c ow E 0) (ep_fr c ow E 1) (fun s v => bt (K s) v = true) g v) 9) (nI c, ff', ow, E, K, gr', rd')) :
    ∃ n, wY_goals_14 post (nI v) n 0 0 (nI c) ff ow E K gr rd := by
  have hc := hG.1
  have key : ∀ d g ff gr rd, g + d = 9 → wY_goals_14 post (nI v) (d + 1) (ep_sI (fun g => ep_R c (ep_fr c ow E 0) (ep_fr c ow E 1) (fun s v => bt (K s) v = true) g v) g) (nI g) (nI c) ff ow E K gr rd := by
    intro d
    induction d with
    | zero =>
      intro g ff gr rd hg
      have e : g = 9 := by omega
      subst e
      exact br_t (nI_le (a := 9) (b := 9) (by omega) (by omega)) (h _ _ _)
    | succ d ih =>
      intro g ff gr rd hg
      refine br_f (nI_ge (b := 9) (by omega) (by omega)) (ep_ysolve hG (by omega) fun ff' gr' rd' => ?_)
      have hb := ep_bv (ep_R c (ep_fr c ow E 0) (ep_fr c ow E 1) (fun s v => bt (K s) v = true) g) (v := v) (by omega)
      have ih := ih (g + 1) ff' gr' rd' (by omega)
      by_cases hp : ep_R c (ep_fr c ow E 0) (ep_fr c ow E 1) (fun s v => bt (K s) v = true) g v
      · refine br_t (hb.2 hp) (nm_r ?_ (nm_r (nI_1 g) ih))
        rw [ep_sI_t (p := fun g => ep_R c (ep_fr c ow E 0) (ep_fr c ow E 1) (fun s v => bt (K s) v = true) g v) (k := g) hp]
      · refine br_f (fun z => hp (hb.1 z)) (nm_r (nI_1 g) ?_)
        rw [ep_sI_f (p := fun g => ep_R c (ep_fr c ow E 0) (ep_fr c ow E 1) (fun s v => bt (K s) v = true) g v) (k := g) hp] at ih
        exact ih
  exact ⟨_, key 9 0 ff gr rd (by omega)⟩
theorem i_vc_goals {k : Nat} {u : SX} {v : SY} (I : i_Rel k u v) (hk : k + 3 ≤ 1536) (v1 : Int32) : wpX_goals (fun r u' => wpY_goals (fun r' v' => r' = r ∧ i_Rel (k + 3) u' v') v v1) u v1 := by
  obtain ⟨c, fm, ow, E, K, ma, sr, ff, gr, rd, hG, rfl, rfl, _⟩ := I
  have hc := hG.1
  unfold wpX_goals wpY_goals
  dsimp only
  refine ep_no (x := v1) (n := c) (by omega) (fun h => ?_) (fun w hw e => ?_)
  · exact ep_xp_no h (br_t rfl (ep_yp_no h (br_t rfl ⟨rfl, ep_rel hG⟩)))
  · subst e
    refine ep_xp_yes hc hw (br_f (by decide) (ep_xgoals hG hw fun fm' ma' sr' => ?_))
    exact ep_yp_yes hc hw (br_f (by decide) (ep_ygoals hG hw fun ff' gr' rd' => ⟨rfl, ep_rel hG⟩))
/-! score: the pairs by goals, and by positions -/
def ep_sg (q : Nat → Nat) : Nat → Nat
  | 0 => 0
  | k + 1 => ep_sg q k + q k
noncomputable def ep_in1 (p : Prop) : Nat := @ite Nat p (Classical.propDecidable p) 1 0
theorem ep_cn_in (p : Nat → Prop) (k : Nat) : ep_cn p (k + 1) = ep_cn p k + ep_in1 (p k) := rfl
theorem ep_sg_add (q r : Nat → Nat) : ∀ k, ep_sg (fun g => q g + r g) k = ep_sg q k + ep_sg r k := by
  intro k
  induction k with
  | zero => rfl
  | succ k ih =>
    show ep_sg (fun g => q g + r g) k + (q k + r k) = (ep_sg q k + q k) + (ep_sg r k + r k)
    rw [ih]
    omega
theorem ep_row (Q : Nat → Nat → Prop) (c : Nat) : ∀ g, g ≤ 9 → ep_cn (fun n => Q (n % 9) (n / 9)) (9 * c + g) = ep_cn (fun n => Q (n % 9) (n / 9)) (9 * c) + ep_sg (fun h => ep_in1 (Q h c)) g := by
  intro g
  induction g with
  | zero => intro _; rfl
  | succ g ih =>
    intro hg
    have e1 : (9 * c + g) % 9 = g := by omega
    have e2 : (9 * c + g) / 9 = c := by omega
    show ep_cn (fun n => Q (n % 9) (n / 9)) (9 * c + g) + ep_in1 (Q ((9 * c + g) % 9) ((9 * c + g) / 9)) = _ + (ep_sg (fun h => ep_in1 (Q h c)) g + ep_in1 (Q g c))
    rw [ih (by omega), e1, e2]
    omega
theorem ep_grid (Q : Nat → Nat → Prop) : ∀ c, ep_cn (fun n => Q (n % 9) (n / 9)) (9 * c) = ep_sg (fun g => ep_cn (Q g) c) 9 := by
  intro c
  induction c with
  | zero => rfl
  | succ c ih =>
    have e : 9 * (c + 1) = 9 * c + 9 := by omega
    have e2 : (fun g => ep_cn (Q g) (c + 1)) = fun g => ep_cn (Q g) c + ep_in1 (Q g c) := rfl
    rw [e, ep_row Q c 9 (Nat.le_refl 9), ih, e2, ep_sg_add]
theorem ep_cn_top {p : Nat → Prop} {c : Nat} (h : ∀ i, p i → i < c) : ∀ d, ep_cn p (c + d) = ep_cn p c := by
  intro d
  induction d with
  | zero => rfl
  | succ d ih =>
    show ep_cn p (c + d + 1) = _
    rw [ep_cn_f (fun x => by have := h _ x; omega), ih]
theorem ep_sg_c (q r : Nat → Nat) : ∀ k, (∀ g, g < k → q g = r g) → ep_sg q k = ep_sg r k := by
  intro k
  induction k with
  | zero => intro _; rfl
  | succ k ih =>
    intro h
    show ep_sg q k + q k = ep_sg r k + r k
    rw [ih (fun g hg => h g (by omega)), h k (by omega)]
theorem ep_addbit (P : Nat → Prop) (t : Nat) {v : Nat} (hv : v < 10) : nI t + ((ep_I P >>> (nI v &&& 31)) &&& 1) = nI (t + ep_in1 (P v)) := by
  by_cases h : P v
  · rw [ep_bv1 P hv h]
    have e : ep_in1 (P v) = 1 := by unfold ep_in1; rw [if_pos h]
    rw [e]
    exact nI_1 t
  · rw [ep_bv0 P (by omega) h]
    have e : ep_in1 (P v) = 0 := by unfold ep_in1; rw [if_neg h]
    rw [e]
    exact nI_add t 0
theorem ep_xscore {c : Nat} {fm : Int32} {ow E K ma : Nat → Int32} {sr : Nat → Int64} (hG : ep_G c ow E K) {post : Int32 → SX → Prop}
    (h : ∀ fm' ma' sr', post (nI (ep_sg (fun g => ep_cn (ep_R c (ep_fr c ow E 0) (ep_fr c ow E 1) (fun s v => bt (K s) v = true) g) 10) 9)) (nI c, fm', ow, E, K, ma', sr')) :
    wpX_score post (nI c, fm, ow, E, K, ma, sr) := by
  obtain ⟨R, eR⟩ : ∃ R, R = ep_R c (ep_fr c ow E 0) (ep_fr c ow E 1) (fun s v => bt (K s) v = true) := ⟨_, rfl⟩
  rw [← eR] at h
  have inner : ∀ (J4 : Int32 → Int32 → Int32 → Int32 → (Nat → Int32) → (Nat → Int32) → (Nat → Int32) → (Nat → Int32) → (Nat → Int64) → Prop) (g t : Nat) (fm : Int32) (ma : Nat → Int32) (sr : Nat → Int64),
      J4 (nI (t + ep_cn (R g) 10)) (nI (g + 1)) (nI c) fm ow E K ma sr → ∀ d j, j + d = 10 → wX_score_19 post J4 (nI g) (ep_I (R g)) (nI c) fm ow E K ma sr (d + 1) (nI (t + ep_cn (R g) j)) (nI j) := by
    intro J4 g t fm ma sr hJ d
    induction d with
    | zero =>
      intro j hj
      have e : j = 10 := by omega
      subst e
      exact br_t (nI_le (a := 10) (b := 10) (by omega) (by omega)) (nm_r (nI_1 g) hJ)
    | succ d ih =>
      intro j hj
      refine br_f (nI_ge (b := 10) (by omega) (by omega)) (nm_r (ep_addbit (R g) _ (by omega)) (nm_r (nI_1 j) ?_))
      have ih := ih (j + 1) (by omega)
      rw [ep_cn_in, ← Nat.add_assoc] at ih
      exact ih
  have key : ∀ d g fm ma sr, g + d = 9 → wX_score_4 post (d + 1) (nI (ep_sg (fun g => ep_cn (R g) 10) g)) (nI g) (nI c) fm ow E K ma sr := by
    intro d
    induction d with
    | zero =>
      intro g fm ma sr hg
      have e : g = 9 := by omega
      subst e
      exact br_t (nI_le (a := 9) (b := 9) (by omega) (by omega)) (h _ _ _)
    | succ d ih =>
      intro g fm ma sr hg
      refine br_f (nI_ge (b := 9) (by omega) (by omega)) (ep_xgoal hG (by omega) fun fm' ma' sr' => ?_)
      rw [← eR]
      exact ⟨_, inner _ g _ fm' ma' sr' (ih (g + 1) fm' ma' sr' (by omega)) 10 0 (by omega)⟩
  exact ⟨_, key 9 0 fm ma sr (by omega)⟩
theorem ep_d9 : ∀ i, i < 90 → nI i / 9 = nI (i / 9) := by decide +kernel
theorem ep_r9 : ∀ i, i < 90 → nI i - nI i / 9 * 9 = nI (i % 9) := by decide +kernel
theorem ep_9c : ∀ c, c < 11 → 9 * nI c = nI (9 * c) := by decide +kernel
theorem ep_yscore {c : Nat} {ff : Int32} {ow E K gr rd : Nat → Int32} (hG : ep_G c ow E K) {post : Int32 → SY → Prop}
    (h : ∀ ff' gr' rd', post (nI (ep_cn (fun n => ep_R c (ep_fr c ow E 0) (ep_fr c ow E 1) (fun s v => bt (K s) v = true) (n % 9) (n / 9)) (9 * c))) (nI c, ff', ow, E, K, gr', rd')) :
    wpY_score post (nI c, ff, ow, E, K, gr, rd) := by
  have hc := hG.1
  obtain ⟨R, eR⟩ : ∃ R, R = ep_R c (ep_fr c ow E 0) (ep_fr c ow E 1) (fun s v => bt (K s) v = true) := ⟨_, rfl⟩
  rw [← eR] at h
  have key : ∀ d i ff gr rd, i + d = 9 * c → wY_score_4 post (d + 1) (nI (ep_cn (fun n => R (n % 9) (n / 9)) i)) (nI i) (nI c) ff ow E K gr rd := by
    intro d
    induction d with
    | zero =>
      intro i ff gr rd hi
      have e : i = 9 * c := by omega
      subst e
      refine br_t ?_ (h _ _ _)
      rw [ep_9c c (by omega)]
      exact nI_le (Nat.le_refl _) (by omega)
    | succ d ih =>
      intro i ff gr rd hi
      have hn : ¬ 9 * nI c ≤ nI i := by
        rw [ep_9c c (by omega)]
        exact nI_ge (by omega) (by omega)
      refine br_f hn ⟨by decide, ?_⟩
      rw [ep_r9 i (by omega), ep_d9 i (by omega)]
      refine ep_ysolve hG (by omega) fun ff' gr' rd' => ⟨by decide, ?_⟩
      rw [← eR]
      refine nm_r (ep_addbit (R (i % 9)) _ (by omega)) (nm_r (nI_1 i) ?_)
      exact ih (i + 1) ff' gr' rd' (by omega)
  exact ⟨_, key (9 * c) 0 ff gr rd (by omega)⟩
theorem i_vc_score {k : Nat} {u : SX} {v : SY} (I : i_Rel k u v) (hk : k + 3 ≤ 1536) : wpX_score (fun r u' => wpY_score (fun r' v' => r' = r ∧ i_Rel (k + 3) u' v') v) u := by
  obtain ⟨c, fm, ow, E, K, ma, sr, ff, gr, rd, hG, rfl, rfl, _⟩ := I
  have hc := hG.1
  refine ep_xscore hG fun fm' ma' sr' => ep_yscore hG fun ff' gr' rd' => ⟨?_, ep_rel hG⟩
  rw [ep_grid]
  congr 1
  apply ep_sg_c
  intro g hg
  have h := ep_cn_top (p := ep_R c (ep_fr c ow E 0) (ep_fr c ow E 1) (fun s v => bt (K s) v = true) g) (c := c) (fun i x => ep_R_al hG (fun j hj v y => hG.2.2.2 j hj v y) hg i x) (10 - c)
  rw [show c + (10 - c) = 10 by omega] at h
  exact h.symm
end
