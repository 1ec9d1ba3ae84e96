/-! sets as predicates, least and greatest fixpoints, the nested fixpoint by ranks -/
def ep_le {S : Type} (A B : S → Prop) : Prop := ∀ s, A s → B s
def ep_mono {S T : Type} (F : (S → Prop) → (T → Prop)) : Prop := ∀ A B, ep_le A B → ep_le (F A) (F B)
def ep_lfp {S : Type} (F : (S → Prop) → (S → Prop)) : S → Prop := fun s => ∀ X, ep_le (F X) X → X s
def ep_gfp {S : Type} (F : (S → Prop) → (S → Prop)) : S → Prop := fun s => ∃ X, ep_le X (F X) ∧ X s
theorem ep_eq {S : Type} {A B : S → Prop} (h1 : ep_le A B) (h2 : ep_le B A) : A = B :=
  funext fun s => propext ⟨h1 s, h2 s⟩
theorem ep_rfl {S : Type} (A : S → Prop) : ep_le A A := fun _ h => h
theorem ep_tr {S : Type} {A B C : S → Prop} (h1 : ep_le A B) (h2 : ep_le B C) : ep_le A C := fun s h => h2 s (h1 s h)
theorem ep_of_eq {S : Type} {A B : S → Prop} (h : A = B) : ep_le A B := fun _ x => h ▸ x
theorem ep_lfp_le {S : Type} {F : (S → Prop) → (S → Prop)} {X : S → Prop} (h : ep_le (F X) X) : ep_le (ep_lfp F) X :=
  fun _ hs => hs X h
theorem ep_le_gfp {S : Type} {F : (S → Prop) → (S → Prop)} {X : S → Prop} (h : ep_le X (F X)) : ep_le X (ep_gfp F) :=
  fun _ hs => ⟨X, h, hs⟩
theorem ep_lfp_pre {S : Type} {F : (S → Prop) → (S → Prop)} (hF : ep_mono F) : ep_le (F (ep_lfp F)) (ep_lfp F) :=
  fun s hs X hX => hX s (hF _ _ (ep_lfp_le hX) s hs)
theorem ep_lfp_post {S : Type} {F : (S → Prop) → (S → Prop)} (hF : ep_mono F) : ep_le (ep_lfp F) (F (ep_lfp F)) :=
  ep_lfp_le (hF _ _ (ep_lfp_pre hF))
theorem ep_gfp_post {S : Type} {F : (S → Prop) → (S → Prop)} (hF : ep_mono F) : ep_le (ep_gfp F) (F (ep_gfp F)) := by
  intro s hs
  obtain ⟨X, hX, hs⟩ := hs
  exact hF _ _ (ep_le_gfp hX) s (hX s hs)
theorem ep_gfp_pre {S : Type} {F : (S → Prop) → (S → Prop)} (hF : ep_mono F) : ep_le (F (ep_gfp F)) (ep_gfp F) :=
  ep_le_gfp (hF _ _ (ep_gfp_post hF))
theorem ep_lfp_eq {S : Type} {F : (S → Prop) → (S → Prop)} (hF : ep_mono F) : F (ep_lfp F) = ep_lfp F :=
  ep_eq (ep_lfp_pre hF) (ep_lfp_post hF)
theorem ep_gfp_eq {S : Type} {F : (S → Prop) → (S → Prop)} (hF : ep_mono F) : F (ep_gfp F) = ep_gfp F :=
  ep_eq (ep_gfp_pre hF) (ep_gfp_post hF)
theorem ep_lfp_mono {S : Type} {F G : (S → Prop) → (S → Prop)} (h : ∀ X, ep_le (F X) (G X)) : ep_le (ep_lfp F) (ep_lfp G) :=
  fun _ hs X hX => hs X (fun t ht => hX t (h X t ht))
theorem ep_gfp_mono {S : Type} {F G : (S → Prop) → (S → Prop)} (h : ∀ X, ep_le (F X) (G X)) : ep_le (ep_gfp F) (ep_gfp G) := by
  intro s hs
  obtain ⟨X, hX, hs⟩ := hs
  exact ⟨X, fun t ht => h X t (hX t ht), hs⟩
theorem ep_lfp_ind {S : Type} {F : (S → Prop) → (S → Prop)} (hF : ep_mono F) {X : S → Prop}
    (h : ∀ s, F (fun t => X t ∧ ep_lfp F t) s → X s) : ep_le (ep_lfp F) X := by
  have h2 : ep_le (ep_lfp F) (fun t => X t ∧ ep_lfp F t) := by
    apply ep_lfp_le
    intro s hs
    exact ⟨h s hs, ep_lfp_pre hF s (hF _ _ (fun t ht => ht.2) s hs)⟩
  exact fun s hs => (h2 s hs).1
theorem ep_gfp_ind {S : Type} {F : (S → Prop) → (S → Prop)} (hF : ep_mono F) {X : S → Prop}
    (h : ∀ s, X s → F (fun t => X t ∨ ep_gfp F t) s) : ep_le X (ep_gfp F) := by
  have h2 : ep_le (fun t => X t ∨ ep_gfp F t) (ep_gfp F) := by
    apply ep_le_gfp
    intro s hs
    cases hs with
    | inl hs => exact h s hs
    | inr hs => exact hF _ _ (fun t ht => Or.inr ht) s (ep_gfp_post hF s hs)
  exact fun s hs => h2 s (Or.inl hs)
theorem ep_lfp_const {S : Type} (A : S → Prop) : ep_lfp (fun _ => A) = A :=
  ep_eq (ep_lfp_le (ep_rfl A)) (fun s hs X hX => hX s hs)
theorem ep_gfp_const {S : Type} (A : S → Prop) : ep_gfp (fun _ => A) = A :=
  ep_eq (fun s ⟨_, hX, hs⟩ => hX s hs) (ep_le_gfp (ep_rfl A))
def ep_not {S : Type} (A : S → Prop) : S → Prop := fun s => ¬ A s
theorem ep_nn {S : Type} (A : S → Prop) : ep_not (ep_not A) = A := funext fun s => propext Classical.not_not
def ep_du {S T : Type} (F : (S → Prop) → (T → Prop)) : (S → Prop) → (T → Prop) := fun X => ep_not (F (ep_not X))
theorem ep_du_mono {S T : Type} {F : (S → Prop) → (T → Prop)} (h : ep_mono F) : ep_mono (ep_du F) :=
  fun A B hab s hs hx => hs (h (ep_not B) (ep_not A) (fun t ht ha => ht (hab t ha)) s hx)
theorem ep_not_gfp {S : Type} (F : (S → Prop) → (S → Prop)) : ep_not (ep_gfp F) = ep_lfp (ep_du F) := by
  apply ep_eq
  · intro s hs X hX
    apply Classical.byContradiction
    intro hx
    refine hs ⟨ep_not X, ?_, hx⟩
    intro t ht
    apply Classical.byContradiction
    intro hf
    exact ht (hX t hf)
  · intro s hs hg
    obtain ⟨X, hX, hx⟩ := hg
    refine hs (ep_not X) ?_ hx
    intro t ht hxt
    refine ht ?_
    rw [ep_nn]
    exact hX t hxt
theorem ep_not_lfp {S : Type} (F : (S → Prop) → (S → Prop)) : ep_not (ep_lfp F) = ep_gfp (ep_du F) := by
  have h := ep_not_gfp (ep_du F)
  have e : ep_du (ep_du F) = F := by
    funext X
    show ep_not (ep_not (F (ep_not (ep_not X)))) = F X
    rw [ep_nn, ep_nn]
  rw [e] at h
  rw [← h, ep_nn]

/-- rank e: the greatest fixpoint if e is even, the least if e is odd -/
def ep_fix {S : Type} (e : Nat) (F : (S → Prop) → (S → Prop)) : S → Prop := if e % 2 = 0 then ep_gfp F else ep_lfp F
theorem ep_fix_even {S : Type} {e : Nat} (h : e % 2 = 0) (F : (S → Prop) → (S → Prop)) : ep_fix e F = ep_gfp F := if_pos h
theorem ep_fix_odd {S : Type} {e : Nat} (h : e % 2 = 1) (F : (S → Prop) → (S → Prop)) : ep_fix e F = ep_lfp F :=
  if_neg (by omega)
theorem ep_par (e : Nat) : e % 2 = 0 ∨ e % 2 = 1 := by omega
theorem ep_fix_eq {S : Type} {F : (S → Prop) → (S → Prop)} (e : Nat) (hF : ep_mono F) : F (ep_fix e F) = ep_fix e F := by
  rcases ep_par e with h | h
  · rw [ep_fix_even h]; exact ep_gfp_eq hF
  · rw [ep_fix_odd h]; exact ep_lfp_eq hF
theorem ep_fix_mono {S : Type} {F G : (S → Prop) → (S → Prop)} (e : Nat) (h : ∀ X, ep_le (F X) (G X)) : ep_le (ep_fix e F) (ep_fix e G) := by
  rcases ep_par e with h' | h'
  · rw [ep_fix_even h', ep_fix_even h']; exact ep_gfp_mono h
  · rw [ep_fix_odd h', ep_fix_odd h']; exact ep_lfp_mono h
theorem ep_fix_const {S : Type} (e : Nat) (A : S → Prop) : ep_fix e (fun _ => A) = A := by
  rcases ep_par e with h' | h'
  · rw [ep_fix_even h']; exact ep_gfp_const A
  · rw [ep_fix_odd h']; exact ep_lfp_const A

/-- W with its states of rank r taken from Z -/
def ep_at {S : Type} (rk : S → Nat) (r : Nat) (W Z : S → Prop) : S → Prop :=
  fun s => (rk s = r ∧ Z s) ∨ (rk s ≠ r ∧ W s)
theorem ep_at_eq {S : Type} {rk : S → Nat} {r : Nat} {W Z : S → Prop} {s : S} (h : rk s = r) : ep_at rk r W Z s = Z s :=
  propext ⟨fun x => x.elim (fun y => y.2) (fun y => absurd h y.1), fun x => Or.inl ⟨h, x⟩⟩
theorem ep_at_ne {S : Type} {rk : S → Nat} {r : Nat} {W Z : S → Prop} {s : S} (h : rk s ≠ r) : ep_at rk r W Z s = W s :=
  propext ⟨fun x => x.elim (fun y => absurd y.1 h) (fun y => y.2), fun x => Or.inr ⟨h, x⟩⟩
/-- the states of rank below r solved, greatest rank outermost; those of rank r and above as W has them -/
def ep_sol {S : Type} (rk : S → Nat) (cp : (S → Prop) → (S → Prop)) : Nat → (S → Prop) → (S → Prop)
  | 0, W => W
  | r + 1, W => ep_fix r (fun X => ep_sol rk cp r (ep_at rk r W (cp X)))
theorem ep_sol_s {S : Type} (rk : S → Nat) (cp : (S → Prop) → (S → Prop)) (r : Nat) (W : S → Prop) :
    ep_sol rk cp (r + 1) W = ep_fix r (fun X => ep_sol rk cp r (ep_at rk r W (cp X))) := rfl
theorem ep_sol_0 {S : Type} (rk : S → Nat) (cp : (S → Prop) → (S → Prop)) (W : S → Prop) : ep_sol rk cp 0 W = W := rfl
theorem ep_sol_mono {S : Type} (rk : S → Nat) (cp : (S → Prop) → (S → Prop)) : ∀ (r : Nat) (W W' : S → Prop),
    (∀ s, r ≤ rk s → W s → W' s) → ep_le (ep_sol rk cp r W) (ep_sol rk cp r W') := by
  intro r
  induction r with
  | zero => intro W W' h s hs; exact h s (Nat.zero_le _) hs
  | succ r ih =>
    intro W W' h
    rw [ep_sol_s, ep_sol_s]
    apply ep_fix_mono
    intro X
    apply ih
    intro s hs ha
    cases ha with
    | inl ha => exact Or.inl ha
    | inr ha =>
      have h1 := ha.1
      exact Or.inr ⟨h1, h s (by omega) ha.2⟩
theorem ep_sol_dep {S : Type} (rk : S → Nat) (cp : (S → Prop) → (S → Prop)) (r : Nat) {W W' : S → Prop}
    (h : ∀ s, r ≤ rk s → (W s ↔ W' s)) : ep_sol rk cp r W = ep_sol rk cp r W' :=
  ep_eq (ep_sol_mono rk cp r _ _ fun s hs => (h s hs).1) (ep_sol_mono rk cp r _ _ fun s hs => (h s hs).2)
theorem ep_solF {S : Type} (rk : S → Nat) {cp : (S → Prop) → (S → Prop)} (hc : ep_mono cp) (r : Nat) (W : S → Prop) :
    ep_mono (fun X => ep_sol rk cp r (ep_at rk r W (cp X))) := by
  intro A B hab
  apply ep_sol_mono
  intro s _ ha
  cases ha with
  | inl ha => exact Or.inl ⟨ha.1, hc A B hab s ha.2⟩
  | inr ha => exact Or.inr ha
theorem ep_sol_un {S : Type} (rk : S → Nat) {cp : (S → Prop) → (S → Prop)} (hc : ep_mono cp) (r : Nat) (W : S → Prop) :
    ep_sol rk cp (r + 1) W = ep_sol rk cp r (ep_at rk r W (cp (ep_sol rk cp (r + 1) W))) :=
  (ep_fix_eq r (ep_solF rk hc r W)).symm
theorem ep_sol_hi {S : Type} (rk : S → Nat) {cp : (S → Prop) → (S → Prop)} (hc : ep_mono cp) : ∀ (r : Nat) (W : S → Prop) (s : S),
    r ≤ rk s → (ep_sol rk cp r W s ↔ W s) := by
  intro r
  induction r with
  | zero => intro W s _; exact Iff.rfl
  | succ r ih =>
    intro W s hs
    rw [ep_sol_un rk hc, ih _ s (by omega), ep_at_ne (by omega)]
theorem ep_sol_skip {S : Type} (rk : S → Nat) (cp : (S → Prop) → (S → Prop)) (r : Nat) (W : S → Prop) (h : ∀ s, rk s ≠ r) :
    ep_sol rk cp (r + 1) W = ep_sol rk cp r W := by
  have e : (fun X => ep_sol rk cp r (ep_at rk r W (cp X))) = fun _ => ep_sol rk cp r W := by
    funext X
    have e2 : ep_at rk r W (cp X) = W := by
      funext s
      exact ep_at_ne (h s)
    rw [e2]
  rw [ep_sol_s, e, ep_fix_const]
theorem ep_sol_ind {S : Type} {rk : S → Nat} {cp : (S → Prop) → (S → Prop)} (hc : ep_mono cp) {r : Nat} {W T : S → Prop} (ho : r % 2 = 1)
    (h : ep_le (ep_sol rk cp r (ep_at rk r W (cp (fun s => T s ∧ ep_sol rk cp (r + 1) W s)))) T) : ep_le (ep_sol rk cp (r + 1) W) T := by
  rw [ep_sol_s, ep_fix_odd ho] at *
  exact ep_lfp_ind (ep_solF rk hc r W) h
theorem ep_sol_co {S : Type} {rk : S → Nat} {cp : (S → Prop) → (S → Prop)} {r : Nat} {W T : S → Prop} (he : r % 2 = 0)
    (h : ep_le T (ep_sol rk cp r (ep_at rk r W (cp T)))) : ep_le T (ep_sol rk cp (r + 1) W) := by
  rw [ep_sol_s, ep_fix_even he]
  exact ep_le_gfp h
theorem ep_not_at {S : Type} (rk : S → Nat) (r : Nat) (W Z : S → Prop) : ep_not (ep_at rk r W Z) = ep_at rk r (ep_not W) (ep_not Z) := by
  funext s
  by_cases h : rk s = r
  · rw [ep_at_eq h]; show (¬ ep_at rk r W Z s) = _; rw [ep_at_eq h]; rfl
  · rw [ep_at_ne h]; show (¬ ep_at rk r W Z s) = _; rw [ep_at_ne h]; rfl
theorem ep_at_sh {S : Type} (rk : S → Nat) (r : Nat) (W Z : S → Prop) : ep_at rk r W Z = ep_at (fun s => rk s + 1) (r + 1) W Z := by
  funext s
  by_cases h : rk s = r
  · rw [ep_at_eq h, ep_at_eq (by show rk s + 1 = r + 1; omega)]
  · rw [ep_at_ne h, ep_at_ne (by show rk s + 1 ≠ r + 1; omega)]
/-- what player 1 has: the same with the ranks one higher and the other's force -/
theorem ep_sol_du {S : Type} (rk : S → Nat) (cp : (S → Prop) → (S → Prop)) : ∀ (r : Nat) (W : S → Prop),
    ep_not (ep_sol rk cp r W) = ep_sol (fun s => rk s + 1) (ep_du cp) (r + 1) (ep_not W) := by
  intro r
  induction r with
  | zero =>
    intro W
    rw [ep_sol_skip _ _ 0 _ (fun s => by show rk s + 1 ≠ 0; omega)]
    rfl
  | succ r ih =>
    intro W
    have e : ep_du (fun X => ep_sol rk cp r (ep_at rk r W (cp X))) =
        fun X => ep_sol (fun s => rk s + 1) (ep_du cp) (r + 1) (ep_at (fun s => rk s + 1) (r + 1) (ep_not W) (ep_du cp X)) := by
      funext X
      show ep_not (ep_sol rk cp r (ep_at rk r W (cp (ep_not X)))) = _
      rw [ih, ep_not_at, ep_at_sh]
      rfl
    rw [ep_sol_s rk, ep_sol_s _ _ (r + 1), ← e]
    rcases ep_par r with h | h
    · rw [ep_fix_even h, ep_fix_odd (by omega), ep_not_gfp]
    · rw [ep_fix_odd h, ep_fix_even (by omega), ep_not_lfp]

/-! the settling of ranks by turns -/
def ep_inv {S : Type} (rk : S → Nat) (cp : (S → Prop) → (S → Prop)) (W : S → Prop) : Prop :=
  ∀ r, (r % 2 = 0 → ep_le (ep_sol rk cp (r + 1) W) (ep_sol rk cp r W) ∧ ∀ s, rk s = r → cp (ep_sol rk cp r W) s → W s) ∧
    (r % 2 = 1 → ep_le (ep_sol rk cp r W) (ep_sol rk cp (r + 1) W) ∧ ∀ s, rk s = r → W s → cp (ep_sol rk cp r W) s)
theorem ep_inv_adv {S : Type} {rk : S → Nat} {cp : (S → Prop) → (S → Prop)} {W : S → Prop} {r : Nat}
    (hi : ep_inv rk cp W) (h : ep_sol rk cp r W = W) (hf : ∀ s, rk s = r → (cp W s ↔ W s)) : ep_sol rk cp (r + 1) W = W := by
  have e : ep_at rk r W (cp W) = W := by
    funext s
    by_cases hr : rk s = r
    · rw [ep_at_eq hr]; exact propext (hf s hr)
    · rw [ep_at_ne hr]
  have e2 : ep_sol rk cp r (ep_at rk r W (cp W)) = W := by rw [e, h]
  rcases ep_par r with hp | hp
  · have h1 := ((hi r).1 hp).1
    rw [h] at h1
    exact ep_eq h1 (ep_sol_co hp (ep_of_eq e2.symm))
  · have h1 := ((hi r).2 hp).1
    rw [h] at h1
    refine ep_eq ?_ h1
    rw [ep_sol_s, ep_fix_odd hp]
    exact ep_lfp_le (ep_of_eq e2)
/-- the states below rank r at their start -/
def ep_start {S : Type} (rk : S → Nat) (dom : S → Prop) (W : S → Prop) (r : Nat) (W2 : S → Prop) : Prop :=
  ∀ s, (r ≤ rk s → (W2 s ↔ W s)) ∧ (rk s < r → rk s % 2 = 0 → (W2 s ↔ dom s)) ∧ (rk s < r → rk s % 2 = 1 → ¬ W2 s)
theorem ep_inv_low {S : Type} {rk : S → Nat} {cp : (S → Prop) → (S → Prop)} (hc : ep_mono cp) {dom W W2 : S → Prop} {p r : Nat}
    (hd : ∀ X, ep_le (cp X) dom) (hs : ep_start rk dom W p W2) (hr : r < p) :
    (r % 2 = 0 → ep_le (ep_sol rk cp (r + 1) W2) (ep_sol rk cp r W2) ∧ ∀ s, rk s = r → cp (ep_sol rk cp r W2) s → W2 s) ∧
    (r % 2 = 1 → ep_le (ep_sol rk cp r W2) (ep_sol rk cp (r + 1) W2) ∧ ∀ s, rk s = r → W2 s → cp (ep_sol rk cp r W2) s) := by
  constructor
  · intro he
    constructor
    · rw [ep_sol_un rk hc]
      apply ep_sol_mono
      intro s _ ha
      cases ha with
      | inl ha => exact ((hs s).2.1 (by omega) (by omega)).mpr (hd _ s ha.2)
      | inr ha => exact ha.2
    · intro s hrs hcs
      exact ((hs s).2.1 (by omega) (by omega)).mpr (hd _ s hcs)
  · intro ho
    constructor
    · rw [ep_sol_un rk hc r W2]
      apply ep_sol_mono
      intro s _ ha
      by_cases hrs : rk s = r
      · exact absurd ha ((hs s).2.2 (by omega) (by omega))
      · exact Or.inr ⟨hrs, ha⟩
    · intro s hrs hw
      exact absurd hw ((hs s).2.2 (by omega) (by omega))
theorem ep_inv_0 {S : Type} {rk : S → Nat} {cp : (S → Prop) → (S → Prop)} (hc : ep_mono cp) {dom W W2 : S → Prop} {p : Nat}
    (hd : ∀ X, ep_le (cp X) dom) (hp : ∀ s, rk s < p) (hs : ep_start rk dom W p W2) : ep_inv rk cp W2 := by
  intro r
  by_cases hlt : r < p
  · exact ep_inv_low hc hd hs hlt
  · have hne : ∀ s, rk s ≠ r := fun s e => by have := hp s; omega
    rw [ep_sol_skip rk cp r W2 hne]
    exact ⟨fun _ => ⟨ep_rfl _, fun s hrs => absurd hrs (hne s)⟩, fun _ => ⟨ep_rfl _, fun s hrs => absurd hrs (hne s)⟩⟩
theorem ep_inv_chg {S : Type} {rk : S → Nat} {cp : (S → Prop) → (S → Prop)} (hc : ep_mono cp) {dom W W1 W2 : S → Prop} {p : Nat}
    (hd : ∀ X, ep_le (cp X) dom) (hi : ep_inv rk cp W) (h : ep_sol rk cp p W = W)
    (h1 : ∀ s, (rk s = p → (W1 s ↔ cp W s)) ∧ (rk s ≠ p → (W1 s ↔ W s))) (hs : ep_start rk dom W1 p W2) : ep_inv rk cp W2 := by
  have dep : ∀ r, p ≤ r → ep_sol rk cp r W2 = ep_sol rk cp r W1 := fun r hr => ep_sol_dep rk cp r fun s hrs => (hs s).1 (by omega)
  have dep2 : ∀ r, p < r → ep_sol rk cp r W2 = ep_sol rk cp r W := fun r hr => by
    rw [dep r (by omega)]
    exact ep_sol_dep rk cp r fun s hrs => (h1 s).2 (by omega)
  have eF : ep_sol rk cp p W2 = ep_sol rk cp p (ep_at rk p W (cp W)) := by
    rw [dep p (Nat.le_refl p)]
    apply ep_sol_dep
    intro s _
    by_cases hr : rk s = p
    · rw [ep_at_eq hr]; exact (h1 s).1 hr
    · rw [ep_at_ne hr]; exact (h1 s).2 hr
  intro r
  by_cases hlt : r < p
  · exact ep_inv_low hc hd hs hlt
  · by_cases heq : r = p
    · subst heq
      constructor
      · intro he
        have hI := (hi r).1 he
        rw [h] at hI
        have hle : ep_le (ep_sol rk cp r W2) W := by
          rw [eF]
          refine ep_tr (ep_sol_mono rk cp r _ W ?_) (ep_of_eq h)
          intro s _ ha
          cases ha with
          | inl ha => exact hI.2 s ha.1 ha.2
          | inr ha => exact ha.2
        constructor
        · rw [dep2 (r + 1) (by omega), eF, ep_sol_un rk hc r W]
          exact ep_solF rk hc r W _ _ hI.1
        · intro s hrs hcs
          exact ((hs s).1 (by omega)).mpr (((h1 s).1 hrs).mpr (hc _ _ hle s hcs))
      · intro ho
        have hI := (hi r).2 ho
        rw [h] at hI
        have hle : ep_le W (ep_sol rk cp r W2) := by
          rw [eF]
          refine ep_tr (ep_of_eq h.symm) (ep_sol_mono rk cp r W _ ?_)
          intro s _ ha
          by_cases hrs : rk s = r
          · exact Or.inl ⟨hrs, hI.2 s hrs ha⟩
          · exact Or.inr ⟨hrs, ha⟩
        constructor
        · rw [dep2 (r + 1) (by omega), eF, ep_sol_un rk hc r W]
          exact ep_solF rk hc r W _ _ hI.1
        · intro s hrs hw
          exact hc _ _ hle s (((h1 s).1 hrs).mp (((hs s).1 (by omega)).mp hw))
    · have hw : ∀ s, rk s = r → (W2 s ↔ W s) := fun s hrs => ((hs s).1 (by omega)).trans ((h1 s).2 (by omega))
      constructor
      · intro he
        have hI := (hi r).1 he
        rw [dep2 (r + 1) (by omega), dep2 r (by omega)]
        exact ⟨hI.1, fun s hrs hcs => (hw s hrs).mpr (hI.2 s hrs hcs)⟩
      · intro ho
        have hI := (hi r).2 ho
        rw [dep2 (r + 1) (by omega), dep2 r (by omega)]
        exact ⟨hI.1, fun s hrs hcs => hI.2 s hrs ((hw s hrs).mp hcs)⟩
