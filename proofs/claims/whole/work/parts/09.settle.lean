/-! the settling of ranks ends in time -/
def ep_h (c n : Nat → Nat) : Nat → Nat → Nat
  | 0, _ => 0
  | d + 1, r => c r + (n r + 1) * ep_h c n d (r + 1)
def ep_pr (n : Nat → Nat) : Nat → Nat → Nat
  | 0, _ => 1
  | d + 1, r => (n r + 1) * ep_pr n d (r + 1)
theorem ep_h_same {c c' n : Nat → Nat} : ∀ d r, (∀ q, r ≤ q → c' q = c q) → ep_h c' n d r = ep_h c n d r := by
  intro d
  induction d with
  | zero => intro r _; rfl
  | succ d ih =>
    intro r h
    show c' r + (n r + 1) * ep_h c' n d (r + 1) = c r + (n r + 1) * ep_h c n d (r + 1)
    rw [ih (r + 1) (fun q hq => h q (by omega)), h r (Nat.le_refl r)]
theorem ep_h_lt {c c' n : Nat → Nat} {p : Nat} (h1 : ∀ q, p < q → c' q = c q) (h2 : c' p < c p) (h3 : ∀ q, q < p → c' q ≤ n q) :
    ∀ d r, r ≤ p → p < r + d → ep_h c' n d r < ep_h c n d r := by
  intro d
  induction d with
  | zero => intro r h4 h5; omega
  | succ d ih =>
    intro r h4 h5
    show c' r + (n r + 1) * ep_h c' n d (r + 1) < c r + (n r + 1) * ep_h c n d (r + 1)
    by_cases e : p = r
    · subst e
      rw [ep_h_same d (p + 1) (fun q hq => h1 q (by omega))]
      omega
    · have hA := ih (r + 1) (by omega) (by omega)
      have h6 : (n r + 1) * (ep_h c' n d (r + 1) + 1) ≤ (n r + 1) * ep_h c n d (r + 1) := Nat.mul_le_mul_left _ hA
      rw [Nat.mul_succ] at h6
      have := h3 r (by omega)
      omega
theorem ep_h_pr {c n : Nat → Nat} (h : ∀ q, c q ≤ n q) : ∀ d r, ep_h c n d r + 1 ≤ ep_pr n d r := by
  intro d
  induction d with
  | zero => intro r; exact Nat.le_refl 1
  | succ d ih =>
    intro r
    show c r + (n r + 1) * ep_h c n d (r + 1) + 1 ≤ (n r + 1) * ep_pr n d (r + 1)
    have h6 : (n r + 1) * (ep_h c n d (r + 1) + 1) ≤ (n r + 1) * ep_pr n d (r + 1) := Nat.mul_le_mul_left _ (ih (r + 1))
    rw [Nat.mul_succ] at h6
    have := h r
    omega
def ep_dom (M c : Nat) : Nat × Nat → Prop := fun s => s.1 < M ∧ s.2 < c
def ep_st (W : Nat × Nat → Prop) : Nat → Prop := fun k => W (k / 10, k % 10)
noncomputable def ep_cw (rk : Nat × Nat → Nat) (dom W : Nat × Nat → Prop) (r : Nat) : Nat :=
  ep_cn (ep_st fun s => dom s ∧ rk s = r ∧ ((r % 2 = 0 ∧ W s) ∨ (r % 2 = 1 ∧ ¬ W s))) 40
noncomputable def ep_nw (rk : Nat × Nat → Nat) (dom : Nat × Nat → Prop) (r : Nat) : Nat := ep_cn (ep_st fun s => dom s ∧ rk s = r) 40
theorem ep_cw_le (rk : Nat × Nat → Nat) (dom W : Nat × Nat → Prop) (r : Nat) : ep_cw rk dom W r ≤ ep_nw rk dom r :=
  ep_cn_mono 40 fun _ _ h => ⟨h.1, h.2.1⟩
theorem ep_cw_same {rk : Nat × Nat → Nat} {dom W W2 : Nat × Nat → Prop} {r : Nat} (h : ∀ s, rk s = r → (W2 s ↔ W s)) : ep_cw rk dom W2 r = ep_cw rk dom W r := by
  have e : (fun s => dom s ∧ rk s = r ∧ ((r % 2 = 0 ∧ W2 s) ∨ (r % 2 = 1 ∧ ¬ W2 s))) = (fun s => dom s ∧ rk s = r ∧ ((r % 2 = 0 ∧ W s) ∨ (r % 2 = 1 ∧ ¬ W s))) := by
    funext s
    by_cases hr : rk s = r
    · rw [propext (h s hr)]
    · exact propext ⟨fun x => absurd x.2.1 hr, fun x => absurd x.2.1 hr⟩
  unfold ep_cw
  rw [e]
theorem ep_k (m : Nat) {v : Nat} (hv : v < 10) : (m * 10 + v) / 10 = m ∧ (m * 10 + v) % 10 = v := by omega
theorem ep_st_k (W : Nat × Nat → Prop) (m : Nat) {v : Nat} (hv : v < 10) : ep_st W (m * 10 + v) = W (m, v) := by
  unfold ep_st
  rw [(ep_k m hv).1, (ep_k m hv).2]
def ep_ok (rk : Nat × Nat → Nat) (cp : (Nat × Nat → Prop) → (Nat × Nat → Prop)) (dom : Nat × Nat → Prop) (W : Nat × Nat → Prop) (rank round : Nat) : Prop :=
  ep_le W dom ∧ ep_inv rk cp W ∧ ep_sol rk cp rank W = W ∧ rank ≤ 6 ∧ round + 7 * ep_h (ep_cw rk dom W) (ep_nw rk dom) 6 0 + (6 - rank) ≤ 999999
theorem ep_ok_adv {rk : Nat × Nat → Nat} {cp : (Nat × Nat → Prop) → (Nat × Nat → Prop)} {dom W : Nat × Nat → Prop} {rank round : Nat}
    (hd : ∀ X, ep_le (cp X) dom) (h : ep_ok rk cp dom W rank round) (hr : rank < 6) (hf : ∀ s, dom s → rk s = rank → (cp W s ↔ W s)) :
    ep_ok rk cp dom W (rank + 1) (round + 1) := by
  obtain ⟨h1, h2, h3, h4, h5⟩ := h
  refine ⟨h1, h2, ep_inv_adv h2 h3 ?_, by omega, by omega⟩
  intro s hs
  by_cases hds : dom s
  · exact hf s hds hs
  · exact ⟨fun x => absurd (hd _ s x) hds, fun x => absurd (h1 s x) hds⟩
theorem ep_ok_chg {rk : Nat × Nat → Nat} {cp : (Nat × Nat → Prop) → (Nat × Nat → Prop)} (hc : ep_mono cp) {M c : Nat} (hM : M ≤ 4) (hcc : c ≤ 10) {W W2 : Nat × Nat → Prop} {rank round : Nat}
    (hd : ∀ X, ep_le (cp X) (ep_dom M c)) (h : ep_ok rk cp (ep_dom M c) W rank round) (hr : rank < 6)
    (hf : ¬ ∀ s, ep_dom M c s → rk s = rank → (cp W s ↔ W s)) (h2d : ep_le W2 (ep_dom M c)) (hs : ep_start rk (ep_dom M c) (ep_at rk rank W (cp W)) rank W2) :
    ep_ok rk cp (ep_dom M c) W2 0 (round + 1) := by
  obtain ⟨h1, h2, h3, h4, h5⟩ := h
  have hat : ∀ s, (rk s = rank → (ep_at rk rank W (cp W) s ↔ cp W s)) ∧ (rk s ≠ rank → (ep_at rk rank W (cp W) s ↔ W s)) := fun s =>
    ⟨fun e => by rw [ep_at_eq e], fun e => by rw [ep_at_ne e]⟩
  have hW2 : ∀ s, rk s = rank → (W2 s ↔ cp W s) := fun s e => ((hs s).1 (by omega)).trans ((hat s).1 e)
  have hlt : ep_cw rk (ep_dom M c) W2 rank < ep_cw rk (ep_dom M c) W rank := by
    have hex : ∃ s, ep_dom M c s ∧ rk s = rank ∧ ¬ (cp W s ↔ W s) := by
      apply Classical.byContradiction
      intro hn
      apply hf
      intro s hs1 hs2
      apply Classical.byContradiction
      intro hn2
      exact hn ⟨s, hs1, hs2, hn2⟩
    obtain ⟨⟨m, v⟩, hds, hrs, hne⟩ := hex
    have hmv : m < M ∧ v < c := hds
    rcases ep_par rank with hp | hp
    · have hD := ((h2 rank).1 hp).2
      rw [h3] at hD
      have hws : W (m, v) := Classical.byContradiction fun hn => hne ⟨fun x => absurd (hD _ hrs x) hn, fun x => absurd x hn⟩
      have hcs : ¬ cp W (m, v) := fun x => hne ⟨fun _ => hws, fun _ => x⟩
      apply ep_cn_lt 40
      · rintro k hk ⟨x1, x2, x3⟩
        refine ⟨x1, x2, ?_⟩
        rcases x3 with x3 | x3
        · exact Or.inl ⟨x3.1, hD _ x2 ((hW2 _ x2).1 x3.2)⟩
        · omega
      · refine ⟨m * 10 + v, by omega, ?_, ?_⟩
        · rw [ep_st_k _ m (by omega)]
          exact ⟨hds, hrs, Or.inl ⟨hp, hws⟩⟩
        · rw [ep_st_k _ m (by omega)]
          rintro ⟨_, _, x | x⟩
          · exact hcs ((hW2 _ hrs).1 x.2)
          · omega
    · have hD := ((h2 rank).2 hp).2
      rw [h3] at hD
      have hws : ¬ W (m, v) := fun x => hne ⟨fun _ => x, fun _ => hD _ hrs x⟩
      have hcs : cp W (m, v) := Classical.byContradiction fun hn => hne ⟨fun x => absurd x hn, fun x => absurd x hws⟩
      apply ep_cn_lt 40
      · rintro k hk ⟨x1, x2, x3⟩
        refine ⟨x1, x2, ?_⟩
        rcases x3 with x3 | x3
        · omega
        · exact Or.inr ⟨x3.1, fun x => x3.2 ((hW2 _ x2).2 (hD _ x2 x))⟩
      · refine ⟨m * 10 + v, by omega, ?_, ?_⟩
        · rw [ep_st_k _ m (by omega)]
          exact ⟨hds, hrs, Or.inr ⟨hp, hws⟩⟩
        · rw [ep_st_k _ m (by omega)]
          rintro ⟨_, _, x | x⟩
          · omega
          · exact x.2 ((hW2 _ hrs).2 hcs)
  have hsame : ∀ q, rank < q → ep_cw rk (ep_dom M c) W2 q = ep_cw rk (ep_dom M c) W q := fun q hq =>
    ep_cw_same fun s e => ((hs s).1 (by omega)).trans ((hat s).2 (by omega))
  have hh := ep_h_lt hsame hlt (n := ep_nw rk (ep_dom M c)) (fun q _ => ep_cw_le _ _ _ q) 6 0 (by omega) (by omega)
  refine ⟨h2d, ep_inv_chg hc hd h2 h3 hat hs, rfl, by omega, by omega⟩
theorem ep_ok_end {rk : Nat × Nat → Nat} {cp : (Nat × Nat → Prop) → (Nat × Nat → Prop)} {dom W : Nat × Nat → Prop} {round : Nat}
    (hk : ∀ s, rk s < 6) (h : ep_ok rk cp dom W 6 round) : W = ep_sol rk cp 6 (fun _ => False) := by
  exact h.2.2.1.symm.trans (ep_sol_dep rk cp 6 fun s hs => by have := hk s; omega)
theorem ep_ok_start {rk : Nat × Nat → Nat} {cp : (Nat × Nat → Prop) → (Nat × Nat → Prop)} (hc : ep_mono cp) {dom W W2 : Nat × Nat → Prop}
    (hd : ∀ X, ep_le (cp X) dom) (hk : ∀ s, rk s < 6) (h2d : ep_le W2 dom) (hs : ep_start rk dom W 6 W2) (hb : ep_pr (ep_nw rk dom) 6 0 ≤ 142857) :
    ep_ok rk cp dom W2 0 0 := by
  have h := ep_h_pr (c := ep_cw rk dom W2) (n := ep_nw rk dom) (fun q => ep_cw_le _ _ _ q) 6 0
  exact ⟨h2d, ep_inv_0 hc hd hk hs, rfl, by omega, by omega⟩
/-! the bounds -/
theorem ep_nw_0 {rk : Nat × Nat → Nat} {dom : Nat × Nat → Prop} {r : Nat} (h : ∀ s, rk s ≠ r) : ep_nw rk dom r = 0 := by
  have : ep_nw rk dom r ≤ ep_cn (fun _ => False) 40 := ep_cn_mono 40 fun i _ x => absurd x.2 (h _)
  have h0 : ∀ k, ep_cn (fun _ => False) k = 0 := by
    intro k
    induction k with
    | zero => rfl
    | succ k ih => rw [ep_cn_f (fun h => h)]; exact ih
  rw [h0] at this
  omega
theorem ep_nw_40 (rk : Nat × Nat → Nat) (dom : Nat × Nat → Prop) (r : Nat) : ep_nw rk dom r ≤ 40 := ep_cn_le _ 40
theorem ep_pr6 (n : Nat → Nat) : ep_pr n 6 0 = (n 0 + 1) * ((n 1 + 1) * ((n 2 + 1) * ((n 3 + 1) * ((n 4 + 1) * ((n 5 + 1) * 1))))) := rfl
theorem ep_bnd3 {rk : Nat × Nat → Nat} {dom : Nat × Nat → Prop} (h : ∀ s, rk s < 3) : ep_pr (ep_nw rk dom) 6 0 ≤ 142857 := by
  rw [ep_pr6, ep_nw_0 (r := 3) (fun s => by have := h s; omega), ep_nw_0 (r := 4) (fun s => by have := h s; omega), ep_nw_0 (r := 5) (fun s => by have := h s; omega)]
  have h0 := ep_nw_40 rk dom 0
  have h1 := ep_nw_40 rk dom 1
  have h2 := ep_nw_40 rk dom 2
  have a1 : (ep_nw rk dom 1 + 1) * (ep_nw rk dom 2 + 1) ≤ 41 * 41 := Nat.mul_le_mul (by omega) (by omega)
  have a2 : (ep_nw rk dom 0 + 1) * ((ep_nw rk dom 1 + 1) * (ep_nw rk dom 2 + 1)) ≤ 41 * (41 * 41) := Nat.mul_le_mul (by omega) a1
  have e : (ep_nw rk dom 0 + 1) * ((ep_nw rk dom 1 + 1) * ((ep_nw rk dom 2 + 1) * ((0 + 1) * ((0 + 1) * ((0 + 1) * 1))))) = (ep_nw rk dom 0 + 1) * ((ep_nw rk dom 1 + 1) * (ep_nw rk dom 2 + 1)) := by simp
  rw [e]
  omega
theorem ep_sq (x y : Nat) : 4 * (x * y) ≤ (x + y) * (x + y) := by
  rcases Nat.le_total x y with h | h
  · obtain ⟨d, rfl⟩ := Nat.exists_eq_add_of_le h
    have : (x + (x + d)) * (x + (x + d)) = 4 * (x * (x + d)) + d * d := by grind
    omega
  · obtain ⟨d, rfl⟩ := Nat.exists_eq_add_of_le h
    have : ((y + d) + y) * ((y + d) + y) = 4 * ((y + d) * y) + d * d := by grind
    omega
theorem ep_tab : ∀ s, s < 21 → ∀ t, t < 21 → s + t ≤ 20 → (s + 2) * (s + 2) * ((t + 2) * (t + 2)) * (20 - s - t + 1) ≤ 2285712 := by decide +kernel
theorem ep_five {a b c d e : Nat} (h : a + b + c + d + e ≤ 20) : (a + 1) * ((b + 1) * ((c + 1) * ((d + 1) * (e + 1)))) ≤ 142857 := by
  have h1 := ep_sq (a + 1) (b + 1)
  have h2 := ep_sq (c + 1) (d + 1)
  have h3 : 4 * ((a + 1) * (b + 1)) * (4 * ((c + 1) * (d + 1))) ≤ (a + 1 + (b + 1)) * (a + 1 + (b + 1)) * ((c + 1 + (d + 1)) * (c + 1 + (d + 1))) := Nat.mul_le_mul h1 h2
  have h4 := Nat.mul_le_mul h3 (show e + 1 ≤ 20 - (a + b) - (c + d) + 1 by omega)
  have h5 := ep_tab (a + b) (by omega) (c + d) (by omega) (by omega)
  have e1 : a + 1 + (b + 1) = a + b + 2 := by omega
  have e2 : c + 1 + (d + 1) = c + d + 2 := by omega
  rw [e1, e2] at h4
  have e3 : 4 * ((a + 1) * (b + 1)) * (4 * ((c + 1) * (d + 1))) * (e + 1) = 16 * ((a + 1) * ((b + 1) * ((c + 1) * ((d + 1) * (e + 1))))) := by grind
  rw [e3] at h4
  omega
theorem ep_cn_sum (d : Nat → Prop) (rk : Nat → Nat) : ∀ k, ep_cn (fun i => d i ∧ rk i = 0) k + ep_cn (fun i => d i ∧ rk i = 1) k + ep_cn (fun i => d i ∧ rk i = 2) k + ep_cn (fun i => d i ∧ rk i = 3) k + ep_cn (fun i => d i ∧ rk i = 4) k + ep_cn (fun i => d i ∧ rk i = 5) k ≤ ep_cn d k := by
  intro k
  induction k with
  | zero => exact Nat.le_refl 0
  | succ k ih =>
    by_cases hd : d k
    · have st : ∀ r, ∃ x, ep_cn (fun i => d i ∧ rk i = r) (k + 1) = ep_cn (fun i => d i ∧ rk i = r) k + x ∧ (rk k = r → x = 1) ∧ (rk k ≠ r → x = 0) := by
        intro r
        by_cases hr : rk k = r
        · exact ⟨1, ep_cn_t ⟨hd, hr⟩, fun _ => rfl, fun h => absurd hr h⟩
        · exact ⟨0, ep_cn_f (fun h => hr h.2), fun h => absurd h hr, fun _ => rfl⟩
      obtain ⟨x0, e0, a0, b0⟩ := st 0
      obtain ⟨x1, e1, a1, b1⟩ := st 1
      obtain ⟨x2, e2, a2, b2⟩ := st 2
      obtain ⟨x3, e3, a3, b3⟩ := st 3
      obtain ⟨x4, e4, a4, b4⟩ := st 4
      obtain ⟨x5, e5, a5, b5⟩ := st 5
      rw [e0, e1, e2, e3, e4, e5, ep_cn_t hd]
      have hx : x0 + x1 + x2 + x3 + x4 + x5 ≤ 1 := by
        clear ih e0 e1 e2 e3 e4 e5 st
        omega
      omega
    · have st : ∀ r, ep_cn (fun i => d i ∧ rk i = r) (k + 1) = ep_cn (fun i => d i ∧ rk i = r) k := fun r => ep_cn_f (fun h => hd h.1)
      rw [st 0, st 1, st 2, st 3, st 4, st 5, ep_cn_f hd]
      exact ih
theorem ep_cn_20 {p : Nat → Prop} (h : ∀ i, p i → i < 20) : ∀ k, ep_cn p k ≤ 20 := by
  intro k
  induction k with
  | zero => exact Nat.zero_le 20
  | succ k ih =>
    by_cases hp : p k
    · have := h k hp
      have := ep_cn_le p (k + 1)
      omega
    · rw [ep_cn_f hp]; exact ih
theorem ep_nw_sum (rk : Nat × Nat → Nat) {M c : Nat} (hM : M ≤ 2) (hc : c ≤ 10) :
    ep_nw rk (ep_dom M c) 0 + ep_nw rk (ep_dom M c) 1 + ep_nw rk (ep_dom M c) 2 + ep_nw rk (ep_dom M c) 3 + ep_nw rk (ep_dom M c) 4 + ep_nw rk (ep_dom M c) 5 ≤ 20 := by
  have h := ep_cn_sum (ep_st (ep_dom M c)) (fun k => rk (k / 10, k % 10)) 40
  have h2 := ep_cn_20 (p := ep_st (ep_dom M c)) (fun i x => by have : i / 10 < M ∧ i % 10 < c := x; omega) 40
  exact Nat.le_trans h h2
theorem ep_bnd6 {rk : Nat × Nat → Nat} {M c : Nat} (hM : M ≤ 2) (hc : c ≤ 10) (h : (∀ s, rk s ≠ 0) ∨ (∀ s, rk s ≠ 5)) : ep_pr (ep_nw rk (ep_dom M c)) 6 0 ≤ 142857 := by
  have hs := ep_nw_sum rk hM hc
  rw [ep_pr6]
  rcases h with h | h
  · rw [ep_nw_0 (r := 0) h] at hs ⊢
    rw [Nat.zero_add, Nat.one_mul, Nat.mul_one]
    exact ep_five (by omega)
  · rw [ep_nw_0 (r := 5) h] at hs ⊢
    rw [Nat.zero_add, Nat.one_mul, Nat.mul_one]
    exact ep_five (by omega)
