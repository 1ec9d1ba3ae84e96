/-! the game of the positions; memories and ranks of each goal -/
def ep_fr (c : Nat) (ow E : Nat → Int32) (p : Int32) (S : Nat → Prop) : Nat → Prop :=
  fun v => v < c ∧ ((ow v = p ∧ ∃ w, bt (E v) w = true ∧ S w) ∨ (ow v ≠ p ∧ ∀ w, bt (E v) w = true → S w))
/-- the positions: at most 10, owners 0 or 1, moves and sets within -/
def ep_G (c : Nat) (ow E J : Nat → Int32) : Prop :=
  c ≤ 10 ∧ (∀ v, v < 10 → ow v = 0 ∨ ow v = 1) ∧ (∀ v, v < 10 → ∀ w, bt (E v) w = true → w < c) ∧ (∀ s, s < 4 → ∀ w, bt (J s) w = true → w < c)
theorem ep_fr_F {c : Nat} {ow E J : Nat → Int32} (h : ep_G c ow E J) (p : Int32) : ep_F c (ep_fr c ow E p) := by
  refine ⟨?_, fun A v x => x.1⟩
  rintro A B hab v ⟨hv, x⟩
  have hE := h.2.2.1 v (by have := h.1; omega)
  refine ⟨hv, ?_⟩
  rcases x with ⟨x1, w, x2, x3⟩ | ⟨x1, x2⟩
  · exact Or.inl ⟨x1, w, x2, hab w (hE w x2) x3⟩
  · exact Or.inr ⟨x1, fun w hw => hab w (hE w hw) (x2 w hw)⟩
theorem ep_fr_du {c : Nat} {ow E J : Nat → Int32} (h : ep_G c ow E J) (S : Nat → Prop) {v : Nat} (hv : v < c) :
    ¬ ep_fr c ow E 0 (ep_not S) v ↔ ep_fr c ow E 1 S v := by
  have ho := h.2.1 v (by have := h.1; omega)
  have h01 : (1 : Int32) ≠ 0 := by decide
  constructor
  · intro hn
    refine ⟨hv, ?_⟩
    rcases ho with ho | ho
    · refine Or.inr ⟨by rw [ho]; decide, fun w hw => ?_⟩
      apply Classical.byContradiction
      intro hs
      exact hn ⟨hv, Or.inl ⟨ho, w, hw, hs⟩⟩
    · refine Or.inl ⟨ho, ?_⟩
      apply Classical.byContradiction
      intro hs
      exact hn ⟨hv, Or.inr ⟨by rw [ho]; decide, fun w hw hS => hs ⟨w, hw, hS⟩⟩⟩
  · rintro ⟨_, x⟩ ⟨_, y⟩
    rcases ho with ho | ho
    · rcases x with x | x
      · exact absurd (ho.symm.trans x.1) (by decide)
      · rcases y with ⟨_, w, hw, hs⟩ | y
        · exact hs (x.2 w hw)
        · exact y.1 ho
    · rcases x with ⟨_, w, hw, hs⟩ | x
      · rcases y with y | y
        · exact absurd (ho.symm.trans y.1) (by decide)
        · exact y.2 w hw hs
      · exact x.1 ho
def ep_nA (J : Nat → Nat → Bool) (first m v : Nat) : Nat := if J (first + m) v = true then 1 - m else m
def ep_bC (J : Nat → Nat → Bool) (first m v : Nat) : Bool := decide (m = 1) && J (first + 1) v
def ep_nF (J : Nat → Nat → Bool) (an fr v : Nat) : Nat := if J (2 * (1 - fr) + an) v = true then 1 - fr else fr
def ep_pR (J : Nat → Nat → Bool) (an fr v : Nat) : Nat :=
  if J (2 * (1 - fr) + an) v = true then 4 else if J (2 * (1 - fr) + (1 - an)) v = true then 3 else if J (2 * fr + an) v = true then 2 else if J (2 * fr + (1 - an)) v = true then 1 else 0
def ep_nU (J : Nat → Nat → Bool) (m v : Nat) : Nat := if m ≠ 0 then m else if J 1 v = true then 1 else if J 0 v = true then 0 else 2
def ep_nm (J : Nat → Nat → Bool) : Nat → Nat → Nat → Nat
  | 0, m, v => if m = 1 ∨ J 0 v = true then 1 else 0
  | 1, m, v => if m = 1 ∨ ¬ J 0 v = true then 1 else 0
  | 4, m, v => ep_nA J 0 m v
  | 5, m, v => ep_nA J 0 (m % 2) v + 2 * ep_nA J 2 (m / 2) v
  | 6, m, v => ep_nF J 0 m v
  | 7, m, v => ep_nF J 1 m v
  | 8, m, v => ep_nU J m v
  | _, _, _ => 0
def ep_rk (J : Nat → Nat → Bool) : Nat → Nat → Nat → Nat
  | 0, m, v => if m = 1 ∨ J 0 v = true then 0 else 1
  | 1, m, v => if m = 1 ∨ ¬ J 0 v = true then 1 else 0
  | 2, _, v => if J 0 v = true then 2 else 1
  | 3, _, v => if J 0 v = true then 0 else 1
  | 4, m, v => if ep_bC J 0 m v = true then 2 else 1
  | 5, m, v => if ep_bC J 2 (m / 2) v = true then 2 else if ep_bC J 0 (m % 2) v = true then 1 else 0
  | 6, m, v => 1 + ep_pR J 0 m v
  | 7, m, v => ep_pR J 1 m v
  | _, m, v => if ep_nU J m v = 1 then 0 else 1
def ep_Mg : Nat → Nat
  | 2 => 1
  | 3 => 1
  | 5 => 4
  | 8 => 3
  | _ => 2
theorem ep_pR_le (J : Nat → Nat → Bool) (an fr v : Nat) : ep_pR J an fr v ≤ 4 := by
  unfold ep_pR
  repeat' split
  all_goals omega
theorem ep_Mg_4 : ∀ g, g < 9 → ep_Mg g ≤ 4 := by decide
theorem ep_nm_lt (J : Nat → Nat → Bool) {g m : Nat} (hg : g < 9) (hm : m < ep_Mg g) (v : Nat) : ep_nm J g m v < ep_Mg g := by
  match g, hg, hm with
  | 0, _, hm => show (if m = 1 ∨ J 0 v = true then 1 else 0) < 2; split <;> omega
  | 1, _, hm => show (if m = 1 ∨ ¬ J 0 v = true then 1 else 0) < 2; split <;> omega
  | 2, _, hm => exact Nat.zero_lt_one
  | 3, _, hm => exact Nat.zero_lt_one
  | 4, _, hm =>
    have hm : m < 2 := hm
    show ep_nA J 0 m v < 2
    unfold ep_nA; split <;> omega
  | 5, _, hm =>
    have hm : m < 4 := hm
    show ep_nA J 0 (m % 2) v + 2 * ep_nA J 2 (m / 2) v < 4
    unfold ep_nA; split <;> split <;> omega
  | 6, _, hm =>
    have hm : m < 2 := hm
    show ep_nF J 0 m v < 2
    unfold ep_nF; split <;> omega
  | 7, _, hm =>
    have hm : m < 2 := hm
    show ep_nF J 1 m v < 2
    unfold ep_nF; split <;> omega
  | 8, _, hm =>
    have hm : m < 3 := hm
    show ep_nU J m v < 3
    unfold ep_nU; split
    · exact hm
    · split
      · omega
      · split <;> omega
theorem ep_rk_6 (J : Nat → Nat → Bool) {g : Nat} (hg : g < 9) (m v : Nat) : ep_rk J g m v < 6 := by
  match g, hg with
  | 0, _ => show (if m = 1 ∨ J 0 v = true then 0 else 1) < 6; split <;> omega
  | 1, _ => show (if m = 1 ∨ ¬ J 0 v = true then 1 else 0) < 6; split <;> omega
  | 2, _ => show (if J 0 v = true then 2 else 1) < 6; split <;> omega
  | 3, _ => show (if J 0 v = true then 0 else 1) < 6; split <;> omega
  | 4, _ => show (if ep_bC J 0 m v = true then 2 else 1) < 6; split <;> omega
  | 5, _ =>
    show (if ep_bC J 2 (m / 2) v = true then 2 else if ep_bC J 0 (m % 2) v = true then 1 else 0) < 6
    split
    · omega
    · split <;> omega
  | 6, _ => show 1 + ep_pR J 0 m v < 6; have := ep_pR_le J 0 m v; omega
  | 7, _ => show ep_pR J 1 m v < 6; have := ep_pR_le J 1 m v; omega
  | 8, _ => show (if ep_nU J m v = 1 then 0 else 1) < 6; split <;> omega
theorem ep_rk_3 (J : Nat → Nat → Bool) {g : Nat} (hg : g < 9) (h6 : g ≠ 6) (h7 : g ≠ 7) (m v : Nat) : ep_rk J g m v < 3 := by
  match g, hg, h6, h7 with
  | 0, _, _, _ => show (if m = 1 ∨ J 0 v = true then 0 else 1) < 3; split <;> omega
  | 1, _, _, _ => show (if m = 1 ∨ ¬ J 0 v = true then 1 else 0) < 3; split <;> omega
  | 2, _, _, _ => show (if J 0 v = true then 2 else 1) < 3; split <;> omega
  | 3, _, _, _ => show (if J 0 v = true then 0 else 1) < 3; split <;> omega
  | 4, _, _, _ => show (if ep_bC J 0 m v = true then 2 else 1) < 3; split <;> omega
  | 5, _, _, _ =>
    show (if ep_bC J 2 (m / 2) v = true then 2 else if ep_bC J 0 (m % 2) v = true then 1 else 0) < 3
    split
    · omega
    · split <;> omega
  | 6, _, h, _ => exact absurd rfl h
  | 7, _, _, h => exact absurd rfl h
  | 8, _, _, _ => show (if ep_nU J m v = 1 then 0 else 1) < 3; split <;> omega
/-- the states from which player 0 forces, one move ahead -/
def ep_cp (c : Nat) (ow E : Nat → Int32) (M : Nat) (nm : Nat → Nat → Nat) (W : Nat × Nat → Prop) : Nat × Nat → Prop :=
  fun s => ep_dom M c s ∧ ep_fr c ow E 0 (fun w => W (nm s.1 s.2, w)) s.2
theorem ep_cp_mono {c : Nat} {ow E J : Nat → Int32} (h : ep_G c ow E J) (M : Nat) (nm : Nat → Nat → Nat) : ep_mono (ep_cp c ow E M nm) :=
  fun _ _ hab s x => ⟨x.1, (ep_fr_F h 0).1 _ _ (fun w _ => hab (nm s.1 s.2, w)) s.2 x.2⟩
theorem ep_cp_C {c : Nat} {ow E J : Nat → Int32} (h : ep_G c ow E J) (M : Nat) (nm : Nat → Nat → Nat) : ep_C c (ep_fr c ow E 0) M nm (ep_cp c ow E M nm) :=
  ⟨ep_cp_mono h M nm, fun _ _ _ hm hv => ⟨fun x => x.2, fun x => ⟨⟨hm, hv⟩, x⟩⟩⟩
theorem ep_cp_D {c : Nat} {ow E J : Nat → Int32} (h : ep_G c ow E J) (M : Nat) (nm : Nat → Nat → Nat) : ep_C c (ep_fr c ow E 1) M nm (ep_du (ep_cp c ow E M nm)) := by
  refine ⟨ep_du_mono (ep_cp_mono h M nm), fun X m v hm hv => ?_⟩
  rw [← ep_fr_du h _ hv]
  constructor
  · exact fun x y => x ⟨⟨hm, hv⟩, y⟩
  · exact fun x y => x y.2
/-- the reference's answer for each goal, over the force of each player and the sets -/
def ep_R (c : Nat) (f0 f1 : (Nat → Prop) → (Nat → Prop)) (s : Nat → Nat → Prop) : Nat → Nat → Prop
  | 0 => ep_reach f0 (fun v => (s 0 v ∧ ep_safe f0 (fun v => v < c) v) ∨ ep_forced f0 (fun v => v < c) v) (fun v => v < c)
  | 1 => ep_stay f0 (s 0) (ep_forced f0 fun v => v < c)
  | 2 => ep_again f0 (fun v => v < c) (s 0)
  | 3 => ep_end f0 (s 0)
  | 4 => ep_both f0 (fun v => v < c) (s 0) (s 1)
  | 5 => ep_ifb f0 (fun v => v < c) (s 0) (s 1) (s 2) (s 3)
  | 6 => ep_one f0 (fun v => v < c) (s 1) (s 0) (s 3) (s 2)
  | 7 => fun v => v < c ∧ ¬ ep_one f1 (fun v => v < c) (s 0) (s 1) (s 2) (s 3) v
  | _ => ep_reach f0 (fun v => (s 1 v ∧ ep_safe f0 (fun v => v < c) v) ∨ ep_forced f0 (fun v => v < c) v) (s 0)
