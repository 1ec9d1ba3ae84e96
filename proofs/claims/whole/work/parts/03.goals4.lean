/-- goal 4 -/
theorem ep_g4 {n : Nat} {f : (Nat → Prop) → (Nat → Prop)} {cp : (Nat × Nat → Prop) → (Nat × Nat → Prop)} {nm : Nat → Nat → Nat}
    {rk : Nat × Nat → Nat} {W0 : Nat × Nat → Prop} (hF : ep_F n f) (hC : ep_C n f 2 nm cp) {a b : Nat → Prop}
    (n0t : ∀ v, a v → nm 0 v = 1) (n0f : ∀ v, ¬ a v → nm 0 v = 0) (n1t : ∀ v, b v → nm 1 v = 0) (n1f : ∀ v, ¬ b v → nm 1 v = 1)
    (r0 : ∀ v, rk (0, v) = 1) (r2 : ∀ v, b v → rk (1, v) = 2) (r1 : ∀ v, ¬ b v → rk (1, v) = 1) (h0 : ∀ s, rk s ≠ 0) (v : Nat) (hv : v < n) :
    ep_sol rk cp 3 W0 (0, v) ↔ ep_both f (fun v => v < n) a b v := by
  have hm := ep_F_mono hF
  have hc := hC.1
  obtain ⟨R, eR⟩ : ∃ R, R = ep_both f (fun v => v < n) a b := ⟨_, rfl⟩
  obtain ⟨U, eU⟩ : ∃ U, U = ep_sol rk cp 3 W0 := ⟨_, rfl⟩
  rw [← eR, ← eU]
  have Uun : U = ep_sol rk cp 2 (ep_at rk 2 W0 (cp U)) := by rw [eU]; exact ep_sol_un rk hc 2 W0
  constructor
  · intro h
    obtain ⟨Z, eZ⟩ : ∃ Z : Nat → Prop, Z = fun w => (U (0, w) ∨ U (1, w)) ∧ w < n := ⟨_, rfl⟩
    obtain ⟨LA, eA⟩ : ∃ L, L = ep_againF f (fun v => v < n) a Z := ⟨_, rfl⟩
    obtain ⟨LB, eB⟩ : ∃ L, L = ep_againF f (fun v => v < n) b Z := ⟨_, rfl⟩
    have Ain : ∀ v, (a v ∧ f Z v) ∨ (v < n ∧ f LA v) → LA v := by rw [eA]; exact ep_again_in hm
    have Bin : ∀ v, (b v ∧ f Z v) ∨ (v < n ∧ f LB v) → LB v := by rw [eB]; exact ep_again_in hm
    have Z0 : ∀ w, w < n → U (0, w) → Z w := by rw [eZ]; exact fun w hw x => ⟨Or.inl x, hw⟩
    have Z1 : ∀ w, w < n → U (1, w) → Z w := by rw [eZ]; exact fun w hw x => ⟨Or.inr x, hw⟩
    have T1 : ep_le U (fun s => s.2 < n → (s.1 = 0 → LA s.2) ∧ (s.1 = 1 → LB s.2)) := by
      have e2 : ep_sol rk cp (1 + 1) (ep_at rk 2 W0 (cp U)) = U := Uun.symm
      rw [← e2]
      refine ep_sol_ind hc rfl ?_
      rw [ep_sol_skip rk cp 0 _ h0, ep_sol_0, e2]
      rintro ⟨m, w⟩ hs hw
      have hw : w < n := hw
      constructor
      · intro hm0
        have hm0 : m = 0 := hm0
        subst hm0
        rw [ep_at_eq (r0 w)] at hs
        by_cases ha : a w
        · exact Ain w (Or.inl ⟨ha, ep_c1 hF hC 1 (by decide) hw (n0t w ha) hs (fun x hx hT => Z1 x hx hT.2)⟩)
        · exact Ain w (Or.inr ⟨hw, ep_c1 hF hC 0 (by decide) hw (n0f w ha) hs (fun x hx hT => (hT.1 hx).1 rfl)⟩)
      · intro hm0
        have hm0 : m = 1 := hm0
        subst hm0
        by_cases hb : b w
        · rw [ep_at_ne (by have := r2 w hb; omega), ep_at_eq (r2 w hb)] at hs
          exact Bin w (Or.inl ⟨hb, ep_c1 hF hC 0 (by decide) hw (n1t w hb) hs (fun x hx hT => Z0 x hx hT)⟩)
        · rw [ep_at_eq (r1 w hb)] at hs
          exact Bin w (Or.inr ⟨hw, ep_c1 hF hC 1 (by decide) hw (n1f w hb) hs (fun x hx hT => (hT.1 hx).2 rfl)⟩)
    have T2 : ep_le U (fun s => s.2 < n → (s.1 = 0 → LB s.2) ∧ (s.1 = 1 → LA s.2)) := by
      have e2 : ep_sol rk cp (1 + 1) (ep_at rk 2 W0 (cp U)) = U := Uun.symm
      rw [← e2]
      refine ep_sol_ind hc rfl ?_
      rw [ep_sol_skip rk cp 0 _ h0, ep_sol_0, e2]
      rintro ⟨m, w⟩ hs hw
      have hw : w < n := hw
      constructor
      · intro hm0
        have hm0 : m = 0 := hm0
        subst hm0
        rw [ep_at_eq (r0 w)] at hs
        by_cases ha : a w
        · exact Bin w (Or.inr ⟨hw, ep_c1 hF hC 1 (by decide) hw (n0t w ha) hs (fun x hx hT => (T1 (1, x) hT.2 hx).2 rfl)⟩)
        · exact Bin w (Or.inr ⟨hw, ep_c1 hF hC 0 (by decide) hw (n0f w ha) hs (fun x hx hT => (hT.1 hx).1 rfl)⟩)
      · intro hm0
        have hm0 : m = 1 := hm0
        subst hm0
        by_cases hb : b w
        · rw [ep_at_ne (by have := r2 w hb; omega), ep_at_eq (r2 w hb)] at hs
          exact Ain w (Or.inr ⟨hw, ep_c1 hF hC 0 (by decide) hw (n1t w hb) hs (fun x hx hT => (T1 (0, x) hT hx).1 rfl)⟩)
        · rw [ep_at_eq (r1 w hb)] at hs
          exact Ain w (Or.inr ⟨hw, ep_c1 hF hC 1 (by decide) hw (n1f w hb) hs (fun x hx hT => (hT.1 hx).2 rfl)⟩)
    have key : ep_le Z R := by
      rw [eR]
      apply ep_le_gfp
      intro w hZ
      show ep_againF f (fun v => v < n) a Z w ∧ ep_againF f (fun v => v < n) b Z w
      rw [← eA, ← eB]
      rw [eZ] at hZ
      have hw := hZ.2
      cases hZ.1 with
      | inl x => exact ⟨(T1 (0, w) x hw).1 rfl, (T2 (0, w) x hw).1 rfl⟩
      | inr x => exact ⟨(T2 (1, w) x hw).2 rfl, (T1 (1, w) x hw).2 rfl⟩
    exact key v (Z0 v hv h)
  · intro h
    have Run : ∀ v, R v → ep_againF f (fun v => v < n) a R v ∧ ep_againF f (fun v => v < n) b R v := by
      rw [eR]; exact ep_gfp_post (ep_bothF_mono hm _ a b)
    obtain ⟨LA, eA⟩ : ∃ L, L = ep_againF f (fun v => v < n) a R := ⟨_, rfl⟩
    obtain ⟨LB, eB⟩ : ∃ L, L = ep_againF f (fun v => v < n) b R := ⟨_, rfl⟩
    rw [← eA, ← eB] at Run
    have hLR : ep_le (fun v => LA v ∨ LB v) R := by
      rw [eR]
      apply ep_le_gfp
      have q : ∀ c : Nat → Prop, ep_le R (ep_againF f (fun v => v < n) c fun v => LA v ∨ LB v) → ∀ d : Nat → Prop, 
          ep_le (ep_againF f (fun v => v < n) d R) (ep_againF f (fun v => v < n) c fun v => LA v ∨ LB v) := by
        intro c hRc d
        refine ep_again_ind hm ?_ ?_
        · intro x hx
          exact ep_again_in hm x (Or.inr ⟨hF.2 _ _ hx.2, hm _ _ hRc x hx.2⟩)
        · intro x hx hfx
          exact ep_again_in hm x (Or.inr ⟨hx, hm _ _ (fun y hy => hy.1) x hfx⟩)
      have hRZ : ep_le R (fun v => LA v ∨ LB v) := fun w hw => Or.inl (Run w hw).1
      have qa := q a (fun w hw => ep_againF_mono hm _ a _ _ hRZ w (eA ▸ (Run w hw).1))
      have qb := q b (fun w hw => ep_againF_mono hm _ b _ _ hRZ w (eB ▸ (Run w hw).2))
      intro w hw
      cases hw with
      | inl x => rw [eA] at x; exact ⟨qa a w x, qb a w x⟩
      | inr x => rw [eB] at x; exact ⟨qa b w x, qb b w x⟩
    have hT : ep_le (fun s => s.1 < 2 ∧ R s.2) U := by
      rw [eU]
      refine ep_sol_co rfl ?_
      obtain ⟨V, eV⟩ : ∃ V, V = ep_sol rk cp 2 (ep_at rk 2 W0 (cp fun s => s.1 < 2 ∧ R s.2)) := ⟨_, rfl⟩
      have Vun : V = ep_at rk 1 (ep_at rk 2 W0 (cp fun s => s.1 < 2 ∧ R s.2)) (cp V) := by rw [eV]; exact ep_sol_1 hc h0 _
      rw [← eV]
      have V2 : ∀ x, b x → cp (fun s => s.1 < 2 ∧ R s.2) (1, x) → V (1, x) := fun x hb hx => by
        rw [Vun, ep_at_ne (by have := r2 x hb; omega), ep_at_eq (r2 x hb)]; exact hx
      have V1 : ∀ x, ¬ b x → cp V (1, x) → V (1, x) := fun x hb hx => by
        rw [Vun, ep_at_eq (r1 x hb)]; exact hx
      have V0 : ∀ x, cp V (0, x) → V (0, x) := fun x hx => by
        rw [Vun, ep_at_eq (r0 x)]; exact hx
      have hB : ep_le LB (fun w => V (1, w)) := by
        rw [eB]
        refine ep_again_ind hm ?_ ?_
        · rintro x ⟨hbx, hfx⟩
          exact V2 x hbx (ep_c2 hF hC 0 (by decide) (n1t x hbx) hfx (fun y _ hy => ⟨Nat.zero_lt_succ _, hy⟩))
        · intro x hxn hfx
          by_cases hbx : b x
          · exact V2 x hbx (ep_c2 hF hC 0 (by decide) (n1t x hbx) hfx (fun y _ hy => ⟨Nat.zero_lt_succ _, hLR y (Or.inr (eB ▸ hy.2))⟩))
          · exact V1 x hbx (ep_c2 hF hC 1 (by decide) (n1f x hbx) hfx (fun y _ hy => hy.1))
      have hA : ep_le LA (fun w => V (0, w)) := by
        rw [eA]
        refine ep_again_ind hm ?_ ?_
        · rintro x ⟨hax, hfx⟩
          exact V0 x (ep_c2 hF hC 1 (by decide) (n0t x hax) hfx (fun y _ hy => hB y (Run y hy).2))
        · intro x hxn hfx
          by_cases hax : a x
          · exact V0 x (ep_c2 hF hC 1 (by decide) (n0t x hax) hfx (fun y _ hy => hB y (Run y (hLR y (Or.inl (eA ▸ hy.2)))).2))
          · exact V0 x (ep_c2 hF hC 0 (by decide) (n0f x hax) hfx (fun y _ hy => hy.1))
      rintro ⟨m, w⟩ ⟨hm2, hR⟩
      have hm2 : m < 2 := hm2
      have hR : R w := hR
      have hm' : m = 0 ∨ m = 1 := by omega
      cases hm' with
      | inl e => subst e; exact hA w (Run w hR).1
      | inr e => subst e; exact hB w (Run w hR).2
    exact hT (0, v) ⟨Nat.zero_lt_succ _, h⟩
