/-! goals 0, 1, 8 -/
def ep_forced (f : (Nat → Prop) → (Nat → Prop)) (al : Nat → Prop) : Nat → Prop := ep_reach f (fun _ => False) al
def ep_safe (f : (Nat → Prop) → (Nat → Prop)) (al : Nat → Prop) : Nat → Prop := ep_stay f al (fun _ => False)
theorem ep_forced_out {f : (Nat → Prop) → (Nat → Prop)} (h : ep_mono f) {al : Nat → Prop} (v : Nat) (x : ep_forced f al v) : f (ep_forced f al) v :=
  (ep_reach_out h v x).elim (fun y => y.elim) (fun y => y.2)
theorem ep_forced_in {n : Nat} {f : (Nat → Prop) → (Nat → Prop)} (h : ep_F n f) (v : Nat) (x : f (ep_forced f fun v => v < n) v) : ep_forced f (fun v => v < n) v :=
  ep_reach_in (ep_F_mono h) v (Or.inr ⟨h.2 _ _ x, x⟩)
theorem ep_safe_out {f : (Nat → Prop) → (Nat → Prop)} (h : ep_mono f) {al : Nat → Prop} (v : Nat) (x : ep_safe f al v) : f (ep_safe f al) v :=
  (ep_stay_out h v x).elim (fun y => y.elim) (fun y => y.2)
theorem ep_safe_in {n : Nat} {f : (Nat → Prop) → (Nat → Prop)} (h : ep_F n f) (v : Nat) (x : f (ep_safe f fun v => v < n) v) : ep_safe f (fun v => v < n) v :=
  ep_stay_in (ep_F_mono h) v (Or.inr ⟨h.2 _ _ x, x⟩)
theorem ep_forced_safe {n : Nat} {f : (Nat → Prop) → (Nat → Prop)} (h : ep_F n f) : ep_le (ep_forced f fun v => v < n) (ep_safe f fun v => v < n) :=
  ep_reach_ind (ep_F_mono h) (fun _ x => x.elim) (fun v _ x => ep_safe_in h v (h.1 _ _ (fun _ _ y => y.1) v x))
/-- a memory that is never left, all of rank 0: what is safe; all of rank 1: what is forced -/
theorem ep_q0 {n M k : Nat} {f : (Nat → Prop) → (Nat → Prop)} {cp : (Nat × Nat → Prop) → (Nat × Nat → Prop)} {nm : Nat → Nat → Nat}
    {rk : Nat × Nat → Nat} {W0 : Nat × Nat → Prop} (hF : ep_F n f) (hC : ep_C n f M nm cp) (hk : k < M)
    (hn : ∀ v, nm k v = k) (hr : ∀ v, rk (k, v) = 0) (v : Nat) (hv : v < n) : ep_sol rk cp 2 W0 (k, v) ↔ ep_safe f (fun v => v < n) v := by
  have hm := ep_F_mono hF
  have hc := hC.1
  obtain ⟨Q, eQ⟩ : ∃ Q, Q = ep_sol rk cp 2 W0 := ⟨_, rfl⟩
  have Qun : Q = ep_sol rk cp 1 (ep_at rk 1 W0 (cp Q)) := by rw [eQ]; exact ep_sol_un rk hc 1 W0
  have Qun2 : Q = ep_at rk 0 (ep_at rk 1 W0 (cp Q)) (cp Q) := by
    have h := ep_sol_un rk hc 0 (ep_at rk 1 W0 (cp Q))
    rw [ep_sol_0, ← Qun] at h
    exact h
  rw [← eQ]
  constructor
  · intro h
    have key : ep_le (fun w => Q (k, w) ∧ w < n) (ep_safe f fun v => v < n) := by
      refine ep_stay_co ?_
      rintro w ⟨hs, hw⟩
      rw [Qun2, ep_at_eq (hr w)] at hs
      exact Or.inr ⟨hw, ep_c1 hF hC k hk hw (hn w) hs (fun x hx hU => ⟨hU, hx⟩)⟩
    exact key v ⟨h, hv⟩
  · intro h
    have hT : ep_le (fun s => (s.1 = k ∧ ep_safe f (fun v => v < n) s.2) ∨ Q s) (ep_sol rk cp 1 (ep_at rk 1 W0 (cp Q))) := by
      refine ep_sol_co rfl ?_
      rw [ep_sol_0]
      rintro ⟨m, w⟩ hs
      cases hs with
      | inr hs =>
        rw [Qun2] at hs
        cases hs with
        | inl hs => exact Or.inl ⟨hs.1, hc _ _ (fun s x => Or.inr x) _ hs.2⟩
        | inr hs => exact Or.inr hs
      | inl hs =>
        have hm0 : m = k := hs.1
        subst hm0
        rw [ep_at_eq (hr w)]
        exact ep_c2 hF hC m hk (hn w) (ep_safe_out hm w hs.2) (fun y _ hy => Or.inl ⟨rfl, hy⟩)
    rw [Qun]
    exact hT (k, v) (Or.inl ⟨rfl, h⟩)
theorem ep_q1 {n M k : Nat} {f : (Nat → Prop) → (Nat → Prop)} {cp : (Nat × Nat → Prop) → (Nat × Nat → Prop)} {nm : Nat → Nat → Nat}
    {rk : Nat × Nat → Nat} {W0 : Nat × Nat → Prop} (hF : ep_F n f) (hC : ep_C n f M nm cp) (hk : k < M)
    (hn : ∀ v, nm k v = k) (hr : ∀ v, rk (k, v) = 1) (v : Nat) (hv : v < n) : ep_sol rk cp 2 W0 (k, v) ↔ ep_forced f (fun v => v < n) v := by
  have hm := ep_F_mono hF
  have hc := hC.1
  constructor
  · intro h
    have key : ep_le (ep_sol rk cp 2 W0) (fun s => s.1 = k → s.2 < n → ep_forced f (fun v => v < n) s.2) := by
      refine ep_sol_ind hc rfl ?_
      obtain ⟨T, eT⟩ : ∃ T : Nat × Nat → Prop, T = fun s => (s.1 = k → s.2 < n → ep_forced f (fun v => v < n) s.2) ∧ ep_sol rk cp (1 + 1) W0 s := ⟨_, rfl⟩
      rw [← eT, ep_sol_un rk hc 0, ep_sol_0]
      rintro ⟨m, w⟩ hs hm0 hw
      have hm0 : m = k := hm0
      subst hm0
      rw [ep_at_ne (by have := hr w; omega), ep_at_eq (hr w)] at hs
      refine ep_forced_in hF w (ep_c1 hF hC m hk hw (hn w) hs (fun x hx hT => ?_))
      rw [eT] at hT
      exact hT.1 rfl hx
    exact key (k, v) h rfl hv
  · intro h
    obtain ⟨Q, eQ⟩ : ∃ Q, Q = ep_sol rk cp 2 W0 := ⟨_, rfl⟩
    have Qun : Q = ep_sol rk cp 1 (ep_at rk 1 W0 (cp Q)) := by rw [eQ]; exact ep_sol_un rk hc 1 W0
    have Qun2 : Q = ep_at rk 0 (ep_at rk 1 W0 (cp Q)) (cp Q) := by
      have h := ep_sol_un rk hc 0 (ep_at rk 1 W0 (cp Q))
      rw [ep_sol_0, ← Qun] at h
      exact h
    rw [← eQ]
    have key : ep_le (ep_forced f fun v => v < n) (fun w => Q (k, w)) := by
      refine ep_reach_ind hm (fun _ x => x.elim) ?_
      intro x _ hfx
      show Q (k, x)
      rw [Qun2, ep_at_ne (by have := hr x; omega), ep_at_eq (hr x)]
      exact ep_c2 hF hC k hk (hn x) hfx (fun y _ hy => hy.1)
    exact key v h
/-- goal 0 -/
theorem ep_g0 {n : Nat} {f : (Nat → Prop) → (Nat → Prop)} {cp : (Nat × Nat → Prop) → (Nat × Nat → Prop)} {nm : Nat → Nat → Nat}
    {rk : Nat × Nat → Nat} {W0 : Nat × Nat → Prop} (hF : ep_F n f) (hC : ep_C n f 2 nm cp) {a : Nat → Prop}
    (n1 : ∀ v, nm 1 v = 1) (n0t : ∀ v, a v → nm 0 v = 1) (n0f : ∀ v, ¬ a v → nm 0 v = 0)
    (r1 : ∀ v, rk (1, v) = 0) (r0t : ∀ v, a v → rk (0, v) = 0) (r0f : ∀ v, ¬ a v → rk (0, v) = 1) (v : Nat) (hv : v < n) :
    ep_sol rk cp 2 W0 (0, v) ↔
      ep_reach f (fun v => (a v ∧ ep_safe f (fun v => v < n) v) ∨ ep_forced f (fun v => v < n) v) (fun v => v < n) v := by
  have hm := ep_F_mono hF
  have hc := hC.1
  obtain ⟨SA, eS⟩ : ∃ S, S = ep_safe f (fun v => v < n) := ⟨_, rfl⟩
  obtain ⟨FO, eO⟩ : ∃ S, S = ep_forced f (fun v => v < n) := ⟨_, rfl⟩
  have Sin : ∀ v, f SA v → SA v := by rw [eS]; exact ep_safe_in hF
  have Sout : ∀ v, SA v → f SA v := by rw [eS]; exact ep_safe_out hm
  have FS : ∀ v, FO v → SA v := by rw [eS, eO]; exact ep_forced_safe hF
  have Find : ∀ X : Nat → Prop, (∀ v, v < n → f (fun w => X w ∧ FO w) v → X v) → ∀ v, FO v → X v := by
    rw [eO]; exact fun X h => ep_reach_ind hm (fun _ x => x.elim) h
  rw [← eS, ← eO]
  obtain ⟨R, eR⟩ : ∃ R, R = ep_reach f (fun v => (a v ∧ SA v) ∨ FO v) (fun v => v < n) := ⟨_, rfl⟩
  have Rin : ∀ v, ((a v ∧ SA v) ∨ FO v) ∨ (v < n ∧ f R v) → R v := by rw [eR]; exact ep_reach_in hm
  have Rind : ∀ X : Nat → Prop, (∀ v, (a v ∧ SA v) ∨ FO v → X v) → (∀ v, v < n → f (fun w => X w ∧ R w) v → X v) → ∀ v, R v → X v := by
    rw [eR]; exact fun X h1 h2 => ep_reach_ind hm h1 h2
  rw [← eR]
  have q1 : ∀ v, v < n → (ep_sol rk cp 2 W0 (1, v) ↔ SA v) := by rw [eS]; exact fun v hv => ep_q0 hF hC (by decide) n1 r1 v hv
  constructor
  · intro h
    have key : ep_le (ep_sol rk cp 2 W0) (fun s => s.1 = 0 → s.2 < n → R s.2) := by
      refine ep_sol_ind hc rfl ?_
      obtain ⟨T, eT⟩ : ∃ T : Nat × Nat → Prop, T = fun s => (s.1 = 0 → s.2 < n → R s.2) ∧ ep_sol rk cp (1 + 1) W0 s := ⟨_, rfl⟩
      rw [← eT]
      obtain ⟨G, eG⟩ : ∃ G, G = ep_sol rk cp 1 (ep_at rk 1 W0 (cp T)) := ⟨_, rfl⟩
      have Gun : G = ep_at rk 0 (ep_at rk 1 W0 (cp T)) (cp G) := by rw [eG]; exact ep_sol_un rk hc 0 _
      have GQ : ep_le G (ep_sol rk cp 2 W0) := by
        rw [eG, ep_sol_un rk hc 1 W0]
        refine ep_solF rk hc 1 W0 _ _ ?_
        rw [eT]
        exact fun s hs => hs.2
      rw [← eG]
      rintro ⟨m, w⟩ hs hm0 hw
      have hm0 : m = 0 := hm0
      subst hm0
      have hw : w < n := hw
      rw [Gun] at hs
      by_cases ha : a w
      · rw [ep_at_eq (r0t w ha)] at hs
        have h1 : f SA w := ep_c1 hF hC 1 (by decide) hw (n0t w ha) hs (fun x hx hU => (q1 x hx).1 (GQ _ hU))
        exact Rin w (Or.inl (Or.inl ⟨ha, Sin w h1⟩))
      · rw [ep_at_ne (by have := r0f w ha; omega), ep_at_eq (r0f w ha)] at hs
        refine Rin w (Or.inr ⟨hw, ep_c1 hF hC 0 (by decide) hw (n0f w ha) hs (fun x hx hT => ?_)⟩)
        rw [eT] at hT
        exact hT.1 rfl hx
    exact key (0, v) h rfl hv
  · intro h
    obtain ⟨Q, eQ⟩ : ∃ Q, Q = ep_sol rk cp 2 W0 := ⟨_, rfl⟩
    have Qun : Q = ep_sol rk cp 1 (ep_at rk 1 W0 (cp Q)) := by rw [eQ]; exact ep_sol_un rk hc 1 W0
    have Qun2 : Q = ep_at rk 0 (ep_at rk 1 W0 (cp Q)) (cp Q) := by
      have h := ep_sol_un rk hc 0 (ep_at rk 1 W0 (cp Q))
      rw [ep_sol_0, ← Qun] at h
      exact h
    rw [← eQ] at q1 ⊢
    have Qt : ∀ x, a x → f SA x → Q (0, x) := fun x ha hx => by
      rw [Qun2, ep_at_eq (r0t x ha)]
      exact ep_c2 hF hC 1 (by decide) (n0t x ha) hx (fun y hy h => (q1 y hy).2 h)
    have Qf : ∀ x, ¬ a x → f (fun w => Q (0, w)) x → Q (0, x) := fun x ha hx => by
      rw [Qun2, ep_at_ne (by have := r0f x ha; omega), ep_at_eq (r0f x ha)]
      exact ep_c2 hF hC 0 (by decide) (n0f x ha) hx (fun y _ h => h)
    have RS : ∀ v, R v → SA v := Rind SA (fun v x => x.elim (fun y => y.2) (FS v)) (fun v _ x => Sin v (hm _ _ (fun w y => y.1) v x))
    have FQ : ∀ v, FO v → Q (0, v) := Find (fun w => Q (0, w)) (fun x hx hfx => by
      by_cases ha : a x
      · exact Qt x ha (hm _ _ (fun w y => FS w y.2) x hfx)
      · exact Qf x ha (hm _ _ (fun w y => y.1) x hfx))
    refine Rind (fun w => Q (0, w)) ?_ ?_ v h
    · intro x hx
      cases hx with
      | inl hx => exact Qt x hx.1 (Sout x hx.2)
      | inr hx => exact FQ x hx
    · intro x hx hfx
      by_cases ha : a x
      · exact Qt x ha (hm _ _ (fun w y => RS w y.2) x hfx)
      · exact Qf x ha (hm _ _ (fun w y => y.1) x hfx)
/-- goal 1 -/
theorem ep_g1 {n : Nat} {f : (Nat → Prop) → (Nat → Prop)} {cp : (Nat × Nat → Prop) → (Nat × Nat → Prop)} {nm : Nat → Nat → Nat}
    {rk : Nat × Nat → Nat} {W0 : Nat × Nat → Prop} (hF : ep_F n f) (hC : ep_C n f 2 nm cp) {a : Nat → Prop}
    (n1 : ∀ v, nm 1 v = 1) (n0t : ∀ v, a v → nm 0 v = 0) (n0f : ∀ v, ¬ a v → nm 0 v = 1)
    (r1 : ∀ v, rk (1, v) = 1) (r0t : ∀ v, a v → rk (0, v) = 0) (r0f : ∀ v, ¬ a v → rk (0, v) = 1) (v : Nat) (hv : v < n) :
    ep_sol rk cp 2 W0 (0, v) ↔ ep_stay f a (ep_forced f fun v => v < n) v := by
  have hm := ep_F_mono hF
  have hc := hC.1
  obtain ⟨FO, eO⟩ : ∃ S, S = ep_forced f (fun v => v < n) := ⟨_, rfl⟩
  have Fin' : ∀ v, f FO v → FO v := by rw [eO]; exact ep_forced_in hF
  have Fout : ∀ v, FO v → f FO v := by rw [eO]; exact ep_forced_out hm
  obtain ⟨Q, eQ⟩ : ∃ Q, Q = ep_sol rk cp 2 W0 := ⟨_, rfl⟩
  have Qun : Q = ep_sol rk cp 1 (ep_at rk 1 W0 (cp Q)) := by rw [eQ]; exact ep_sol_un rk hc 1 W0
  have Qun2 : Q = ep_at rk 0 (ep_at rk 1 W0 (cp Q)) (cp Q) := by
    have h := ep_sol_un rk hc 0 (ep_at rk 1 W0 (cp Q))
    rw [ep_sol_0, ← Qun] at h
    exact h
  have q1 : ∀ v, v < n → (Q (1, v) ↔ FO v) := by rw [eO, eQ]; exact fun v hv => ep_q1 hF hC (by decide) n1 r1 v hv
  rw [← eO, ← eQ]
  constructor
  · intro h
    have key : ep_le (fun w => Q (0, w) ∧ w < n) (ep_stay f a FO) := by
      refine ep_stay_co ?_
      rintro w ⟨hs, hw⟩
      rw [Qun2] at hs
      by_cases ha : a w
      · rw [ep_at_eq (r0t w ha)] at hs
        exact Or.inr ⟨ha, ep_c1 hF hC 0 (by decide) hw (n0t w ha) hs (fun x hx hU => ⟨hU, hx⟩)⟩
      · rw [ep_at_ne (by have := r0f w ha; omega), ep_at_eq (r0f w ha)] at hs
        exact Or.inl (Fin' w (ep_c1 hF hC 1 (by decide) hw (n0f w ha) hs (fun x hx hU => (q1 x hx).1 hU)))
    exact key v ⟨h, hv⟩
  · intro h
    have hT : ep_le (fun s => (s.1 = 0 ∧ ep_stay f a FO s.2) ∨ Q s) (ep_sol rk cp 1 (ep_at rk 1 W0 (cp Q))) := by
      refine ep_sol_co rfl ?_
      rw [ep_sol_0]
      rintro ⟨m, w⟩ hs
      cases hs with
      | inr hs =>
        rw [Qun2] at hs
        cases hs with
        | inl hs => exact Or.inl ⟨hs.1, hc _ _ (fun s x => Or.inr x) _ hs.2⟩
        | inr hs => exact Or.inr hs
      | inl hs =>
        have hm0 : m = 0 := hs.1
        subst hm0
        have hk := ep_stay_out hm w hs.2
        by_cases ha : a w
        · rw [ep_at_eq (r0t w ha)]
          cases hk with
          | inl hk => exact ep_c2 hF hC 0 (by decide) (n0t w ha) (Fout w hk) (fun y _ hy => Or.inl ⟨rfl, ep_stay_in hm y (Or.inl hy)⟩)
          | inr hk => exact ep_c2 hF hC 0 (by decide) (n0t w ha) hk.2 (fun y _ hy => Or.inl ⟨rfl, hy⟩)
        · rw [ep_at_ne (by have := r0f w ha; omega), ep_at_eq (r0f w ha)]
          cases hk with
          | inl hk => exact ep_c2 hF hC 1 (by decide) (n0f w ha) (Fout w hk) (fun y hy h => (q1 y hy).2 h)
          | inr hk => exact absurd hk.1 ha
    rw [Qun]
    exact hT (0, v) (Or.inl ⟨rfl, h⟩)
/-- goal 8 -/
theorem ep_g8 {n : Nat} {f : (Nat → Prop) → (Nat → Prop)} {cp : (Nat × Nat → Prop) → (Nat × Nat → Prop)} {nm : Nat → Nat → Nat}
    {rk : Nat × Nat → Nat} {W0 : Nat × Nat → Prop} (hF : ep_F n f) (hC : ep_C n f 3 nm cp) {a b : Nat → Prop}
    (n1 : ∀ v, nm 1 v = 1) (n2 : ∀ v, nm 2 v = 2) (nb : ∀ v, b v → nm 0 v = 1) (na : ∀ v, ¬ b v → a v → nm 0 v = 0) (nx : ∀ v, ¬ b v → ¬ a v → nm 0 v = 2)
    (r1 : ∀ v, rk (1, v) = 0) (r2 : ∀ v, rk (2, v) = 1) (rb : ∀ v, b v → rk (0, v) = 0) (rx : ∀ v, ¬ b v → rk (0, v) = 1) (v : Nat) (hv : v < n) :
    ep_sol rk cp 2 W0 (0, v) ↔
      ep_reach f (fun v => (b v ∧ ep_safe f (fun v => v < n) v) ∨ ep_forced f (fun v => v < n) v) a v := by
  have hm := ep_F_mono hF
  have hc := hC.1
  obtain ⟨SA, eS⟩ : ∃ S, S = ep_safe f (fun v => v < n) := ⟨_, rfl⟩
  obtain ⟨FO, eO⟩ : ∃ S, S = ep_forced f (fun v => v < n) := ⟨_, rfl⟩
  have Sin : ∀ v, f SA v → SA v := by rw [eS]; exact ep_safe_in hF
  have Sout : ∀ v, SA v → f SA v := by rw [eS]; exact ep_safe_out hm
  have Fin' : ∀ v, f FO v → FO v := by rw [eO]; exact ep_forced_in hF
  have FS : ∀ v, FO v → SA v := by rw [eS, eO]; exact ep_forced_safe hF
  have Find : ∀ X : Nat → Prop, (∀ v, v < n → f (fun w => X w ∧ FO w) v → X v) → ∀ v, FO v → X v := by
    rw [eO]; exact fun X h => ep_reach_ind hm (fun _ x => x.elim) h
  rw [← eS, ← eO]
  obtain ⟨R, eR⟩ : ∃ R, R = ep_reach f (fun v => (b v ∧ SA v) ∨ FO v) a := ⟨_, rfl⟩
  have Rin : ∀ v, ((b v ∧ SA v) ∨ FO v) ∨ (a v ∧ f R v) → R v := by rw [eR]; exact ep_reach_in hm
  have Rind : ∀ X : Nat → Prop, (∀ v, (b v ∧ SA v) ∨ FO v → X v) → (∀ v, a v → f (fun w => X w ∧ R w) v → X v) → ∀ v, R v → X v := by
    rw [eR]; exact fun X h1 h2 => ep_reach_ind hm h1 h2
  rw [← eR]
  have q1 : ∀ v, v < n → (ep_sol rk cp 2 W0 (1, v) ↔ SA v) := by rw [eS]; exact fun v hv => ep_q0 hF hC (by decide) n1 r1 v hv
  have q2 : ∀ v, v < n → (ep_sol rk cp 2 W0 (2, v) ↔ FO v) := by rw [eO]; exact fun v hv => ep_q1 hF hC (by decide) n2 r2 v hv
  constructor
  · intro h
    have key : ep_le (ep_sol rk cp 2 W0) (fun s => s.1 = 0 → s.2 < n → R s.2) := by
      refine ep_sol_ind hc rfl ?_
      obtain ⟨T, eT⟩ : ∃ T : Nat × Nat → Prop, T = fun s => (s.1 = 0 → s.2 < n → R s.2) ∧ ep_sol rk cp (1 + 1) W0 s := ⟨_, rfl⟩
      rw [← eT]
      obtain ⟨G, eG⟩ : ∃ G, G = ep_sol rk cp 1 (ep_at rk 1 W0 (cp T)) := ⟨_, rfl⟩
      have Gun : G = ep_at rk 0 (ep_at rk 1 W0 (cp T)) (cp G) := by rw [eG]; exact ep_sol_un rk hc 0 _
      have TQ : ep_le T (ep_sol rk cp 2 W0) := by
        rw [eT]
        exact fun s hs => hs.2
      have GQ : ep_le G (ep_sol rk cp 2 W0) := by
        rw [eG, ep_sol_un rk hc 1 W0]
        exact ep_solF rk hc 1 W0 _ _ TQ
      rw [← eG]
      rintro ⟨m, w⟩ hs hm0 hw
      have hm0 : m = 0 := hm0
      subst hm0
      have hw : w < n := hw
      rw [Gun] at hs
      by_cases hb : b w
      · rw [ep_at_eq (rb w hb)] at hs
        have h1 : f SA w := ep_c1 hF hC 1 (by decide) hw (nb w hb) hs (fun x hx hU => (q1 x hx).1 (GQ _ hU))
        exact Rin w (Or.inl (Or.inl ⟨hb, Sin w h1⟩))
      · rw [ep_at_ne (by have := rx w hb; omega), ep_at_eq (rx w hb)] at hs
        by_cases ha : a w
        · refine Rin w (Or.inr ⟨ha, ep_c1 hF hC 0 (by decide) hw (na w hb ha) hs (fun x hx hT => ?_)⟩)
          rw [eT] at hT
          exact hT.1 rfl hx
        · exact Rin w (Or.inl (Or.inr (Fin' w (ep_c1 hF hC 2 (by decide) hw (nx w hb ha) hs (fun x hx hT => (q2 x hx).1 (TQ _ hT))))))
    exact key (0, v) h rfl hv
  · intro h
    obtain ⟨Q, eQ⟩ : ∃ Q, Q = ep_sol rk cp 2 W0 := ⟨_, rfl⟩
    have Qun : Q = ep_sol rk cp 1 (ep_at rk 1 W0 (cp Q)) := by rw [eQ]; exact ep_sol_un rk hc 1 W0
    have Qun2 : Q = ep_at rk 0 (ep_at rk 1 W0 (cp Q)) (cp Q) := by
      have h := ep_sol_un rk hc 0 (ep_at rk 1 W0 (cp Q))
      rw [ep_sol_0, ← Qun] at h
      exact h
    rw [← eQ] at q1 q2 ⊢
    have Qb : ∀ x, b x → f SA x → Q (0, x) := fun x hb hx => by
      rw [Qun2, ep_at_eq (rb x hb)]
      exact ep_c2 hF hC 1 (by decide) (nb x hb) hx (fun y hy h => (q1 y hy).2 h)
    have Qa : ∀ x, ¬ b x → a x → f (fun w => Q (0, w)) x → Q (0, x) := fun x hb ha hx => by
      rw [Qun2, ep_at_ne (by have := rx x hb; omega), ep_at_eq (rx x hb)]
      exact ep_c2 hF hC 0 (by decide) (na x hb ha) hx (fun y _ h => h)
    have Qx : ∀ x, ¬ b x → ¬ a x → f FO x → Q (0, x) := fun x hb ha hx => by
      rw [Qun2, ep_at_ne (by have := rx x hb; omega), ep_at_eq (rx x hb)]
      exact ep_c2 hF hC 2 (by decide) (nx x hb ha) hx (fun y hy h => (q2 y hy).2 h)
    have RS : ∀ v, R v → SA v := Rind SA (fun v x => x.elim (fun y => y.2) (FS v)) (fun v _ x => Sin v (hm _ _ (fun w y => y.1) v x))
    have FQ : ∀ v, FO v → Q (0, v) := Find (fun w => Q (0, w)) (fun x hx hfx => by
      by_cases hb : b x
      · exact Qb x hb (hm _ _ (fun w y => FS w y.2) x hfx)
      · by_cases ha : a x
        · exact Qa x hb ha (hm _ _ (fun w y => y.1) x hfx)
        · exact Qx x hb ha (hm _ _ (fun w y => y.2) x hfx))
    refine Rind (fun w => Q (0, w)) ?_ ?_ v h
    · intro x hx
      cases hx with
      | inl hx => exact Qb x hx.1 (Sout x hx.2)
      | inr hx => exact FQ x hx
    · intro x hax hfx
      by_cases hb : b x
      · exact Qb x hb (hm _ _ (fun w y => RS w y.2) x hfx)
      · exact Qa x hb hax (hm _ _ (fun w y => y.1) x hfx)
