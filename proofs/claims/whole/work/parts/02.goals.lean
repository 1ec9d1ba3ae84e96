/-! the reference's formulas over a monotone force -/
def ep_F (n : Nat) (f : (Nat → Prop) → (Nat → Prop)) : Prop :=
  (∀ A B : Nat → Prop, (∀ w, w < n → A w → B w) → ∀ v, f A v → f B v) ∧ (∀ (A : Nat → Prop) (v : Nat), f A v → v < n)
def ep_C (n : Nat) (f : (Nat → Prop) → (Nat → Prop)) (M : Nat) (nm : Nat → Nat → Nat) (cp : (Nat × Nat → Prop) → (Nat × Nat → Prop)) : Prop :=
  ep_mono cp ∧ ∀ (X : Nat × Nat → Prop) (m v : Nat), m < M → v < n → (cp X (m, v) ↔ f (fun w => X (nm m v, w)) v)
theorem ep_F_mono {n : Nat} {f : (Nat → Prop) → (Nat → Prop)} (h : ep_F n f) : ep_mono f :=
  fun A B hab v hv => h.1 A B (fun w _ => hab w) v hv
theorem ep_c1 {n M : Nat} {f : (Nat → Prop) → (Nat → Prop)} {nm : Nat → Nat → Nat} {cp : (Nat × Nat → Prop) → (Nat × Nat → Prop)}
    (hF : ep_F n f) (hC : ep_C n f M nm cp) {X : Nat × Nat → Prop} {A : Nat → Prop} {m v : Nat} (m' : Nat) (hm : m < M) (hv : v < n) (e : nm m v = m')
    (h : cp X (m, v)) (hA : ∀ w, w < n → X (m', w) → A w) : f A v := by
  have h1 := (hC.2 X m v hm hv).1 h
  rw [e] at h1
  exact hF.1 _ _ hA v h1
theorem ep_c2 {n M : Nat} {f : (Nat → Prop) → (Nat → Prop)} {nm : Nat → Nat → Nat} {cp : (Nat × Nat → Prop) → (Nat × Nat → Prop)}
    (hF : ep_F n f) (hC : ep_C n f M nm cp) {X : Nat × Nat → Prop} {A : Nat → Prop} {m v : Nat} (m' : Nat) (hm : m < M) (e : nm m v = m')
    (h : f A v) (hA : ∀ w, w < n → A w → X (m', w)) : cp X (m, v) := by
  refine (hC.2 X m v hm (hF.2 _ _ h)).2 ?_
  rw [e]
  exact hF.1 _ _ hA v h
def ep_rF (f : (Nat → Prop) → (Nat → Prop)) (P T : Nat → Prop) : (Nat → Prop) → (Nat → Prop) := fun X v => P v ∨ (T v ∧ f X v)
def ep_reach (f : (Nat → Prop) → (Nat → Prop)) (P T : Nat → Prop) : Nat → Prop := ep_lfp (ep_rF f P T)
def ep_stay (f : (Nat → Prop) → (Nat → Prop)) (T P : Nat → Prop) : Nat → Prop := ep_gfp (ep_rF f P T)
theorem ep_rF_mono {f : (Nat → Prop) → (Nat → Prop)} (h : ep_mono f) (P T : Nat → Prop) : ep_mono (ep_rF f P T) :=
  fun A B hab v hv => hv.elim Or.inl (fun x => Or.inr ⟨x.1, h A B hab v x.2⟩)
theorem ep_reach_out {f : (Nat → Prop) → (Nat → Prop)} (h : ep_mono f) {P T : Nat → Prop} (v : Nat) (x : ep_reach f P T v) :
    P v ∨ (T v ∧ f (ep_reach f P T) v) := ep_lfp_post (ep_rF_mono h P T) v x
theorem ep_reach_in {f : (Nat → Prop) → (Nat → Prop)} (h : ep_mono f) {P T : Nat → Prop} (v : Nat) (x : P v ∨ (T v ∧ f (ep_reach f P T) v)) :
    ep_reach f P T v := ep_lfp_pre (ep_rF_mono h P T) v x
theorem ep_reach_ind {f : (Nat → Prop) → (Nat → Prop)} (h : ep_mono f) {P T X : Nat → Prop} (h1 : ∀ v, P v → X v)
    (h2 : ∀ v, T v → f (fun w => X w ∧ ep_reach f P T w) v → X v) : ep_le (ep_reach f P T) X :=
  ep_lfp_ind (ep_rF_mono h P T) (fun s hs => hs.elim (h1 s) (fun y => h2 s y.1 y.2))
theorem ep_reach_mono {f : (Nat → Prop) → (Nat → Prop)} {P T P' T' : Nat → Prop} (h1 : ep_le P P') (h2 : ep_le T T') :
    ep_le (ep_reach f P T) (ep_reach f P' T') :=
  ep_lfp_mono (fun _ s hs => hs.elim (fun x => Or.inl (h1 s x)) (fun x => Or.inr ⟨h2 s x.1, x.2⟩))
theorem ep_stay_out {f : (Nat → Prop) → (Nat → Prop)} (h : ep_mono f) {P T : Nat → Prop} (v : Nat) (x : ep_stay f T P v) :
    P v ∨ (T v ∧ f (ep_stay f T P) v) := ep_gfp_post (ep_rF_mono h P T) v x
theorem ep_stay_in {f : (Nat → Prop) → (Nat → Prop)} (h : ep_mono f) {P T : Nat → Prop} (v : Nat) (x : P v ∨ (T v ∧ f (ep_stay f T P) v)) :
    ep_stay f T P v := ep_gfp_pre (ep_rF_mono h P T) v x
theorem ep_stay_co {f : (Nat → Prop) → (Nat → Prop)} {P T X : Nat → Prop} (h1 : ∀ v, X v → P v ∨ (T v ∧ f X v)) :
    ep_le X (ep_stay f T P) := ep_le_gfp h1
theorem ep_stay_mono {f : (Nat → Prop) → (Nat → Prop)} {P T P' T' : Nat → Prop} (h1 : ep_le P P') (h2 : ep_le T T') :
    ep_le (ep_stay f T P) (ep_stay f T' P') :=
  ep_gfp_mono (fun _ s hs => hs.elim (fun x => Or.inl (h1 s x)) (fun x => Or.inr ⟨h2 s x.1, x.2⟩))
def ep_againF (f : (Nat → Prop) → (Nat → Prop)) (al a : Nat → Prop) : (Nat → Prop) → (Nat → Prop) :=
  fun Y => ep_reach f (fun v => a v ∧ f Y v) al
def ep_again (f : (Nat → Prop) → (Nat → Prop)) (al a : Nat → Prop) : Nat → Prop := ep_gfp (ep_againF f al a)
theorem ep_againF_mono {f : (Nat → Prop) → (Nat → Prop)} (h : ep_mono f) (al a : Nat → Prop) : ep_mono (ep_againF f al a) :=
  fun A B hab => ep_reach_mono (fun v x => ⟨x.1, h A B hab v x.2⟩) (ep_rfl al)
theorem ep_again_in {f : (Nat → Prop) → (Nat → Prop)} (h : ep_mono f) {al a Y : Nat → Prop} (v : Nat) (x : (a v ∧ f Y v) ∨ (al v ∧ f (ep_againF f al a Y) v)) :
    ep_againF f al a Y v := ep_reach_in (P := fun v => a v ∧ f Y v) (T := al) h v x
theorem ep_again_ind {f : (Nat → Prop) → (Nat → Prop)} (h : ep_mono f) {al a Y X : Nat → Prop} (h1 : ∀ v, a v ∧ f Y v → X v)
    (h2 : ∀ v, al v → f (fun w => X w ∧ ep_againF f al a Y w) v → X v) : ep_le (ep_againF f al a Y) X :=
  ep_reach_ind (P := fun v => a v ∧ f Y v) (T := al) h h1 h2
def ep_endF (f : (Nat → Prop) → (Nat → Prop)) (a : Nat → Prop) : (Nat → Prop) → (Nat → Prop) := fun X => ep_stay f a (f X)
def ep_end (f : (Nat → Prop) → (Nat → Prop)) (a : Nat → Prop) : Nat → Prop := ep_lfp (ep_endF f a)
theorem ep_endF_mono {f : (Nat → Prop) → (Nat → Prop)} (h : ep_mono f) (a : Nat → Prop) : ep_mono (ep_endF f a) :=
  fun A B hab => ep_stay_mono (h A B hab) (ep_rfl a)
def ep_bothF (f : (Nat → Prop) → (Nat → Prop)) (al a b : Nat → Prop) : (Nat → Prop) → (Nat → Prop) :=
  fun Z v => ep_againF f al a Z v ∧ ep_againF f al b Z v
def ep_both (f : (Nat → Prop) → (Nat → Prop)) (al a b : Nat → Prop) : Nat → Prop := ep_gfp (ep_bothF f al a b)
theorem ep_bothF_mono {f : (Nat → Prop) → (Nat → Prop)} (h : ep_mono f) (al a b : Nat → Prop) : ep_mono (ep_bothF f al a b) :=
  fun A B hab v x => ⟨ep_againF_mono h al a A B hab v x.1, ep_againF_mono h al b A B hab v x.2⟩
theorem ep_sol_1 {S : Type} {rk : S → Nat} {cp : (S → Prop) → (S → Prop)} (hc : ep_mono cp) (h0 : ∀ s, rk s ≠ 0) (W : S → Prop) :
    ep_sol rk cp 2 W = ep_at rk 1 W (cp (ep_sol rk cp 2 W)) := by
  have h := ep_sol_un rk hc 1 W
  rw [ep_sol_skip rk cp 0 _ h0, ep_sol_0] at h
  exact h

/-- goal 2 -/
theorem ep_g2 {n : Nat} {f : (Nat → Prop) → (Nat → Prop)} {cp : (Nat × Nat → Prop) → (Nat × Nat → Prop)} {nm : Nat → Nat → Nat}
    {rk : Nat × Nat → Nat} {W0 : Nat × Nat → Prop} (hF : ep_F n f) (hC : ep_C n f 1 nm cp) {a : Nat → Prop}
    (hn : ∀ v, nm 0 v = 0) (h2 : ∀ v, a v → rk (0, v) = 2) (h1 : ∀ v, ¬ a v → rk (0, v) = 1) (h0 : ∀ s, rk s ≠ 0) (v : Nat) (hv : v < n) :
    ep_sol rk cp 3 W0 (0, v) ↔ ep_again f (fun v => v < n) a v := by
  have hm := ep_F_mono hF
  have hc := hC.1
  obtain ⟨R, eR⟩ : ∃ R, R = ep_again f (fun v => v < n) a := ⟨_, rfl⟩
  obtain ⟨U, eU⟩ : ∃ U, U = ep_sol rk cp 3 W0 := ⟨_, rfl⟩
  rw [← eR, ← eU]
  have Uun : U = ep_sol rk cp 2 (ep_at rk 2 W0 (cp U)) := by rw [eU]; exact ep_sol_un rk hc 2 W0
  constructor
  · intro h
    have key : ep_le (fun w => U (0, w) ∧ w < n) R := by
      rw [eR]
      apply ep_le_gfp
      obtain ⟨L, eL⟩ : ∃ L, L = ep_againF f (fun v => v < n) a (fun w => U (0, w) ∧ w < n) := ⟨_, rfl⟩
      have Lin : ∀ v, (a v ∧ f (fun w => U (0, w) ∧ w < n) v) ∨ (v < n ∧ f L v) → L v := by
        rw [eL]; exact ep_again_in hm
      rw [← eL]
      have hT : ep_le U (fun s => s.1 = 0 → s.2 < n → L s.2) := by
        rw [Uun]
        refine ep_sol_ind hc rfl ?_
        rw [ep_sol_skip rk cp 0 _ h0, ep_sol_0]
        rintro ⟨m, w⟩ hs hm0 hw
        have hm0 : m = 0 := hm0
        have hw : w < n := hw
        subst hm0
        by_cases ha : a w
        · rw [ep_at_ne (by have := h2 w ha; omega), ep_at_eq (h2 w ha)] at hs
          exact Lin w (Or.inl ⟨ha, ep_c1 hF hC 0 (by decide) hw (hn w) hs (fun x hx hU => ⟨hU, hx⟩)⟩)
        · rw [ep_at_eq (h1 w ha)] at hs
          exact Lin w (Or.inr ⟨hw, ep_c1 hF hC 0 (by decide) hw (hn w) hs (fun x hx hT => hT.1 rfl hx)⟩)
      exact fun w hw => hT (0, w) hw.1 rfl hw.2
    exact key v ⟨h, hv⟩
  · intro h
    have Run : ∀ v, R v → ep_againF f (fun v => v < n) a R v := by rw [eR]; exact ep_gfp_post (ep_againF_mono hm _ a)
    have Rin : ∀ v, ep_againF f (fun v => v < n) a R v → R v := by rw [eR]; exact ep_gfp_pre (ep_againF_mono hm _ a)
    have hT : ep_le (fun s => s.1 = 0 ∧ R s.2) U := by
      rw [eU]
      refine ep_sol_co rfl ?_
      obtain ⟨V, eV⟩ : ∃ V, V = ep_sol rk cp 2 (ep_at rk 2 W0 (cp fun s => s.1 = 0 ∧ R s.2)) := ⟨_, rfl⟩
      have Vun : V = ep_at rk 1 (ep_at rk 2 W0 (cp fun s => s.1 = 0 ∧ R s.2)) (cp V) := by rw [eV]; exact ep_sol_1 hc h0 _
      rw [← eV]
      rintro ⟨m, w⟩ ⟨hm0, hR⟩
      have hm0 : m = 0 := hm0
      subst hm0
      have hL : ep_le (ep_againF f (fun v => v < n) a R) (fun w => V (0, w)) := by
        refine ep_again_ind hm ?_ ?_
        · rintro x ⟨hax, hfx⟩
          show V (0, x)
          rw [Vun, ep_at_ne (by have := h2 x hax; omega), ep_at_eq (h2 x hax)]
          exact ep_c2 hF hC 0 (by decide) (hn x) hfx (fun y _ hy => ⟨rfl, hy⟩)
        · intro x hxn hfx
          show V (0, x)
          by_cases hax : a x
          · rw [Vun, ep_at_ne (by have := h2 x hax; omega), ep_at_eq (h2 x hax)]
            exact ep_c2 hF hC 0 (by decide) (hn x) hfx (fun y _ hy => ⟨rfl, Rin y hy.2⟩)
          · rw [Vun, ep_at_eq (h1 x hax)]
            exact ep_c2 hF hC 0 (by decide) (hn x) hfx (fun y _ hy => hy.1)
      exact hL w (Run w hR)
    exact hT (0, v) ⟨rfl, h⟩

/-- goal 3 -/
theorem ep_g3 {n : Nat} {f : (Nat → Prop) → (Nat → Prop)} {cp : (Nat × Nat → Prop) → (Nat × Nat → Prop)} {nm : Nat → Nat → Nat}
    {rk : Nat × Nat → Nat} {W0 : Nat × Nat → Prop} (hF : ep_F n f) (hC : ep_C n f 1 nm cp) {a : Nat → Prop}
    (hn : ∀ v, nm 0 v = 0) (h0 : ∀ v, a v → rk (0, v) = 0) (h1 : ∀ v, ¬ a v → rk (0, v) = 1) (v : Nat) (hv : v < n) :
    ep_sol rk cp 2 W0 (0, v) ↔ ep_end f a v := by
  have hm := ep_F_mono hF
  have hc := hC.1
  obtain ⟨R, eR⟩ : ∃ R, R = ep_end f a := ⟨_, rfl⟩
  rw [← eR]
  have Rin : ∀ v, ep_stay f a (f R) v → R v := by rw [eR]; exact ep_lfp_pre (ep_endF_mono hm a)
  constructor
  · intro h
    have key : ep_le (ep_sol rk cp 2 W0) (fun s => s.1 = 0 → s.2 < n → R s.2) := by
      refine ep_sol_ind hc rfl ?_
      obtain ⟨T, eT⟩ : ∃ T : Nat × Nat → Prop, T = fun s => (s.1 = 0 → s.2 < n → R s.2) ∧ ep_sol rk cp (1 + 1) W0 s := ⟨_, rfl⟩
      rw [← eT]
      obtain ⟨U, eU⟩ : ∃ U, U = ep_sol rk cp 1 (ep_at rk 1 W0 (cp T)) := ⟨_, rfl⟩
      have Uun : U = ep_at rk 0 (ep_at rk 1 W0 (cp T)) (cp U) := by rw [eU]; exact ep_sol_un rk hc 0 _
      rw [← eU]
      have hS : ep_le (fun w => U (0, w) ∧ w < n) (ep_stay f a (f R)) := by
        refine ep_stay_co ?_
        rintro w ⟨hs, hw⟩
        rw [Uun] at hs
        by_cases ha : a w
        · rw [ep_at_eq (h0 w ha)] at hs
          exact Or.inr ⟨ha, ep_c1 hF hC 0 (by decide) hw (hn w) hs (fun x hx hU => ⟨hU, hx⟩)⟩
        · rw [ep_at_ne (by have := h1 w ha; omega), ep_at_eq (h1 w ha)] at hs
          refine Or.inl (ep_c1 hF hC 0 (by decide) hw (hn w) hs (fun x hx hT => ?_))
          rw [eT] at hT
          exact hT.1 rfl hx
      rintro ⟨m, w⟩ hs hm0 hw
      have hm0 : m = 0 := hm0
      subst hm0
      exact Rin w (hS w ⟨hs, hw⟩)
    exact key (0, v) h rfl hv
  · intro h
    obtain ⟨Q, eQ⟩ : ∃ Q, Q = ep_sol rk cp 2 W0 := ⟨_, rfl⟩
    have Qun : Q = ep_sol rk cp 1 (ep_at rk 1 W0 (cp Q)) := by rw [eQ]; exact ep_sol_un rk hc 1 W0
    have Qun2 : Q = ep_at rk 0 (ep_at rk 1 W0 (cp Q)) (cp Q) := by
      have h := ep_sol_un rk hc 0 (ep_at rk 1 W0 (cp Q))
      rw [ep_sol_0, ← Qun] at h
      exact h
    rw [← eQ]
    have key : ep_le R (fun w => Q (0, w)) := by
      rw [eR]
      apply ep_lfp_le
      obtain ⟨K, eK⟩ : ∃ K, K = ep_stay f a (f fun w => Q (0, w)) := ⟨_, rfl⟩
      have Kout : ∀ v, K v → f (fun w => Q (0, w)) v ∨ (a v ∧ f K v) := by rw [eK]; exact ep_stay_out hm
      show ep_le (ep_stay f a (f fun w => Q (0, w))) _
      rw [← eK]
      have hT : ep_le (fun s => (s.1 = 0 ∧ K s.2) ∨ Q s) (ep_sol rk cp 1 (ep_at rk 1 W0 (cp Q))) := by
        refine ep_sol_co rfl ?_
        rw [ep_sol_0]
        rintro ⟨m, w⟩ hs
        cases hs with
        | inr hs =>
          rw [Qun2] at hs
          cases hs with
          | inl hs => exact Or.inl ⟨hs.1, hc _ _ (fun s x => Or.inr x) _ hs.2⟩
          | inr hs => exact Or.inr hs
        | inl hs =>
          have hm0 : m = 0 := hs.1
          subst hm0
          by_cases ha : a w
          · rw [ep_at_eq (h0 w ha)]
            cases Kout w hs.2 with
            | inl hk => exact ep_c2 hF hC 0 (by decide) (hn w) hk (fun y _ hy => Or.inr hy)
            | inr hk => exact ep_c2 hF hC 0 (by decide) (hn w) hk.2 (fun y _ hy => Or.inl ⟨rfl, hy⟩)
          · rw [ep_at_ne (by have := h1 w ha; omega), ep_at_eq (h1 w ha)]
            cases Kout w hs.2 with
            | inl hk => exact ep_c2 hF hC 0 (by decide) (hn w) hk (fun y _ hy => hy)
            | inr hk => exact absurd hk.1 ha
      intro w hw
      show Q (0, w)
      rw [Qun]
      exact hT (0, w) (Or.inl ⟨rfl, hw⟩)
    exact key v h
