/-! goal 5 -/
def ep_spoilF (f : (Nat → Prop) → (Nat → Prop)) (al a b st z : Nat → Prop) : (Nat → Prop) → (Nat → Prop) :=
  fun Y v => ep_stay f (fun v => al v ∧ ¬ a v) (fun v => (st v ∧ f z v) ∨ f Y v) v ∨ ep_stay f (fun v => al v ∧ ¬ b v) (fun v => (st v ∧ f z v) ∨ f Y v) v
def ep_spoil (f : (Nat → Prop) → (Nat → Prop)) (al a b st z : Nat → Prop) : Nat → Prop := ep_lfp (ep_spoilF f al a b st z)
def ep_ifbF (f : (Nat → Prop) → (Nat → Prop)) (al a b c d : Nat → Prop) : (Nat → Prop) → (Nat → Prop) :=
  fun Z v => ep_spoil f al a b c Z v ∧ ep_spoil f al a b d Z v
def ep_ifb (f : (Nat → Prop) → (Nat → Prop)) (al a b c d : Nat → Prop) : Nat → Prop := ep_gfp (ep_ifbF f al a b c d)
theorem ep_spoilF_le {f : (Nat → Prop) → (Nat → Prop)} {al a b st z st' z' Y Y' : Nat → Prop}
    (h : ∀ v, (st v ∧ f z v) ∨ f Y v → (st' v ∧ f z' v) ∨ f Y' v) : ep_le (ep_spoilF f al a b st z Y) (ep_spoilF f al a b st' z' Y') :=
  fun v x => x.elim (fun y => Or.inl (ep_stay_mono h (ep_rfl _) v y)) (fun y => Or.inr (ep_stay_mono h (ep_rfl _) v y))
theorem ep_spoilF_mono {f : (Nat → Prop) → (Nat → Prop)} (h : ep_mono f) (al a b st z : Nat → Prop) : ep_mono (ep_spoilF f al a b st z) :=
  fun A B hab => ep_spoilF_le fun v x => x.elim Or.inl (fun y => Or.inr (h A B hab v y))
theorem ep_spoil_mono {f : (Nat → Prop) → (Nat → Prop)} (h : ep_mono f) (al a b st : Nat → Prop) : ep_mono (ep_spoil f al a b st) :=
  fun A B hab => ep_lfp_mono fun _ => ep_spoilF_le fun v x => x.elim (fun y => Or.inl ⟨y.1, h A B hab v y.2⟩) Or.inr
theorem ep_ifbF_mono {f : (Nat → Prop) → (Nat → Prop)} (h : ep_mono f) (al a b c d : Nat → Prop) : ep_mono (ep_ifbF f al a b c d) :=
  fun A B hab v x => ⟨ep_spoil_mono h al a b c A B hab v x.1, ep_spoil_mono h al a b d A B hab v x.2⟩
/-- one of the two awaited sets C, D: what the settled states have, the formula has -/
theorem ep_g5a {n : Nat} {f : (Nat → Prop) → (Nat → Prop)} {cp : (Nat × Nat → Prop) → (Nat × Nat → Prop)} {nm : Nat → Nat → Nat}
    {rk : Nat × Nat → Nat} {W0 U : Nat × Nat → Prop} (hF : ep_F n f) (hC : ep_C n f 4 nm cp) {a b s Q st : Nat → Prop} {j k : Nat}
    (hr3 : ∀ s, rk s < 3) (hk0 : 0 + 2 * j < 4) (hk1 : 1 + 2 * j < 4)
    (k1 : ∀ w, ¬ s w → b w → rk (1 + 2 * j, w) = 1) (k0 : ∀ w, ¬ s w → ¬ b w → rk (1 + 2 * j, w) = 0) (k00 : ∀ w, ¬ s w → rk (0 + 2 * j, w) = 0)
    (nS0 : ∀ w, s w → nm (0 + 2 * j) w = 0 + 2 * k ∨ nm (0 + 2 * j) w = 1 + 2 * k) (nS1 : ∀ w, s w → nm (1 + 2 * j) w = 0 + 2 * k ∨ nm (1 + 2 * j) w = 1 + 2 * k)
    (n0t : ∀ w, ¬ s w → a w → nm (0 + 2 * j) w = 1 + 2 * j) (n0f : ∀ w, ¬ s w → ¬ a w → nm (0 + 2 * j) w = 0 + 2 * j)
    (n1t : ∀ w, ¬ s w → b w → nm (1 + 2 * j) w = 0 + 2 * j) (n1f : ∀ w, ¬ s w → ¬ b w → nm (1 + 2 * j) w = 1 + 2 * j)
    (Uun : U = ep_sol rk cp 2 (ep_at rk 2 W0 (cp U)))
    (Qin : ∀ v, ep_stay f (fun v => v < n ∧ ¬ a v) st v ∨ ep_stay f (fun v => v < n ∧ ¬ b v) st v → Q v)
    (fQ : ∀ v, f Q v → st v) (hS : ∀ v, s v → f (fun w => (U (0 + 2 * k, w) ∨ U (1 + 2 * k, w)) ∧ w < n) v → st v) :
    ∀ v, v < n → (U (0 + 2 * j, v) → Q v) ∧ (U (1 + 2 * j, v) → Q v) := by
  have hm := ep_F_mono hF
  have hc := hC.1
  have key : ep_le U (fun s => s.2 < n → (s.1 = 0 + 2 * j → Q s.2) ∧ (s.1 = 1 + 2 * j → Q s.2)) := by
    have e2 : ep_sol rk cp (1 + 1) (ep_at rk 2 W0 (cp U)) = U := Uun.symm
    rw [← e2]
    refine ep_sol_ind hc rfl ?_
    rw [e2]
    obtain ⟨T, eT⟩ : ∃ T : Nat × Nat → Prop, T = fun s => (s.2 < n → (s.1 = 0 + 2 * j → Q s.2) ∧ (s.1 = 1 + 2 * j → Q s.2)) ∧ U s := ⟨_, rfl⟩
    rw [← eT]
    obtain ⟨G, eG⟩ : ∃ G, G = ep_sol rk cp 1 (ep_at rk 1 (ep_at rk 2 W0 (cp U)) (cp T)) := ⟨_, rfl⟩
    have Gun : G = ep_at rk 0 (ep_at rk 1 (ep_at rk 2 W0 (cp U)) (cp T)) (cp G) := by rw [eG]; exact ep_sol_un rk hc 0 _
    have TU : ep_le T U := by rw [eT]; exact fun s hs => hs.2
    have TQ : ∀ w, w < n → T (0 + 2 * j, w) → Q w := by rw [eT]; exact fun w hw hs => (hs.1 hw).1 rfl
    have U1 : U = ep_sol rk cp 1 (ep_at rk 1 (ep_at rk 2 W0 (cp U)) (cp U)) := by
      have h := ep_sol_un rk hc 1 (ep_at rk 2 W0 (cp U))
      rw [e2] at h
      exact h
    have GU : ep_le G U := by
      rw [eG]
      exact ep_tr (ep_solF rk hc 1 (ep_at rk 2 W0 (cp U)) _ _ TU) (ep_of_eq U1.symm)
    rw [← eG]
    have GcU : ∀ s, G s → cp U s := by
      intro s hs
      rw [Gun] at hs
      have h3 := hr3 s
      by_cases e0 : rk s = 0
      · rw [ep_at_eq e0] at hs; exact hc _ _ GU s hs
      · rw [ep_at_ne e0] at hs
        by_cases e1 : rk s = 1
        · rw [ep_at_eq e1] at hs; exact hc _ _ TU s hs
        · rw [ep_at_ne e1, ep_at_eq (by omega)] at hs; exact hs
    have hSt : ∀ w m, m < 4 → w < n → s w → (nm m w = 0 + 2 * k ∨ nm m w = 1 + 2 * k) → G (m, w) → st w := by
      intro w m hm4 hw hsw hnm hG
      refine hS w hsw ?_
      cases hnm with
      | inl e => exact ep_c1 hF hC (0 + 2 * k) hm4 hw e (GcU _ hG) (fun x hx hU => ⟨Or.inl hU, hx⟩)
      | inr e => exact ep_c1 hF hC (1 + 2 * k) hm4 hw e (GcU _ hG) (fun x hx hU => ⟨Or.inr hU, hx⟩)
    have G1 : ep_le (fun w => G (1 + 2 * j, w) ∧ w < n) (ep_stay f (fun v => v < n ∧ ¬ b v) st) := by
      refine ep_stay_co ?_
      rintro w ⟨hG, hw⟩
      by_cases hsw : s w
      · exact Or.inl (hSt w _ hk1 hw hsw (nS1 w hsw) hG)
      · rw [Gun] at hG
        by_cases hb : b w
        · rw [ep_at_ne (by have := k1 w hsw hb; omega), ep_at_eq (k1 w hsw hb)] at hG
          exact Or.inl (fQ w (ep_c1 hF hC (0 + 2 * j) hk1 hw (n1t w hsw hb) hG (fun x hx hT => TQ x hx hT)))
        · rw [ep_at_eq (k0 w hsw hb)] at hG
          exact Or.inr ⟨⟨hw, hb⟩, ep_c1 hF hC (1 + 2 * j) hk1 hw (n1f w hsw hb) hG (fun x hx hT => ⟨hT, hx⟩)⟩
    have G1Q : ∀ w, w < n → G (1 + 2 * j, w) → Q w := fun w hw hG => Qin w (Or.inr (G1 w ⟨hG, hw⟩))
    have G0 : ep_le (fun w => G (0 + 2 * j, w) ∧ w < n) (ep_stay f (fun v => v < n ∧ ¬ a v) st) := by
      refine ep_stay_co ?_
      rintro w ⟨hG, hw⟩
      by_cases hsw : s w
      · exact Or.inl (hSt w _ hk0 hw hsw (nS0 w hsw) hG)
      · rw [Gun, ep_at_eq (k00 w hsw)] at hG
        by_cases ha : a w
        · exact Or.inl (fQ w (ep_c1 hF hC (1 + 2 * j) hk0 hw (n0t w hsw ha) hG (fun x hx hT => G1Q x hx hT)))
        · exact Or.inr ⟨⟨hw, ha⟩, ep_c1 hF hC (0 + 2 * j) hk0 hw (n0f w hsw ha) hG (fun x hx hT => ⟨hT, hx⟩)⟩
    rintro ⟨m, w⟩ hs hw
    have hw : w < n := hw
    constructor
    · intro hm0
      have hm0 : m = 0 + 2 * j := hm0
      subst hm0
      exact Qin w (Or.inl (G0 w ⟨hs, hw⟩))
    · intro hm0
      have hm0 : m = 1 + 2 * j := hm0
      subst hm0
      exact G1Q w hw hs
  exact fun v hv => ⟨fun h => (key _ h hv).1 rfl, fun h => (key _ h hv).2 rfl⟩
/-- and the other way -/
theorem ep_g5b {n : Nat} {f : (Nat → Prop) → (Nat → Prop)} {cp : (Nat × Nat → Prop) → (Nat × Nat → Prop)} {nm : Nat → Nat → Nat}
    {rk : Nat × Nat → Nat} {W1 V : Nat × Nat → Prop} (hF : ep_F n f) (hC : ep_C n f 4 nm cp) {a b s R : Nat → Prop} {j : Nat}
    (hk0 : 0 + 2 * j < 4) (hk1 : 1 + 2 * j < 4)
    (k1 : ∀ w, ¬ s w → b w → rk (1 + 2 * j, w) = 1) (k0 : ∀ w, ¬ s w → ¬ b w → rk (1 + 2 * j, w) = 0) (k00 : ∀ w, ¬ s w → rk (0 + 2 * j, w) = 0)
    (n0t : ∀ w, ¬ s w → a w → nm (0 + 2 * j) w = 1 + 2 * j) (n0f : ∀ w, ¬ s w → ¬ a w → nm (0 + 2 * j) w = 0 + 2 * j)
    (n1t : ∀ w, ¬ s w → b w → nm (1 + 2 * j) w = 0 + 2 * j) (n1f : ∀ w, ¬ s w → ¬ b w → nm (1 + 2 * j) w = 1 + 2 * j)
    (Vun : V = ep_sol rk cp 2 W1) (QR : ep_le (ep_spoil f (fun v => v < n) a b s R) R)
    (hS : ∀ m v (T : Nat × Nat → Prop), m = 0 + 2 * j ∨ m = 1 + 2 * j → s v → f R v → ep_le V T → ep_at rk 0 (ep_at rk 1 W1 (cp V)) (cp T) (m, v)) :
    ∀ v, ep_spoil f (fun v => v < n) a b s R v → V (0 + 2 * j, v) ∧ V (1 + 2 * j, v) := by
  have hm := ep_F_mono hF
  have hc := hC.1
  have V1 : V = ep_sol rk cp 1 (ep_at rk 1 W1 (cp V)) := by rw [Vun]; exact ep_sol_un rk hc 1 W1
  have V2 : V = ep_at rk 0 (ep_at rk 1 W1 (cp V)) (cp V) := by
    have h := ep_sol_un rk hc 0 (ep_at rk 1 W1 (cp V))
    rw [ep_sol_0, ← V1] at h
    exact h
  have cov : ∀ (k : Nat) (K : Nat → Prop), (∀ v, K v → ep_at rk 0 (ep_at rk 1 W1 (cp V)) (cp fun s => (s.1 = k ∧ K s.2) ∨ V s) (k, v)) → ∀ v, K v → V (k, v) := by
    intro k K hK v hv
    have hT : ep_le (fun s => (s.1 = k ∧ K s.2) ∨ V s) (ep_sol rk cp 1 (ep_at rk 1 W1 (cp V))) := by
      refine ep_sol_co rfl ?_
      rw [ep_sol_0]
      rintro ⟨m, w⟩ hs
      cases hs with
      | inr hs =>
        rw [V2] at hs
        cases hs with
        | inl hs => exact Or.inl ⟨hs.1, hc _ _ (fun s x => Or.inr x) _ hs.2⟩
        | inr hs => exact Or.inr hs
      | inl hs =>
        have hm0 : m = k := hs.1
        subst hm0
        exact hK w hs.2
    rw [V1]
    exact hT (k, v) (Or.inl ⟨rfl, hv⟩)
  refine ep_lfp_ind (ep_spoilF_mono hm _ a b s R) ?_
  obtain ⟨Y, eY⟩ : ∃ Y : Nat → Prop, Y = fun v => (V (0 + 2 * j, v) ∧ V (1 + 2 * j, v)) ∧ ep_lfp (ep_spoilF f (fun v => v < n) a b s R) v := ⟨_, rfl⟩
  rw [← eY]
  have Y0 : ∀ w, Y w → V (0 + 2 * j, w) := by rw [eY]; exact fun w h => h.1.1
  have Y1 : ∀ w, Y w → V (1 + 2 * j, w) := by rw [eY]; exact fun w h => h.1.2
  have YQ : ep_le Y (ep_spoil f (fun v => v < n) a b s R) := by rw [eY]; exact fun w h => h.2
  have FQ : ep_le (ep_spoilF f (fun v => v < n) a b s R Y) R :=
    fun w h => QR w (ep_lfp_pre (ep_spoilF_mono hm _ a b s R) w (ep_spoilF_mono hm _ a b s R _ _ YQ w h))
  obtain ⟨st, est⟩ : ∃ st : Nat → Prop, st = fun v => (s v ∧ f R v) ∨ f Y v := ⟨_, rfl⟩
  obtain ⟨Ka, eKa⟩ : ∃ K : Nat → Prop, K = ep_stay f (fun v => v < n ∧ ¬ a v) st := ⟨_, rfl⟩
  obtain ⟨Kb, eKb⟩ : ∃ K : Nat → Prop, K = ep_stay f (fun v => v < n ∧ ¬ b v) st := ⟨_, rfl⟩
  have aR : ∀ w, Ka w → R w := fun w h => FQ w (Or.inl (by rw [eKa, est] at h; exact h))
  have bR : ∀ w, Kb w → R w := fun w h => FQ w (Or.inr (by rw [eKb, est] at h; exact h))
  have aout : ∀ w, Ka w → st w ∨ ((w < n ∧ ¬ a w) ∧ f Ka w) := by rw [eKa]; exact ep_stay_out hm
  have bout : ∀ w, Kb w → st w ∨ ((w < n ∧ ¬ b w) ∧ f Kb w) := by rw [eKb]; exact ep_stay_out hm
  have sR : ∀ w, st w → f R w := by
    rw [est]
    exact fun w h => h.elim (fun x => x.2) (fun x => hm _ _ (ep_tr YQ QR) w x)
  have sY : ∀ w, ¬ s w → st w → f Y w := by
    rw [est]
    exact fun w hs h => h.elim (fun x => absurd x.1 hs) (fun x => x)
  have afR : ∀ w, Ka w → f R w := fun w h => (aout w h).elim (sR w) (fun x => hm _ _ aR w x.2)
  have bfR : ∀ w, Kb w → f R w := fun w h => (bout w h).elim (sR w) (fun x => hm _ _ bR w x.2)
  have A0 : ∀ v, Ka v → V (0 + 2 * j, v) := cov (0 + 2 * j) Ka fun v hv => by
    by_cases hs : s v
    · exact hS _ v _ (Or.inl rfl) hs (afR v hv) (fun s x => Or.inr x)
    · rw [ep_at_eq (k00 v hs)]
      by_cases ha : a v
      · cases aout v hv with
        | inl h => exact ep_c2 hF hC (1 + 2 * j) hk0 (n0t v hs ha) (sY v hs h) (fun w _ hw => Or.inr (Y1 w hw))
        | inr h => exact absurd ha h.1.2
      · cases aout v hv with
        | inl h => exact ep_c2 hF hC (0 + 2 * j) hk0 (n0f v hs ha) (sY v hs h) (fun w _ hw => Or.inr (Y0 w hw))
        | inr h => exact ep_c2 hF hC (0 + 2 * j) hk0 (n0f v hs ha) h.2 (fun w _ hw => Or.inl ⟨rfl, hw⟩)
  have A1 : ∀ v, Ka v → V (1 + 2 * j, v) := cov (1 + 2 * j) Ka fun v hv => by
    by_cases hs : s v
    · exact hS _ v _ (Or.inr rfl) hs (afR v hv) (fun s x => Or.inr x)
    · by_cases hb : b v
      · rw [ep_at_ne (by have := k1 v hs hb; omega), ep_at_eq (k1 v hs hb)]
        cases aout v hv with
        | inl h => exact ep_c2 hF hC (0 + 2 * j) hk1 (n1t v hs hb) (sY v hs h) (fun w _ hw => Y0 w hw)
        | inr h => exact ep_c2 hF hC (0 + 2 * j) hk1 (n1t v hs hb) h.2 (fun w _ hw => A0 w hw)
      · rw [ep_at_eq (k0 v hs hb)]
        cases aout v hv with
        | inl h => exact ep_c2 hF hC (1 + 2 * j) hk1 (n1f v hs hb) (sY v hs h) (fun w _ hw => Or.inr (Y1 w hw))
        | inr h => exact ep_c2 hF hC (1 + 2 * j) hk1 (n1f v hs hb) h.2 (fun w _ hw => Or.inl ⟨rfl, hw⟩)
  have B1 : ∀ v, Kb v → V (1 + 2 * j, v) := cov (1 + 2 * j) Kb fun v hv => by
    by_cases hs : s v
    · exact hS _ v _ (Or.inr rfl) hs (bfR v hv) (fun s x => Or.inr x)
    · by_cases hb : b v
      · rw [ep_at_ne (by have := k1 v hs hb; omega), ep_at_eq (k1 v hs hb)]
        cases bout v hv with
        | inl h => exact ep_c2 hF hC (0 + 2 * j) hk1 (n1t v hs hb) (sY v hs h) (fun w _ hw => Y0 w hw)
        | inr h => exact absurd hb h.1.2
      · rw [ep_at_eq (k0 v hs hb)]
        cases bout v hv with
        | inl h => exact ep_c2 hF hC (1 + 2 * j) hk1 (n1f v hs hb) (sY v hs h) (fun w _ hw => Or.inr (Y1 w hw))
        | inr h => exact ep_c2 hF hC (1 + 2 * j) hk1 (n1f v hs hb) h.2 (fun w _ hw => Or.inl ⟨rfl, hw⟩)
  have B0 : ∀ v, Kb v → V (0 + 2 * j, v) := cov (0 + 2 * j) Kb fun v hv => by
    by_cases hs : s v
    · exact hS _ v _ (Or.inl rfl) hs (bfR v hv) (fun s x => Or.inr x)
    · rw [ep_at_eq (k00 v hs)]
      by_cases ha : a v
      · cases bout v hv with
        | inl h => exact ep_c2 hF hC (1 + 2 * j) hk0 (n0t v hs ha) (sY v hs h) (fun w _ hw => Or.inr (Y1 w hw))
        | inr h => exact ep_c2 hF hC (1 + 2 * j) hk0 (n0t v hs ha) h.2 (fun w _ hw => Or.inr (B1 w hw))
      · cases bout v hv with
        | inl h => exact ep_c2 hF hC (0 + 2 * j) hk0 (n0f v hs ha) (sY v hs h) (fun w _ hw => Or.inr (Y0 w hw))
        | inr h => exact ep_c2 hF hC (0 + 2 * j) hk0 (n0f v hs ha) h.2 (fun w _ hw => Or.inl ⟨rfl, hw⟩)
  intro v hv
  cases hv with
  | inl h =>
    have h : Ka v := by rw [eKa, est]; exact h
    exact ⟨A0 v h, A1 v h⟩
  | inr h =>
    have h : Kb v := by rw [eKb, est]; exact h
    exact ⟨B0 v h, B1 v h⟩
theorem ep_g5 {n : Nat} {f : (Nat → Prop) → (Nat → Prop)} {cp : (Nat × Nat → Prop) → (Nat × Nat → Prop)} {nm : Nat → Nat → Nat}
    {rk : Nat × Nat → Nat} {W0 : Nat × Nat → Prop} (hF : ep_F n f) (hC : ep_C n f 4 nm cp) {a b : Nat → Prop} {s : Nat → Nat → Prop}
    (hr3 : ∀ s, rk s < 3)
    (k1 : ∀ j w, j < 2 → ¬ s j w → b w → rk (1 + 2 * j, w) = 1) (k0 : ∀ j w, j < 2 → ¬ s j w → ¬ b w → rk (1 + 2 * j, w) = 0)
    (k00 : ∀ j w, j < 2 → ¬ s j w → rk (0 + 2 * j, w) = 0)
    (k2 : ∀ m w, m = 0 + 2 * 1 ∨ m = 1 + 2 * 1 → s 1 w → rk (m, w) = 2) (k3 : ∀ m w, m = 0 + 2 * 0 ∨ m = 1 + 2 * 0 → rk (m, w) < 2)
    (nS0 : ∀ j w, j < 2 → s j w → nm (0 + 2 * j) w = 0 + 2 * (1 - j) ∨ nm (0 + 2 * j) w = 1 + 2 * (1 - j))
    (nS1 : ∀ j w, j < 2 → s j w → nm (1 + 2 * j) w = 0 + 2 * (1 - j) ∨ nm (1 + 2 * j) w = 1 + 2 * (1 - j))
    (n0t : ∀ j w, j < 2 → ¬ s j w → a w → nm (0 + 2 * j) w = 1 + 2 * j) (n0f : ∀ j w, j < 2 → ¬ s j w → ¬ a w → nm (0 + 2 * j) w = 0 + 2 * j)
    (n1t : ∀ j w, j < 2 → ¬ s j w → b w → nm (1 + 2 * j) w = 0 + 2 * j) (n1f : ∀ j w, j < 2 → ¬ s j w → ¬ b w → nm (1 + 2 * j) w = 1 + 2 * j)
    (v : Nat) (hv : v < n) :
    ep_sol rk cp 3 W0 (0, v) ↔ ep_ifb f (fun v => v < n) a b (s 0) (s 1) v := by
  have hm := ep_F_mono hF
  have hc := hC.1
  obtain ⟨R, eR⟩ : ∃ R, R = ep_ifb f (fun v => v < n) a b (s 0) (s 1) := ⟨_, rfl⟩
  obtain ⟨U, eU⟩ : ∃ U, U = ep_sol rk cp 3 W0 := ⟨_, rfl⟩
  rw [← eR, ← eU]
  have Uun : U = ep_sol rk cp 2 (ep_at rk 2 W0 (cp U)) := by rw [eU]; exact ep_sol_un rk hc 2 W0
  constructor
  · intro h
    obtain ⟨Z, eZ⟩ : ∃ Z : Nat → Prop, Z = fun w => (∃ j, j < 2 ∧ (U (0 + 2 * j, w) ∨ U (1 + 2 * j, w))) ∧ w < n := ⟨_, rfl⟩
    have ZU : ∀ j, j < 2 → ∀ w, (U (0 + 2 * j, w) ∨ U (1 + 2 * j, w)) ∧ w < n → Z w := by
      rw [eZ]; exact fun j hj w h => ⟨⟨j, hj, h.1⟩, h.2⟩
    have Spre : ∀ j, ep_le (ep_spoilF f (fun v => v < n) a b (s j) Z (ep_spoil f (fun v => v < n) a b (s j) Z)) (ep_spoil f (fun v => v < n) a b (s j) Z) :=
      fun j => ep_lfp_pre (ep_spoilF_mono hm _ a b (s j) Z)
    have own : ∀ j, j < 2 → ∀ v, v < n → (U (0 + 2 * j, v) → ep_spoil f (fun v => v < n) a b (s j) Z v) ∧ (U (1 + 2 * j, v) → ep_spoil f (fun v => v < n) a b (s j) Z v) := by
      intro j hj
      refine ep_g5a (W0 := W0) (a := a) (b := b) (s := s j) (k := 1 - j) (st := fun v => (s j v ∧ f Z v) ∨ f (ep_spoil f (fun v => v < n) a b (s j) Z) v)
        hF hC hr3 (by omega) (by omega) (fun w => k1 j w hj) (fun w => k0 j w hj) (fun w => k00 j w hj) (fun w => nS0 j w hj) (fun w => nS1 j w hj)
        (fun w => n0t j w hj) (fun w => n0f j w hj) (fun w => n1t j w hj) (fun w => n1f j w hj) Uun ?_ ?_ ?_
      · exact fun v hv => Spre j v hv
      · exact fun v hv => Or.inr hv
      · exact fun v hs hv => Or.inl ⟨hs, hm _ _ (ZU (1 - j) (by omega)) v hv⟩
    have cross : ∀ j, j < 2 → ∀ v, v < n → (U (0 + 2 * j, v) → ep_spoil f (fun v => v < n) a b (s (1 - j)) Z v) ∧ (U (1 + 2 * j, v) → ep_spoil f (fun v => v < n) a b (s (1 - j)) Z v) := by
      intro j hj
      refine ep_g5a (W0 := W0) (a := a) (b := b) (s := s j) (k := 1 - j) (st := fun v => (s (1 - j) v ∧ f Z v) ∨ f (ep_spoil f (fun v => v < n) a b (s (1 - j)) Z) v)
        hF hC hr3 (by omega) (by omega) (fun w => k1 j w hj) (fun w => k0 j w hj) (fun w => k00 j w hj) (fun w => nS0 j w hj) (fun w => nS1 j w hj)
        (fun w => n0t j w hj) (fun w => n0f j w hj) (fun w => n1t j w hj) (fun w => n1f j w hj) Uun ?_ ?_ ?_
      · exact fun v hv => Spre (1 - j) v hv
      · exact fun v hv => Or.inr hv
      · exact fun v hs hv => Or.inr (hm _ _ (fun w hw => hw.1.elim ((own (1 - j) (by omega) w hw.2).1) ((own (1 - j) (by omega) w hw.2).2)) v hv)
    have key : ep_le Z R := by
      rw [eR]
      apply ep_le_gfp
      intro w hZ
      have hZ' := hZ
      rw [eZ] at hZ'
      obtain ⟨⟨j, hj, hU⟩, hw⟩ := hZ'
      have h1 : ep_spoil f (fun v => v < n) a b (s j) Z w := hU.elim (own j hj w hw).1 (own j hj w hw).2
      have h2 : ep_spoil f (fun v => v < n) a b (s (1 - j)) Z w := hU.elim (cross j hj w hw).1 (cross j hj w hw).2
      have hj' : j = 0 ∨ j = 1 := by omega
      cases hj' with
      | inl e => subst e; exact ⟨h1, h2⟩
      | inr e => subst e; exact ⟨h2, h1⟩
    exact key v (ZU 0 (by decide) v ⟨Or.inl h, hv⟩)
  · intro h
    have Run : ∀ v, R v → ep_spoil f (fun v => v < n) a b (s 0) R v ∧ ep_spoil f (fun v => v < n) a b (s 1) R v := by
      rw [eR]; exact ep_gfp_post (ep_ifbF_mono hm _ a b (s 0) (s 1))
    have hLR : ep_le (fun v => ep_spoil f (fun v => v < n) a b (s 0) R v ∨ ep_spoil f (fun v => v < n) a b (s 1) R v) R := by
      obtain ⟨Z, eZ⟩ : ∃ Z : Nat → Prop, Z = fun v => ep_spoil f (fun v => v < n) a b (s 0) R v ∨ ep_spoil f (fun v => v < n) a b (s 1) R v := ⟨_, rfl⟩
      rw [← eZ]
      have hRZ : ep_le R Z := by rw [eZ]; exact fun w hw => Or.inl (Run w hw).1
      have q : ∀ c d : Nat → Prop, ep_le R (ep_spoil f (fun v => v < n) a b c Z) → ep_le (ep_spoil f (fun v => v < n) a b d R) (ep_spoil f (fun v => v < n) a b c Z) := by
        intro c d hRc
        apply ep_lfp_le
        refine ep_tr (ep_spoilF_le ?_) (ep_lfp_pre (ep_spoilF_mono hm _ a b c Z))
        exact fun v x => x.elim (fun y => Or.inr (hm _ _ hRc v y.2)) (fun y => Or.inr y)
      have q0 := fun d => q (s 0) d (fun w hw => ep_spoil_mono hm _ a b (s 0) _ _ hRZ w (Run w hw).1)
      have q1 := fun d => q (s 1) d (fun w hw => ep_spoil_mono hm _ a b (s 1) _ _ hRZ w (Run w hw).2)
      rw [eR]
      apply ep_le_gfp
      intro w hw
      have hw' := hw
      rw [eZ] at hw'
      cases hw' with
      | inl x => exact ⟨q0 (s 0) w x, q1 (s 0) w x⟩
      | inr x => exact ⟨q0 (s 1) w x, q1 (s 1) w x⟩
    have hT : ep_le (fun s => s.1 < 4 ∧ R s.2) U := by
      rw [eU]
      refine ep_sol_co rfl ?_
      obtain ⟨V, eV⟩ : ∃ V, V = ep_sol rk cp 2 (ep_at rk 2 W0 (cp fun s => s.1 < 4 ∧ R s.2)) := ⟨_, rfl⟩
      rw [← eV]
      have v1 : ∀ v, ep_spoil f (fun v => v < n) a b (s 1) R v → V (0 + 2 * 1, v) ∧ V (1 + 2 * 1, v) := by
        refine ep_g5b (j := 1) hF hC (by decide) (by decide) (fun w => k1 1 w (by decide)) (fun w => k0 1 w (by decide)) (fun w => k00 1 w (by decide))
          (fun w => n0t 1 w (by decide)) (fun w => n0f 1 w (by decide)) (fun w => n1t 1 w (by decide)) (fun w => n1f 1 w (by decide)) eV (fun w hw => hLR w (Or.inr hw)) ?_
        intro m v T hmm hs hfR _
        have hk := k2 m v hmm hs
        rw [ep_at_ne (by omega), ep_at_ne (by omega), ep_at_eq hk]
        have hnm : nm m v < 4 := by
          rcases hmm with e | e
          · subst e; rcases nS0 1 v (by decide) hs with e | e <;> omega
          · subst e; rcases nS1 1 v (by decide) hs with e | e <;> omega
        exact ep_c2 hF hC (nm m v) (by omega) rfl hfR (fun w _ hw => ⟨hnm, hw⟩)
      have v0 : ∀ v, ep_spoil f (fun v => v < n) a b (s 0) R v → V (0 + 2 * 0, v) ∧ V (1 + 2 * 0, v) := by
        refine ep_g5b (j := 0) hF hC (by decide) (by decide) (fun w => k1 0 w (by decide)) (fun w => k0 0 w (by decide)) (fun w => k00 0 w (by decide))
          (fun w => n0t 0 w (by decide)) (fun w => n0f 0 w (by decide)) (fun w => n1t 0 w (by decide)) (fun w => n1f 0 w (by decide)) eV (fun w hw => hLR w (Or.inl hw)) ?_
        intro m v T hmm hs hfR hVT
        have hk := k3 m v hmm
        have hR2 : ∀ w, R w → V (nm m v, w) := by
          intro w hw
          have hv1 := v1 w (Run w hw).2
          rcases hmm with e | e
          · subst e
            rcases nS0 0 v (by decide) hs with e | e
            · rw [e]; exact hv1.1
            · rw [e]; exact hv1.2
          · subst e
            rcases nS1 0 v (by decide) hs with e | e
            · rw [e]; exact hv1.1
            · rw [e]; exact hv1.2
        by_cases e0 : rk (m, v) = 0
        · rw [ep_at_eq e0]
          exact ep_c2 hF hC (nm m v) (by omega) rfl hfR (fun w _ hw => hVT _ (hR2 w hw))
        · rw [ep_at_ne e0, ep_at_eq (by omega)]
          exact ep_c2 hF hC (nm m v) (by omega) rfl hfR (fun w _ hw => hR2 w hw)
      rintro ⟨m, w⟩ ⟨hm4, hR⟩
      have hm4 : m < 4 := hm4
      have hR : R w := hR
      have hm' : m = 0 + 2 * 0 ∨ m = 1 + 2 * 0 ∨ m = 0 + 2 * 1 ∨ m = 1 + 2 * 1 := by omega
      rcases hm' with e | e | e | e
      · subst e; exact (v0 w (Run w hR).1).1
      · subst e; exact (v0 w (Run w hR).1).2
      · subst e; exact (v1 w (Run w hR).2).1
      · subst e; exact (v1 w (Run w hR).2).2
    exact hT (0, v) ⟨Nat.zero_lt_succ _, h⟩
