/-! goals 6 and 7: two pairs -/
def ep_innF (f : (Nat → Prop) → (Nat → Prop)) (g wi ri : Nat → Prop) : (Nat → Prop) → (Nat → Prop) :=
  fun Y => ep_reach f (fun v => ri v ∨ ((wi v ∧ g v) ∧ f Y v)) wi
def ep_inner (f : (Nat → Prop) → (Nat → Prop)) (g wi ri : Nat → Prop) : Nat → Prop := ep_gfp (ep_innF f g wi ri)
def ep_own (f : (Nat → Prop) → (Nat → Prop)) (al g r y ri X : Nat → Prop) : Nat → Prop :=
  fun v => (ri v ∨ (((al v ∧ ¬ r v) ∧ g v) ∧ f y v)) ∨ ((al v ∧ ¬ r v) ∧ f X v)
def ep_leastF (f : (Nat → Prop) → (Nat → Prop)) (al g r g' r' y ri : Nat → Prop) : (Nat → Prop) → (Nat → Prop) :=
  fun X => ep_inner f g' (fun v => (al v ∧ ¬ r v) ∧ ¬ r' v) (ep_own f al g r y ri X)
def ep_least (f : (Nat → Prop) → (Nat → Prop)) (al g r g' r' y ri : Nat → Prop) : Nat → Prop := ep_lfp (ep_leastF f al g r g' r' y ri)
def ep_pair (f : (Nat → Prop) → (Nat → Prop)) (al g r g' r' ri : Nat → Prop) : Nat → Prop := ep_gfp fun Y => ep_least f al g r g' r' Y ri
def ep_oneF (f : (Nat → Prop) → (Nat → Prop)) (al g r g' r' : Nat → Prop) : (Nat → Prop) → (Nat → Prop) :=
  fun X v => ep_pair f al g r g' r' (f X) v ∨ ep_pair f al g' r' g r (f X) v
def ep_one (f : (Nat → Prop) → (Nat → Prop)) (al g r g' r' : Nat → Prop) : Nat → Prop := ep_lfp (ep_oneF f al g r g' r')
theorem ep_inn_in {f : (Nat → Prop) → (Nat → Prop)} (h : ep_mono f) {g wi ri Y : Nat → Prop} (v : Nat) (x : (ri v ∨ ((wi v ∧ g v) ∧ f Y v)) ∨ (wi v ∧ f (ep_innF f g wi ri Y) v)) :
    ep_innF f g wi ri Y v := ep_reach_in (P := fun v => ri v ∨ ((wi v ∧ g v) ∧ f Y v)) (T := wi) h v x
theorem ep_inn_ind {f : (Nat → Prop) → (Nat → Prop)} (h : ep_mono f) {g wi ri Y X : Nat → Prop} (h1 : ∀ v, ri v ∨ ((wi v ∧ g v) ∧ f Y v) → X v)
    (h2 : ∀ v, wi v → f (fun w => X w ∧ ep_innF f g wi ri Y w) v → X v) : ep_le (ep_innF f g wi ri Y) X :=
  ep_reach_ind (P := fun v => ri v ∨ ((wi v ∧ g v) ∧ f Y v)) (T := wi) h h1 h2
theorem ep_innF_le {f : (Nat → Prop) → (Nat → Prop)} (h : ep_mono f) {g wi ri ri' Y Y' : Nat → Prop} (h1 : ep_le ri ri') (h2 : ep_le Y Y') :
    ep_le (ep_innF f g wi ri Y) (ep_innF f g wi ri' Y') :=
  ep_reach_mono (fun v x => x.elim (fun y => Or.inl (h1 v y)) (fun y => Or.inr ⟨y.1, h _ _ h2 v y.2⟩)) (ep_rfl wi)
theorem ep_innF_mono {f : (Nat → Prop) → (Nat → Prop)} (h : ep_mono f) (g wi ri : Nat → Prop) : ep_mono (ep_innF f g wi ri) :=
  fun _ _ hab => ep_innF_le h (ep_rfl ri) hab
theorem ep_inner_mono {f : (Nat → Prop) → (Nat → Prop)} (h : ep_mono f) (g wi : Nat → Prop) : ep_mono (ep_inner f g wi) :=
  fun _ _ hab => ep_gfp_mono fun X => ep_innF_le h hab (ep_rfl X)
theorem ep_own_le {f : (Nat → Prop) → (Nat → Prop)} (h : ep_mono f) {al g r y ri X y' ri' X' : Nat → Prop} (h1 : ep_le y y') (h2 : ep_le ri ri') (h3 : ep_le X X') :
    ep_le (ep_own f al g r y ri X) (ep_own f al g r y' ri' X') :=
  fun v x => x.elim (fun z => z.elim (fun q => Or.inl (Or.inl (h2 v q))) (fun q => Or.inl (Or.inr ⟨q.1, h _ _ h1 v q.2⟩))) (fun z => Or.inr ⟨z.1, h _ _ h3 v z.2⟩)
theorem ep_leastF_le {f : (Nat → Prop) → (Nat → Prop)} (h : ep_mono f) {al g r g' r' y ri X y' ri' X' : Nat → Prop} (h1 : ep_le y y') (h2 : ep_le ri ri') (h3 : ep_le X X') :
    ep_le (ep_leastF f al g r g' r' y ri X) (ep_leastF f al g r g' r' y' ri' X') := ep_inner_mono h _ _ _ _ (ep_own_le h h1 h2 h3)
theorem ep_leastF_mono {f : (Nat → Prop) → (Nat → Prop)} (h : ep_mono f) (al g r g' r' y ri : Nat → Prop) : ep_mono (ep_leastF f al g r g' r' y ri) :=
  fun _ _ hab => ep_leastF_le h (ep_rfl y) (ep_rfl ri) hab
theorem ep_least_le {f : (Nat → Prop) → (Nat → Prop)} (h : ep_mono f) {al g r g' r' y ri y' ri' : Nat → Prop} (h1 : ep_le y y') (h2 : ep_le ri ri') :
    ep_le (ep_least f al g r g' r' y ri) (ep_least f al g r g' r' y' ri') := ep_lfp_mono fun X => ep_leastF_le h h1 h2 (ep_rfl X)
theorem ep_pairF_mono {f : (Nat → Prop) → (Nat → Prop)} (h : ep_mono f) (al g r g' r' ri : Nat → Prop) : ep_mono (fun Y => ep_least f al g r g' r' Y ri) :=
  fun _ _ hab => ep_least_le h hab (ep_rfl ri)
theorem ep_pair_mono {f : (Nat → Prop) → (Nat → Prop)} (h : ep_mono f) (al g r g' r' : Nat → Prop) : ep_mono (ep_pair f al g r g' r') :=
  fun _ _ hab => ep_gfp_mono fun Y => ep_least_le h (ep_rfl Y) hab
theorem ep_oneF_mono {f : (Nat → Prop) → (Nat → Prop)} (h : ep_mono f) (al g r g' r' : Nat → Prop) : ep_mono (ep_oneF f al g r g' r') :=
  fun A B hab v x => x.elim (fun y => Or.inl (ep_pair_mono h al g r g' r' _ _ (h A B hab) v y)) (fun y => Or.inr (ep_pair_mono h al g' r' g r _ _ (h A B hab) v y))
def ep_mb (m b : Nat) : Prop := (m = 0 ∧ b = 1) ∨ (m = 1 ∧ b = 0)
theorem ep_mb_s {m b : Nat} (h : ep_mb m b) : ep_mb b m := by unfold ep_mb at *; omega
theorem ep_mb_l {m b : Nat} (h : ep_mb m b) : m < 2 := by unfold ep_mb at *; omega
theorem ep_mb_e {m : Nat} (h : m < 2) : ∃ b, ep_mb m b := ⟨1 - m, by unfold ep_mb; omega⟩
/-- the ranks of a state of memory m, the pair b behind -/
def ep_r6 (nm : Nat → Nat → Nat) (rk : Nat × Nat → Nat) (g r : Nat → Nat → Prop) : Prop :=
  ∀ m b v, ep_mb m b → (r b v → nm m v = b ∧ rk (m, v) = 5) ∧ (¬ r b v → nm m v = m ∧ (g b v → rk (m, v) = 4) ∧
    (¬ g b v → (r m v → rk (m, v) = 3) ∧ (¬ r m v → (g m v → rk (m, v) = 2) ∧ (¬ g m v → rk (m, v) = 1))))
def ep_base (rk : Nat × Nat → Nat) (W Z5 Z4 Z3 Z2 Z1 : Nat × Nat → Prop) : Nat × Nat → Prop :=
  ep_at rk 1 (ep_at rk 2 (ep_at rk 3 (ep_at rk 4 (ep_at rk 5 W Z5) Z4) Z3) Z2) Z1
theorem ep_ba1 {rk : Nat × Nat → Nat} {W Z5 Z4 Z3 Z2 Z1 : Nat × Nat → Prop} {s : Nat × Nat} (h : rk s = 1) : ep_base rk W Z5 Z4 Z3 Z2 Z1 s = Z1 s := by
  unfold ep_base; rw [ep_at_eq h]
theorem ep_ba2 {rk : Nat × Nat → Nat} {W Z5 Z4 Z3 Z2 Z1 : Nat × Nat → Prop} {s : Nat × Nat} (h : rk s = 2) : ep_base rk W Z5 Z4 Z3 Z2 Z1 s = Z2 s := by
  unfold ep_base; rw [ep_at_ne (by omega), ep_at_eq h]
theorem ep_ba3 {rk : Nat × Nat → Nat} {W Z5 Z4 Z3 Z2 Z1 : Nat × Nat → Prop} {s : Nat × Nat} (h : rk s = 3) : ep_base rk W Z5 Z4 Z3 Z2 Z1 s = Z3 s := by
  unfold ep_base; rw [ep_at_ne (by omega), ep_at_ne (by omega), ep_at_eq h]
theorem ep_ba4 {rk : Nat × Nat → Nat} {W Z5 Z4 Z3 Z2 Z1 : Nat × Nat → Prop} {s : Nat × Nat} (h : rk s = 4) : ep_base rk W Z5 Z4 Z3 Z2 Z1 s = Z4 s := by
  unfold ep_base; rw [ep_at_ne (by omega), ep_at_ne (by omega), ep_at_ne (by omega), ep_at_eq h]
theorem ep_ba5 {rk : Nat × Nat → Nat} {W Z5 Z4 Z3 Z2 Z1 : Nat × Nat → Prop} {s : Nat × Nat} (h : rk s = 5) : ep_base rk W Z5 Z4 Z3 Z2 Z1 s = Z5 s := by
  unfold ep_base; rw [ep_at_ne (by omega), ep_at_ne (by omega), ep_at_ne (by omega), ep_at_ne (by omega), ep_at_eq h]
/-- what the settled states have, the formula has -/
theorem ep_g6a {n : Nat} {f : (Nat → Prop) → (Nat → Prop)} {cp : (Nat × Nat → Prop) → (Nat × Nat → Prop)} {nm : Nat → Nat → Nat}
    {rk : Nat × Nat → Nat} {W0 : Nat × Nat → Prop} (hF : ep_F n f) (hC : ep_C n f 2 nm cp) {g r : Nat → Nat → Prop} (h6 : ep_r6 nm rk g r) (h0 : ∀ s, rk s ≠ 0)
    {R : Nat → Prop} (Rin : ∀ i j, ep_mb i j → ep_le (ep_pair f (fun v => v < n) (g i) (r i) (g j) (r j) (f R)) R) :
    ep_le (ep_sol rk cp 6 W0) (fun s => s.1 < 2 → s.2 < n → R s.2) := by
  have hm := ep_F_mono hF
  have hc := hC.1
  refine ep_sol_ind hc rfl ?_
  obtain ⟨T, eT⟩ : ∃ T : Nat × Nat → Prop, T = fun s => (s.1 < 2 → s.2 < n → R s.2) ∧ ep_sol rk cp (5 + 1) W0 s := ⟨_, rfl⟩
  rw [← eT]
  have TR : ∀ m w, m < 2 → w < n → T (m, w) → R w := by rw [eT]; exact fun m w hm hw h => h.1 hm hw
  obtain ⟨U, eU⟩ : ∃ U, U = ep_sol rk cp 5 (ep_at rk 5 W0 (cp T)) := ⟨_, rfl⟩
  have Uun : U = ep_sol rk cp 4 (ep_at rk 4 (ep_at rk 5 W0 (cp T)) (cp U)) := by rw [eU]; exact ep_sol_un rk hc 4 _
  rw [← eU]
  have key : ∀ m b, ep_mb m b → ep_le (fun w => U (m, w) ∧ w < n) (ep_pair f (fun v => v < n) (g b) (r b) (g m) (r m) (f R)) := by
    intro m b hmb
    have hm2 := ep_mb_l hmb
    refine ep_le_gfp ?_
    obtain ⟨Uv, eUv⟩ : ∃ Uv : Nat → Prop, Uv = fun w => U (m, w) ∧ w < n := ⟨_, rfl⟩
    rw [← eUv]
    have UUv : ∀ w, w < n → U (m, w) → Uv w := by rw [eUv]; exact fun w hw h => ⟨h, hw⟩
    show ep_le Uv (ep_least f (fun v => v < n) (g b) (r b) (g m) (r m) Uv (f R))
    obtain ⟨L, eL⟩ : ∃ L, L = ep_least f (fun v => v < n) (g b) (r b) (g m) (r m) Uv (f R) := ⟨_, rfl⟩
    have Lin : ep_le (ep_leastF f (fun v => v < n) (g b) (r b) (g m) (r m) Uv (f R) L) L := by
      rw [eL]; exact ep_lfp_pre (ep_leastF_mono hm _ _ _ _ _ _ _)
    rw [← eL]
    have hU3 : ep_le U (fun s => s.1 = m → s.2 < n → L s.2) := by
      have e4 : ep_sol rk cp (3 + 1) (ep_at rk 4 (ep_at rk 5 W0 (cp T)) (cp U)) = U := Uun.symm
      rw [← e4]
      refine ep_sol_ind hc rfl ?_
      rw [e4]
      obtain ⟨T3, eT3⟩ : ∃ T : Nat × Nat → Prop, T = fun s => (s.1 = m → s.2 < n → L s.2) ∧ U s := ⟨_, rfl⟩
      rw [← eT3]
      have T3L : ∀ w, w < n → T3 (m, w) → L w := by rw [eT3]; exact fun w hw h => h.1 rfl hw
      obtain ⟨V, eV⟩ : ∃ V, V = ep_sol rk cp 3 (ep_at rk 3 (ep_at rk 4 (ep_at rk 5 W0 (cp T)) (cp U)) (cp T3)) := ⟨_, rfl⟩
      have Vun : V = ep_sol rk cp 2 (ep_at rk 2 (ep_at rk 3 (ep_at rk 4 (ep_at rk 5 W0 (cp T)) (cp U)) (cp T3)) (cp V)) := by rw [eV]; exact ep_sol_un rk hc 2 _
      rw [← eV]
      have hVL : ep_le (fun w => V (m, w) ∧ w < n) L := by
        refine ep_tr (ep_le_gfp ?_) Lin
        obtain ⟨Vv, eVv⟩ : ∃ Vv : Nat → Prop, Vv = fun w => V (m, w) ∧ w < n := ⟨_, rfl⟩
        rw [← eVv]
        have VVv : ∀ w, w < n → V (m, w) → Vv w := by rw [eVv]; exact fun w hw h => ⟨h, hw⟩
        obtain ⟨K, eK⟩ : ∃ K, K = ep_innF f (g m) (fun v => (v < n ∧ ¬ r b v) ∧ ¬ r m v) (ep_own f (fun v => v < n) (g b) (r b) Uv (f R) L) Vv := ⟨_, rfl⟩
        have Kin : ∀ v, (ep_own f (fun v => v < n) (g b) (r b) Uv (f R) L v ∨ ((((v < n ∧ ¬ r b v) ∧ ¬ r m v) ∧ g m v) ∧ f Vv v)) ∨ (((v < n ∧ ¬ r b v) ∧ ¬ r m v) ∧ f K v) → K v := by
          rw [eK]; exact ep_inn_in hm
        rw [← eK]
        have hV1 : ep_le V (fun s => s.1 = m → s.2 < n → K s.2) := by
          have e5 : ep_sol rk cp (1 + 1) (ep_at rk 2 (ep_at rk 3 (ep_at rk 4 (ep_at rk 5 W0 (cp T)) (cp U)) (cp T3)) (cp V)) = V := Vun.symm
          rw [← e5]
          refine ep_sol_ind hc rfl ?_
          rw [e5, ep_sol_skip rk cp 0 _ h0, ep_sol_0]
          rintro ⟨m', w⟩ hs hm0 hw
          have hm0 : m' = m := hm0
          have hw : w < n := hw
          subst hm0
          have hb := h6 m' b w hmb
          have hs : ep_base rk W0 (cp T) (cp U) (cp T3) (cp V) (cp fun s => (s.1 = m' → s.2 < n → K s.2) ∧ V s) (m', w) := hs
          show K w
          by_cases c1 : r b w
          · rw [ep_ba5 (hb.1 c1).2] at hs
            exact Kin w (Or.inl (Or.inl (Or.inl (Or.inl (ep_c1 hF hC b hm2 hw (hb.1 c1).1 hs (fun x hx hT => TR b x (ep_mb_l (ep_mb_s hmb)) hx hT))))))
          · have hb := hb.2 c1
            by_cases c2 : g b w
            · rw [ep_ba4 (hb.2.1 c2)] at hs
              exact Kin w (Or.inl (Or.inl (Or.inl (Or.inr ⟨⟨⟨hw, c1⟩, c2⟩, ep_c1 hF hC m' hm2 hw hb.1 hs UUv⟩))))
            · have hb2 := hb.2.2 c2
              by_cases c3 : r m' w
              · rw [ep_ba3 (hb2.1 c3)] at hs
                exact Kin w (Or.inl (Or.inl (Or.inr ⟨⟨hw, c1⟩, ep_c1 hF hC m' hm2 hw hb.1 hs T3L⟩)))
              · have hb3 := hb2.2 c3
                by_cases c4 : g m' w
                · rw [ep_ba2 (hb3.1 c4)] at hs
                  exact Kin w (Or.inl (Or.inr ⟨⟨⟨⟨hw, c1⟩, c3⟩, c4⟩, ep_c1 hF hC m' hm2 hw hb.1 hs VVv⟩))
                · rw [ep_ba1 (hb3.2 c4)] at hs
                  exact Kin w (Or.inr ⟨⟨⟨hw, c1⟩, c3⟩, ep_c1 hF hC m' hm2 hw hb.1 hs (fun x hx hT => hT.1 rfl hx)⟩)
        intro w hw
        rw [eVv] at hw
        exact hV1 (m, w) hw.1 rfl hw.2
      rintro ⟨m', w⟩ hs hm0 hw
      have hm0 : m' = m := hm0
      subst hm0
      exact hVL w ⟨hs, hw⟩
    intro w hw
    rw [eUv] at hw
    exact hU3 (m, w) hw.1 rfl hw.2
  rintro ⟨m, w⟩ hs hm2 hw
  obtain ⟨b, hb⟩ := ep_mb_e (m := m) hm2
  exact Rin b m (ep_mb_s hb) w (key m b hb w ⟨hs, hw⟩)
/-- the formula's one pair i, the memory with i behind -/
theorem ep_g6b {n : Nat} {f : (Nat → Prop) → (Nat → Prop)} {cp : (Nat × Nat → Prop) → (Nat × Nat → Prop)} {nm : Nat → Nat → Nat}
    {rk : Nat × Nat → Nat} {W0 Q : Nat × Nat → Prop} (hF : ep_F n f) (hC : ep_C n f 2 nm cp) {g r : Nat → Nat → Prop} (h6 : ep_r6 nm rk g r) (h0 : ∀ s, rk s ≠ 0)
    (eQ : Q = ep_sol rk cp 6 W0) {X P : Nat → Prop} {i m : Nat} (hmb : ep_mb m i) (X0 : ∀ w, X w → Q (m, w)) (X1 : ∀ w, X w → Q (i, w))
    (eP : P = ep_pair f (fun v => v < n) (g i) (r i) (g m) (r m) (f X)) : ∀ v, P v → Q (m, v) := by
  have hm := ep_F_mono hF
  have hc := hC.1
  have hm2 := ep_mb_l hmb
  have Q5 : Q = ep_sol rk cp 5 (ep_at rk 5 W0 (cp Q)) := by rw [eQ]; exact ep_sol_un rk hc 5 W0
  have Q4 : Q = ep_sol rk cp 4 (ep_at rk 4 (ep_at rk 5 W0 (cp Q)) (cp Q)) := by
    have h := ep_sol_un rk hc 4 (ep_at rk 5 W0 (cp Q))
    have e : ep_sol rk cp (4 + 1) (ep_at rk 5 W0 (cp Q)) = Q := Q5.symm
    rw [e] at h
    exact h
  have Pout : ∀ v, P v → ep_least f (fun v => v < n) (g i) (r i) (g m) (r m) P (f X) v := by
    rw [eP]; exact ep_gfp_post (ep_pairF_mono hm _ _ _ _ _ _)
  have Pin : ∀ v, ep_least f (fun v => v < n) (g i) (r i) (g m) (r m) P (f X) v → P v := by
    rw [eP]; exact ep_gfp_pre (ep_pairF_mono hm _ _ _ _ _ _)
  have hT : ep_le (fun s => (s.1 = m ∧ P s.2) ∨ Q s) (ep_sol rk cp 5 (ep_at rk 5 W0 (cp Q))) := by
    refine ep_sol_co rfl ?_
    obtain ⟨T4, eT4⟩ : ∃ T : Nat × Nat → Prop, T = fun s => (s.1 = m ∧ P s.2) ∨ Q s := ⟨_, rfl⟩
    rw [← eT4]
    have TP : ∀ w, P w → T4 (m, w) := by rw [eT4]; exact fun w h => Or.inl ⟨rfl, h⟩
    have TQ : ep_le Q T4 := by rw [eT4]; exact fun s h => Or.inr h
    obtain ⟨V3, eV3⟩ : ∃ V, V = ep_sol rk cp 4 (ep_at rk 4 (ep_at rk 5 W0 (cp Q)) (cp T4)) := ⟨_, rfl⟩
    have V3un : V3 = ep_sol rk cp 3 (ep_at rk 3 (ep_at rk 4 (ep_at rk 5 W0 (cp Q)) (cp T4)) (cp V3)) := by rw [eV3]; exact ep_sol_un rk hc 3 _
    rw [← eV3]
    have QV3 : ep_le Q V3 := by
      have h := ep_solF rk hc 4 (ep_at rk 5 W0 (cp Q)) _ _ TQ
      rw [eV3]
      exact ep_tr (ep_of_eq Q4) h
    have PV3 : ep_le (ep_least f (fun v => v < n) (g i) (r i) (g m) (r m) P (f X)) (fun w => V3 (m, w)) := by
      refine ep_lfp_ind (ep_leastF_mono hm _ _ _ _ _ _ _) ?_
      obtain ⟨X', eX'⟩ : ∃ X' : Nat → Prop, X' = fun t => V3 (m, t) ∧ ep_lfp (ep_leastF f (fun v => v < n) (g i) (r i) (g m) (r m) P (f X)) t := ⟨_, rfl⟩
      rw [← eX']
      have X'V : ∀ w, X' w → V3 (m, w) := by rw [eX']; exact fun w h => h.1
      have X'P : ep_le X' P := by rw [eX']; exact fun w h => Pin w h.2
      obtain ⟨N, eN⟩ : ∃ N, N = ep_leastF f (fun v => v < n) (g i) (r i) (g m) (r m) P (f X) X' := ⟨_, rfl⟩
      have NP : ep_le N P := by
        rw [eN]
        intro w hw
        have h1 := ep_leastF_mono hm (fun v => v < n) (g i) (r i) (g m) (r m) P (f X) X' _ (by
          intro x hx
          exact Pout x (X'P x hx)) w hw
        exact Pin w (ep_lfp_pre (ep_leastF_mono hm _ _ _ _ _ _ _) w h1)
      have Nout : ep_le N (ep_innF f (g m) (fun v => (v < n ∧ ¬ r i v) ∧ ¬ r m v) (ep_own f (fun v => v < n) (g i) (r i) P (f X) X') N) := by
        rw [eN]; exact ep_gfp_post (ep_innF_mono hm _ _ _)
      rw [← eN]
      have hT2 : ep_le (fun s => (s.1 = m ∧ N s.2) ∨ V3 s) (ep_sol rk cp 3 (ep_at rk 3 (ep_at rk 4 (ep_at rk 5 W0 (cp Q)) (cp T4)) (cp V3))) := by
        refine ep_sol_co rfl ?_
        obtain ⟨T2, eT2⟩ : ∃ T : Nat × Nat → Prop, T = fun s => (s.1 = m ∧ N s.2) ∨ V3 s := ⟨_, rfl⟩
        rw [← eT2]
        have TN : ∀ w, N w → T2 (m, w) := by rw [eT2]; exact fun w h => Or.inl ⟨rfl, h⟩
        have TV : ep_le V3 T2 := by rw [eT2]; exact fun s h => Or.inr h
        obtain ⟨V1, eV1⟩ : ∃ V, V = ep_sol rk cp 2 (ep_at rk 2 (ep_at rk 3 (ep_at rk 4 (ep_at rk 5 W0 (cp Q)) (cp T4)) (cp V3)) (cp T2)) := ⟨_, rfl⟩
        have V1un : V1 = ep_base rk W0 (cp Q) (cp T4) (cp V3) (cp T2) (cp V1) := by rw [eV1]; exact ep_sol_1 hc h0 _
        rw [← eV1]
        have V3V1 : ep_le V3 V1 := by
          have h1 := ep_sol_un rk hc 2 (ep_at rk 3 (ep_at rk 4 (ep_at rk 5 W0 (cp Q)) (cp T4)) (cp V3))
          have e : ep_sol rk cp (2 + 1) (ep_at rk 3 (ep_at rk 4 (ep_at rk 5 W0 (cp Q)) (cp T4)) (cp V3)) = V3 := V3un.symm
          rw [e] at h1
          rw [eV1]
          exact ep_tr (ep_of_eq h1) (ep_solF rk hc 2 _ _ _ TV)
        have NV1 : ep_le N (fun w => V1 (m, w)) := by
          refine ep_tr Nout (ep_inn_ind hm ?_ ?_)
          · intro x hx
            show V1 (m, x)
            rw [V1un]
            have hb := h6 m i x hmb
            by_cases c1 : r i x
            · rw [ep_ba5 (hb.1 c1).2]
              rcases hx with ((hx | hx) | hx) | hx
              · exact ep_c2 hF hC i hm2 (hb.1 c1).1 hx (fun y _ hy => X1 y hy)
              · exact absurd c1 hx.1.1.2
              · exact absurd c1 hx.1.2
              · exact absurd c1 hx.1.1.1.2
            · have hb := hb.2 c1
              by_cases c2 : g i x
              · rw [ep_ba4 (hb.2.1 c2)]
                rcases hx with ((hx | hx) | hx) | hx
                · exact ep_c2 hF hC m hm2 hb.1 hx (fun y _ hy => TQ _ (X0 y hy))
                · exact ep_c2 hF hC m hm2 hb.1 hx.2 (fun y _ hy => TP y hy)
                · exact ep_c2 hF hC m hm2 hb.1 hx.2 (fun y _ hy => TP y (X'P y hy))
                · exact ep_c2 hF hC m hm2 hb.1 hx.2 (fun y _ hy => TP y (NP y hy))
              · have hb2 := hb.2.2 c2
                by_cases c3 : r m x
                · rw [ep_ba3 (hb2.1 c3)]
                  rcases hx with ((hx | hx) | hx) | hx
                  · exact ep_c2 hF hC m hm2 hb.1 hx (fun y _ hy => QV3 _ (X0 y hy))
                  · exact absurd hx.1.2 c2
                  · exact ep_c2 hF hC m hm2 hb.1 hx.2 (fun y _ hy => X'V y hy)
                  · exact absurd c3 hx.1.1.2
                · have hb3 := hb2.2 c3
                  by_cases c4 : g m x
                  · rw [ep_ba2 (hb3.1 c4)]
                    rcases hx with ((hx | hx) | hx) | hx
                    · exact ep_c2 hF hC m hm2 hb.1 hx (fun y _ hy => TV _ (QV3 _ (X0 y hy)))
                    · exact absurd hx.1.2 c2
                    · exact ep_c2 hF hC m hm2 hb.1 hx.2 (fun y _ hy => TV _ (X'V y hy))
                    · exact ep_c2 hF hC m hm2 hb.1 hx.2 (fun y _ hy => TN y hy)
                  · rw [ep_ba1 (hb3.2 c4)]
                    rcases hx with ((hx | hx) | hx) | hx
                    · exact ep_c2 hF hC m hm2 hb.1 hx (fun y _ hy => V3V1 _ (QV3 _ (X0 y hy)))
                    · exact absurd hx.1.2 c2
                    · exact ep_c2 hF hC m hm2 hb.1 hx.2 (fun y _ hy => V3V1 _ (X'V y hy))
                    · exact absurd hx.1.2 c4
          · intro x hx hfx
            show V1 (m, x)
            rw [V1un]
            have hb := (h6 m i x hmb).2 hx.1.2
            have NI : ep_le (ep_innF f (g m) (fun v => (v < n ∧ ¬ r i v) ∧ ¬ r m v) (ep_own f (fun v => v < n) (g i) (r i) P (f X) X') N) N := by
              rw [eN]; exact ep_gfp_pre (ep_innF_mono hm _ _ _)
            by_cases c2 : g i x
            · rw [ep_ba4 (hb.2.1 c2)]
              exact ep_c2 hF hC m hm2 hb.1 hfx (fun y _ hy => TP y (NP y (NI y hy.2)))
            · have hb3 := (hb.2.2 c2).2 hx.2
              by_cases c4 : g m x
              · rw [ep_ba2 (hb3.1 c4)]
                exact ep_c2 hF hC m hm2 hb.1 hfx (fun y _ hy => TN y (NI y hy.2))
              · rw [ep_ba1 (hb3.2 c4)]
                exact ep_c2 hF hC m hm2 hb.1 hfx (fun y _ hy => hy.1)
        rintro ⟨m', w⟩ hs
        rw [eT2] at hs
        cases hs with
        | inl hs =>
          have hm0 : m' = m := hs.1
          subst hm0
          exact NV1 w hs.2
        | inr hs => exact V3V1 _ hs
      intro w hw
      show V3 (m, w)
      rw [V3un]
      exact hT2 (m, w) (Or.inl ⟨rfl, hw⟩)
    rintro ⟨m', w⟩ hs
    rw [eT4] at hs
    cases hs with
    | inl hs =>
      have hm0 : m' = m := hs.1
      subst hm0
      exact PV3 w (Pout w hs.2)
    | inr hs => exact QV3 _ hs
  intro v hv
  rw [Q5]
  exact hT (m, v) (Or.inl ⟨rfl, hv⟩)
/-- the formula's one pair i, the memory with i in front -/
theorem ep_g6c {n : Nat} {f : (Nat → Prop) → (Nat → Prop)} {cp : (Nat × Nat → Prop) → (Nat × Nat → Prop)} {nm : Nat → Nat → Nat}
    {rk : Nat × Nat → Nat} {W0 Q : Nat × Nat → Prop} (hF : ep_F n f) (hC : ep_C n f 2 nm cp) {g r : Nat → Nat → Prop} (h6 : ep_r6 nm rk g r) (h0 : ∀ s, rk s ≠ 0)
    (eQ : Q = ep_sol rk cp 6 W0) {X P : Nat → Prop} {i j : Nat} (hmb : ep_mb i j) (X0 : ∀ w, X w → Q (i, w)) (X1 : ∀ w, X w → Q (j, w))
    (eP : P = ep_pair f (fun v => v < n) (g i) (r i) (g j) (r j) (f X)) (PJ : ∀ v, P v → Q (j, v)) : ∀ v, P v → Q (i, v) := by
  have hm := ep_F_mono hF
  have hc := hC.1
  have hm2 := ep_mb_l hmb
  have Q5 : Q = ep_sol rk cp 5 (ep_at rk 5 W0 (cp Q)) := by rw [eQ]; exact ep_sol_un rk hc 5 W0
  have Q4 : Q = ep_sol rk cp 4 (ep_at rk 4 (ep_at rk 5 W0 (cp Q)) (cp Q)) := by
    have h := ep_sol_un rk hc 4 (ep_at rk 5 W0 (cp Q))
    have e : ep_sol rk cp (4 + 1) (ep_at rk 5 W0 (cp Q)) = Q := Q5.symm
    rw [e] at h
    exact h
  have Pout : ∀ v, P v → ep_least f (fun v => v < n) (g i) (r i) (g j) (r j) P (f X) v := by
    rw [eP]; exact ep_gfp_post (ep_pairF_mono hm _ _ _ _ _ _)
  have Pin : ∀ v, ep_least f (fun v => v < n) (g i) (r i) (g j) (r j) P (f X) v → P v := by
    rw [eP]; exact ep_gfp_pre (ep_pairF_mono hm _ _ _ _ _ _)
  have hT : ep_le (fun s => (s.1 = i ∧ P s.2) ∨ Q s) (ep_sol rk cp 5 (ep_at rk 5 W0 (cp Q))) := by
    refine ep_sol_co rfl ?_
    obtain ⟨T4, eT4⟩ : ∃ T : Nat × Nat → Prop, T = fun s => (s.1 = i ∧ P s.2) ∨ Q s := ⟨_, rfl⟩
    rw [← eT4]
    have TP : ∀ w, P w → T4 (i, w) := by rw [eT4]; exact fun w h => Or.inl ⟨rfl, h⟩
    have TQ : ep_le Q T4 := by rw [eT4]; exact fun s h => Or.inr h
    obtain ⟨V3, eV3⟩ : ∃ V, V = ep_sol rk cp 4 (ep_at rk 4 (ep_at rk 5 W0 (cp Q)) (cp T4)) := ⟨_, rfl⟩
    have V3un : V3 = ep_sol rk cp 3 (ep_at rk 3 (ep_at rk 4 (ep_at rk 5 W0 (cp Q)) (cp T4)) (cp V3)) := by rw [eV3]; exact ep_sol_un rk hc 3 _
    rw [← eV3]
    have QV3 : ep_le Q V3 := by
      have h := ep_solF rk hc 4 (ep_at rk 5 W0 (cp Q)) _ _ TQ
      rw [eV3]
      exact ep_tr (ep_of_eq Q4) h
    have hT2 : ep_le (fun s => (s.1 = i ∧ P s.2) ∨ V3 s) (ep_sol rk cp 3 (ep_at rk 3 (ep_at rk 4 (ep_at rk 5 W0 (cp Q)) (cp T4)) (cp V3))) := by
      refine ep_sol_co rfl ?_
      obtain ⟨T2, eT2⟩ : ∃ T : Nat × Nat → Prop, T = fun s => (s.1 = i ∧ P s.2) ∨ V3 s := ⟨_, rfl⟩
      rw [← eT2]
      have TN : ∀ w, P w → T2 (i, w) := by rw [eT2]; exact fun w h => Or.inl ⟨rfl, h⟩
      have TV : ep_le V3 T2 := by rw [eT2]; exact fun s h => Or.inr h
      obtain ⟨V1, eV1⟩ : ∃ V, V = ep_sol rk cp 2 (ep_at rk 2 (ep_at rk 3 (ep_at rk 4 (ep_at rk 5 W0 (cp Q)) (cp T4)) (cp V3)) (cp T2)) := ⟨_, rfl⟩
      have V1un : V1 = ep_base rk W0 (cp Q) (cp T4) (cp V3) (cp T2) (cp V1) := by rw [eV1]; exact ep_sol_1 hc h0 _
      rw [← eV1]
      have V3V1 : ep_le V3 V1 := by
        have h1 := ep_sol_un rk hc 2 (ep_at rk 3 (ep_at rk 4 (ep_at rk 5 W0 (cp Q)) (cp T4)) (cp V3))
        have e : ep_sol rk cp (2 + 1) (ep_at rk 3 (ep_at rk 4 (ep_at rk 5 W0 (cp Q)) (cp T4)) (cp V3)) = V3 := V3un.symm
        rw [e] at h1
        rw [eV1]
        exact ep_tr (ep_of_eq h1) (ep_solF rk hc 2 _ _ _ TV)
      have PV1 : ep_le (ep_least f (fun v => v < n) (g i) (r i) (g j) (r j) P (f X)) (fun w => V1 (i, w)) := by
        refine ep_lfp_ind (ep_leastF_mono hm _ _ _ _ _ _ _) ?_
        obtain ⟨X', eX'⟩ : ∃ X' : Nat → Prop, X' = fun t => V1 (i, t) ∧ ep_lfp (ep_leastF f (fun v => v < n) (g i) (r i) (g j) (r j) P (f X)) t := ⟨_, rfl⟩
        rw [← eX']
        have X'V : ∀ w, X' w → V1 (i, w) := by rw [eX']; exact fun w h => h.1
        have X'P : ep_le X' P := by rw [eX']; exact fun w h => Pin w h.2
        obtain ⟨N, eN⟩ : ∃ N, N = ep_leastF f (fun v => v < n) (g i) (r i) (g j) (r j) P (f X) X' := ⟨_, rfl⟩
        have NP : ep_le N P := by
          rw [eN]
          intro w hw
          have h1 := ep_leastF_mono hm (fun v => v < n) (g i) (r i) (g j) (r j) P (f X) X' _ (by
            intro x hx
            exact Pout x (X'P x hx)) w hw
          exact Pin w (ep_lfp_pre (ep_leastF_mono hm _ _ _ _ _ _ _) w h1)
        have Nout : ep_le N (ep_innF f (g j) (fun v => (v < n ∧ ¬ r i v) ∧ ¬ r j v) (ep_own f (fun v => v < n) (g i) (r i) P (f X) X') N) := by
          rw [eN]; exact ep_gfp_post (ep_innF_mono hm _ _ _)
        have NI : ep_le (ep_innF f (g j) (fun v => (v < n ∧ ¬ r i v) ∧ ¬ r j v) (ep_own f (fun v => v < n) (g i) (r i) P (f X) X') N) N := by
          rw [eN]; exact ep_gfp_pre (ep_innF_mono hm _ _ _)
        rw [← eN]
        refine ep_tr Nout (ep_inn_ind hm ?_ ?_)
        · intro x hx
          show V1 (i, x)
          rw [V1un]
          have hb := h6 i j x hmb
          by_cases c1 : r j x
          · rw [ep_ba5 (hb.1 c1).2]
            rcases hx with ((hx | hx) | hx) | hx
            · exact ep_c2 hF hC j hm2 (hb.1 c1).1 hx (fun y _ hy => X1 y hy)
            · exact ep_c2 hF hC j hm2 (hb.1 c1).1 hx.2 (fun y _ hy => PJ y hy)
            · exact ep_c2 hF hC j hm2 (hb.1 c1).1 hx.2 (fun y _ hy => PJ y (X'P y hy))
            · exact absurd c1 hx.1.1.2
          · have hb := hb.2 c1
            by_cases c2 : g j x
            · rw [ep_ba4 (hb.2.1 c2)]
              rcases hx with ((hx | hx) | hx) | hx
              · exact ep_c2 hF hC i hm2 hb.1 hx (fun y _ hy => TQ _ (X0 y hy))
              · exact ep_c2 hF hC i hm2 hb.1 hx.2 (fun y _ hy => TP y hy)
              · exact ep_c2 hF hC i hm2 hb.1 hx.2 (fun y _ hy => TP y (X'P y hy))
              · exact ep_c2 hF hC i hm2 hb.1 hx.2 (fun y _ hy => TP y (NP y hy))
            · have hb2 := hb.2.2 c2
              by_cases c3 : r i x
              · rw [ep_ba3 (hb2.1 c3)]
                rcases hx with ((hx | hx) | hx) | hx
                · exact ep_c2 hF hC i hm2 hb.1 hx (fun y _ hy => QV3 _ (X0 y hy))
                · exact absurd c3 hx.1.1.2
                · exact absurd c3 hx.1.2
                · exact absurd c3 hx.1.1.1.2
              · have hb3 := hb2.2 c3
                by_cases c4 : g i x
                · rw [ep_ba2 (hb3.1 c4)]
                  rcases hx with ((hx | hx) | hx) | hx
                  · exact ep_c2 hF hC i hm2 hb.1 hx (fun y _ hy => TV _ (QV3 _ (X0 y hy)))
                  · exact ep_c2 hF hC i hm2 hb.1 hx.2 (fun y _ hy => TN y hy)
                  · exact ep_c2 hF hC i hm2 hb.1 hx.2 (fun y _ hy => TN y (X'P y hy))
                  · exact ep_c2 hF hC i hm2 hb.1 hx.2 (fun y _ hy => TN y (NP y hy))
                · rw [ep_ba1 (hb3.2 c4)]
                  rcases hx with ((hx | hx) | hx) | hx
                  · exact ep_c2 hF hC i hm2 hb.1 hx (fun y _ hy => V3V1 _ (QV3 _ (X0 y hy)))
                  · exact absurd hx.1.2 c4
                  · exact ep_c2 hF hC i hm2 hb.1 hx.2 (fun y _ hy => X'V y hy)
                  · exact absurd hx.1.2 c2
        · intro x hx hfx
          show V1 (i, x)
          rw [V1un]
          have hb := (h6 i j x hmb).2 hx.2
          by_cases c2 : g j x
          · rw [ep_ba4 (hb.2.1 c2)]
            exact ep_c2 hF hC i hm2 hb.1 hfx (fun y _ hy => TP y (NP y (NI y hy.2)))
          · have hb3 := (hb.2.2 c2).2 hx.1.2
            by_cases c4 : g i x
            · rw [ep_ba2 (hb3.1 c4)]
              exact ep_c2 hF hC i hm2 hb.1 hfx (fun y _ hy => TN y (NP y (NI y hy.2)))
            · rw [ep_ba1 (hb3.2 c4)]
              exact ep_c2 hF hC i hm2 hb.1 hfx (fun y _ hy => hy.1)
      rintro ⟨m', w⟩ hs
      rw [eT2] at hs
      cases hs with
      | inl hs =>
        have hm0 : m' = i := hs.1
        subst hm0
        exact PV1 w (Pout w hs.2)
      | inr hs => exact V3V1 _ hs
    rintro ⟨m', w⟩ hs
    rw [eT4] at hs
    cases hs with
    | inl hs =>
      have hm0 : m' = i := hs.1
      subst hm0
      rw [V3un]
      exact hT2 (m', w) (Or.inl ⟨rfl, hs.2⟩)
    | inr hs => exact QV3 _ hs
  intro v hv
  rw [Q5]
  exact hT (i, v) (Or.inl ⟨rfl, hv⟩)
/-- goal 6; goal 7 is its dual -/
theorem ep_g6 {n : Nat} {f : (Nat → Prop) → (Nat → Prop)} {cp : (Nat × Nat → Prop) → (Nat × Nat → Prop)} {nm : Nat → Nat → Nat}
    {rk : Nat × Nat → Nat} {W0 : Nat × Nat → Prop} (hF : ep_F n f) (hC : ep_C n f 2 nm cp) {g r : Nat → Nat → Prop} (h6 : ep_r6 nm rk g r) (h0 : ∀ s, rk s ≠ 0)
    (v : Nat) (hv : v < n) : ep_sol rk cp 6 W0 (0, v) ↔ ep_one f (fun v => v < n) (g 0) (r 0) (g 1) (r 1) v := by
  have hm := ep_F_mono hF
  have hc := hC.1
  constructor
  · intro h
    refine ep_g6a (W0 := W0) hF hC h6 h0 (R := ep_one f (fun v => v < n) (g 0) (r 0) (g 1) (r 1)) ?_ (0, v) h (Nat.zero_lt_succ _) hv
    have hpre : ep_le _ (ep_one f (fun v => v < n) (g 0) (r 0) (g 1) (r 1)) := ep_lfp_pre (ep_oneF_mono hm (fun v => v < n) (g 0) (r 0) (g 1) (r 1))
    intro i j hij w hw
    rcases hij with ⟨ei, ej⟩ | ⟨ei, ej⟩
    · subst ei; subst ej; exact hpre w (Or.inl hw)
    · subst ei; subst ej; exact hpre w (Or.inr hw)
  · intro h
    obtain ⟨Q, eQ⟩ : ∃ Q, Q = ep_sol rk cp 6 W0 := ⟨_, rfl⟩
    have key : ep_le (ep_one f (fun v => v < n) (g 0) (r 0) (g 1) (r 1)) (fun w => Q (0, w) ∧ Q (1, w)) := by
      apply ep_lfp_le
      intro w hw
      cases hw with
      | inl hw =>
        have hb := ep_g6b (i := 0) (m := 1) (X := fun w => Q (0, w) ∧ Q (1, w)) hF hC h6 h0 eQ (Or.inr ⟨rfl, rfl⟩) (fun w h => h.2) (fun w h => h.1) rfl
        have hi := ep_g6c (i := 0) (j := 1) (X := fun w => Q (0, w) ∧ Q (1, w)) hF hC h6 h0 eQ (Or.inl ⟨rfl, rfl⟩) (fun w h => h.1) (fun w h => h.2) rfl hb
        exact ⟨hi w hw, hb w hw⟩
      | inr hw =>
        have hb := ep_g6b (i := 1) (m := 0) (X := fun w => Q (0, w) ∧ Q (1, w)) hF hC h6 h0 eQ (Or.inl ⟨rfl, rfl⟩) (fun w h => h.1) (fun w h => h.2) rfl
        have hi := ep_g6c (i := 1) (j := 0) (X := fun w => Q (0, w) ∧ Q (1, w)) hF hC h6 h0 eQ (Or.inr ⟨rfl, rfl⟩) (fun w h => h.2) (fun w h => h.1) rfl hb
        exact ⟨hb w hw, hi w hw⟩
    rw [← eQ]
    exact (key v h).1
