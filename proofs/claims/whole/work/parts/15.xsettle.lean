/-! the class's laying out and settling -/
theorem ep_m10 : ∀ m, m < 4 → ∀ j, j < 10 → (nI m * 10) + nI j = nI (m * 10 + j) := by decide +kernel
theorem ep_m10' : ∀ m, m < 4 → nI m * 10 = nI (m * 10) := by decide +kernel
theorem ep_r2 : ∀ l, l < 6 → nI l - nI l / 2 * 2 = nI (l % 2) := by decide +kernel
def ep_done (c m j : Nat) : Nat × Nat → Prop := fun s => (s.1 < m ∧ s.2 < c) ∨ (s.1 = m ∧ s.2 < j)
theorem ep_done_next (c m : Nat) : ep_done c m c = ep_done c (m + 1) 0 := by
  funext s
  refine propext ?_
  show (s.1 < m ∧ s.2 < c) ∨ (s.1 = m ∧ s.2 < c) ↔ (s.1 < m + 1 ∧ s.2 < c) ∨ (s.1 = m + 1 ∧ s.2 < 0)
  omega
theorem ep_done_0 (c : Nat) : ep_done c 0 0 = fun _ => False := by
  funext s
  refine propext ?_
  show (s.1 < 0 ∧ s.2 < c) ∨ (s.1 = 0 ∧ s.2 < 0) ↔ False
  exact ⟨fun x => x.elim (fun y => Nat.not_lt_zero _ y.1) (fun y => Nat.not_lt_zero _ y.2), fun x => x.elim⟩
theorem ep_done_M (M c : Nat) : ep_done c M 0 = ep_dom M c := by
  funext s
  refine propext ?_
  show (s.1 < M ∧ s.2 < c) ∨ (s.1 = M ∧ s.2 < 0) ↔ s.1 < M ∧ s.2 < c
  omega
theorem ep_done_s (c m j : Nat) (s : Nat × Nat) : ep_done c m (j + 1) s ↔ ep_done c m j s ∨ (s.1 = m ∧ s.2 = j) := by
  show (s.1 < m ∧ s.2 < c) ∨ (s.1 = m ∧ s.2 < j + 1) ↔ ((s.1 < m ∧ s.2 < c) ∨ (s.1 = m ∧ s.2 < j)) ∨ (s.1 = m ∧ s.2 = j)
  omega
/-- one state more -/
theorem ep_L_add (P : Nat × Nat → Prop) {c m j : Nat} (hm : m < 4) (hj : j < 10) (hp : P (m, j)) :
    ep_L (ep_st fun s => ep_done c m j s ∧ P s) ||| ((1 : Int64) <<< ((nI (m * 10 + j)).toInt64 &&& 63)) = ep_L (ep_st fun s => ep_done c m (j + 1) s ∧ P s) := by
  rw [ep_L_one _ (by omega)]
  apply ep_L_ext
  intro i hi
  show (ep_done c m j (i / 10, i % 10) ∧ P (i / 10, i % 10)) ∨ i = m * 10 + j ↔ ep_done c m (j + 1) (i / 10, i % 10) ∧ P (i / 10, i % 10)
  rw [ep_done_s]
  constructor
  · rintro (h | h)
    · exact ⟨Or.inl h.1, h.2⟩
    · have e1 : i / 10 = m := by omega
      have e2 : i % 10 = j := by omega
      rw [e1, e2]
      exact ⟨Or.inr ⟨rfl, rfl⟩, hp⟩
  · rintro ⟨h1 | h1, h2⟩
    · exact Or.inl ⟨h1, h2⟩
    · have h1 : i / 10 = m ∧ i % 10 = j := h1
      exact Or.inr (by omega)
theorem ep_L_non (P : Nat × Nat → Prop) {c m j : Nat} (hp : ¬ P (m, j)) :
    ep_L (ep_st fun s => ep_done c m j s ∧ P s) = ep_L (ep_st fun s => ep_done c m (j + 1) s ∧ P s) := by
  apply ep_L_ext
  intro i hi
  show ep_done c m j (i / 10, i % 10) ∧ P (i / 10, i % 10) ↔ ep_done c m (j + 1) (i / 10, i % 10) ∧ P (i / 10, i % 10)
  rw [ep_done_s]
  constructor
  · exact fun h => ⟨Or.inl h.1, h.2⟩
  · rintro ⟨h1 | h1, h2⟩
    · exact ⟨h1, h2⟩
    · have h1 : i / 10 = m ∧ i % 10 = j := h1
      rw [h1.1, h1.2] at h2
      exact absurd h2 hp
/-- what is laid out for a goal -/
def ep_laid (c M : Nat) (nm rk : Nat → Nat → Nat) (ma : Nat → Int32) (sr : Nat → Int64) : Prop :=
  (∀ m v, m < M → v < c → ma (m * 10 + v) = nI (nm m v)) ∧ (∀ r, r < 6 → sr r = ep_L (ep_st fun s => ep_dom M c s ∧ rk s.1 s.2 = r))
theorem ep_xsf {c M : Nat} {ow E K ma : Nat → Int32} {sr : Nat → Int64} (hG : ep_G c ow E K) (hM : M ≤ 4) {nm rk : Nat → Nat → Nat} (hl : ep_laid c M nm rk ma sr)
    (hn : ∀ m v, m < M → nm m v < M) {W : Nat × Nat → Prop} {x : Int64} (ex : x = ep_L (ep_st W)) {post : Int64 → Prop}
    (h : post (ep_L (ep_st (ep_cp c ow E M nm W)))) : wpX_statesForcing post (nI c, nI M, ow, E, K, ma, sr) x := by
  subst ex
  have hc := hG.1
  have inner : ∀ (J5 : Int64 → Int32 → Prop) (m : Nat), m < M → J5 (ep_L (ep_st fun s => ep_done c (m + 1) 0 s ∧ ep_cp c ow E M nm W s)) (nI (m + 1)) → ∀ d j, j + d = c →
      wX_statesForcing_17 post J5 (ep_L (ep_st W)) (nI m) (nI c) (nI M) ow E K ma sr (d + 1) (ep_L (ep_st fun s => ep_done c m j s ∧ ep_cp c ow E M nm W s)) (nI j) := by
    intro J5 m hm hJ d
    induction d with
    | zero =>
      intro j hj
      have e : j = c := by omega
      subst e
      refine br_t (nI_le (Nat.le_refl j) (by omega)) (nm_r (nI_1 m) ?_)
      rw [ep_done_next]
      exact hJ
    | succ d ih =>
      intro j hj
      have ih := ih (j + 1) (by omega)
      have hk : m * 10 + j < 40 := by omega
      have ec : (nI (m * 10 + j)).toNatClampNeg = m * 10 + j := nI_clamp (by omega)
      have hq := hn m j hm
      have e8 : ((((ep_L (ep_st W)).toUInt64 >>> (((ma (nI (m * 10 + j)).toNatClampNeg) * 10).toInt64.toUInt64 &&& Int64.toUInt64 63)).toInt64).toInt32) &&& 1023 = ep_I (fun w => W (nm m j, w)) := by
        rw [ec, hl.1 m j hm (by omega), ep_m10' _ (by omega), ep_L_row _ (by omega)]
        apply ep_I_ext
        intro w hw
        rw [ep_st_k W _ hw]
      refine br_f (ep_nIc (by omega) (by omega)) (nm_r (ep_m10 m (by omega) j (by omega)) ⟨vp_in_nI hk (by omega), nm_r e8 (ep_xcan hG (by omega) rfl (fun hf => br_f (by decide) (nm_r ?_ (nm_r (nI_1 j) ih))) (fun hf => br_t rfl (nm_r (nI_1 j) ?_)))⟩)
      · exact ep_L_add _ (by omega) (by omega) ⟨⟨hm, by show j < c; omega⟩, hf⟩
      · rw [ep_L_non _ (fun z => hf z.2)]
        exact ih
  have outer : ∀ d m, m + d = M → wX_statesForcing_5 post (ep_L (ep_st W)) (nI c) (nI M) ow E K ma sr (d + 1) (ep_L (ep_st fun s => ep_done c m 0 s ∧ ep_cp c ow E M nm W s)) (nI m) := by
    intro d
    induction d with
    | zero =>
      intro m hm
      have e : m = M := by omega
      subst e
      refine br_t (nI_le (Nat.le_refl m) (by omega)) ?_
      rw [ep_done_M]
      have e2 : (fun s => ep_dom m c s ∧ ep_cp c ow E m nm W s) = ep_cp c ow E m nm W := funext fun s => propext ⟨fun x => x.2, fun x => ⟨x.1, x⟩⟩
      rw [e2]
      exact h
    | succ d ih =>
      intro m hm
      exact br_f (ep_nIc (by omega) (by omega)) ⟨c + 1, inner _ m (by omega) (ih (m + 1) (by omega)) c 0 (by omega)⟩
  have e0 : (0 : Int64) = ep_L (ep_st fun s => ep_done c 0 0 s ∧ ep_cp c ow E M nm W s) := by
    rw [ep_done_0, ← ep_L_0]
    exact ep_L_ext fun i _ => ⟨fun x => x.elim, fun x => x.1⟩
  refine ⟨M + 1, ?_⟩
  rw [e0]
  exact outer M 0 (by omega)
/-- the lower ranks started again -/
def ep_sa (rk : Nat × Nat → Nat) (dom W : Nat × Nat → Prop) : Nat → Nat × Nat → Prop
  | 0 => W
  | l + 1 => fun s => if l % 2 = 0 then ep_sa rk dom W l s ∨ (dom s ∧ rk s = l) else ep_sa rk dom W l s ∧ ¬ (dom s ∧ rk s = l)
theorem ep_sa_le {rk : Nat × Nat → Nat} {dom W : Nat × Nat → Prop} (h : ep_le W dom) : ∀ l, ep_le (ep_sa rk dom W l) dom := by
  intro l
  induction l with
  | zero => exact h
  | succ l ih =>
    intro s hs
    have hs : if l % 2 = 0 then ep_sa rk dom W l s ∨ (dom s ∧ rk s = l) else ep_sa rk dom W l s ∧ ¬ (dom s ∧ rk s = l) := hs
    by_cases e : l % 2 = 0
    · rw [if_pos e] at hs
      exact hs.elim (ih s) (fun x => x.1)
    · rw [if_neg e] at hs
      exact ih s hs.1
theorem ep_sa_start {rk : Nat × Nat → Nat} {dom W : Nat × Nat → Prop} (h : ep_le W dom) : ∀ l, ep_start rk dom W l (ep_sa rk dom W l) := by
  intro l
  induction l with
  | zero => exact fun s => ⟨fun _ => Iff.rfl, fun x => absurd x (Nat.not_lt_zero _), fun x => absurd x (Nat.not_lt_zero _)⟩
  | succ l ih =>
    intro s
    have hle := ep_sa_le (rk := rk) h l s
    have ih := ih s
    show (l + 1 ≤ rk s → ((if l % 2 = 0 then ep_sa rk dom W l s ∨ (dom s ∧ rk s = l) else ep_sa rk dom W l s ∧ ¬ (dom s ∧ rk s = l)) ↔ W s)) ∧
      (rk s < l + 1 → rk s % 2 = 0 → ((if l % 2 = 0 then ep_sa rk dom W l s ∨ (dom s ∧ rk s = l) else ep_sa rk dom W l s ∧ ¬ (dom s ∧ rk s = l)) ↔ dom s)) ∧
      (rk s < l + 1 → rk s % 2 = 1 → ¬ (if l % 2 = 0 then ep_sa rk dom W l s ∨ (dom s ∧ rk s = l) else ep_sa rk dom W l s ∧ ¬ (dom s ∧ rk s = l)))
    by_cases e : l % 2 = 0
    · rw [if_pos e]
      refine ⟨fun hr => ?_, fun hr hp => ?_, fun hr hp => ?_⟩
      · rw [ih.1 (by omega)]
        exact ⟨fun x => x.elim (fun y => y) (fun y => by omega), Or.inl⟩
      · by_cases e2 : rk s = l
        · exact ⟨fun x => x.elim hle (fun y => y.1), fun x => Or.inr ⟨x, e2⟩⟩
        · rw [ih.2.1 (by omega) hp]
          exact ⟨fun x => x.elim (fun y => y) (fun y => y.1), Or.inl⟩
      · have e2 : rk s ≠ l := by omega
        exact fun x => x.elim (ih.2.2 (by omega) hp) (fun y => e2 y.2)
    · rw [if_neg e]
      refine ⟨fun hr => ?_, fun hr hp => ?_, fun hr hp => ?_⟩
      · rw [ih.1 (by omega)]
        exact ⟨fun x => x.1, fun x => ⟨x, fun y => by omega⟩⟩
      · have e2 : rk s ≠ l := by omega
        rw [ih.2.1 (by omega) hp]
        exact ⟨fun x => x.1, fun x => ⟨x, fun y => e2 y.2⟩⟩
      · by_cases e2 : rk s = l
        · exact fun x => x.2 ⟨hle x.1, e2⟩
        · exact fun x => ih.2.2 (by omega) hp x.1
theorem ep_xsa {c M : Nat} {ow E K ma : Nat → Int32} {sr : Nat → Int64} {nm rk : Nat → Nat → Nat} (hl : ep_laid c M nm rk ma sr)
    {W : Nat × Nat → Prop} {x : Int64} (ex : x = ep_L (ep_st W)) {r : Nat} (hr : r ≤ 6) {y : Int32} (ey : y = nI r) {post : Int64 → Prop}
    (h : post (ep_L (ep_st (ep_sa (fun s => rk s.1 s.2) (ep_dom M c) W r)))) : wpX_startAgainBelow post (nI c, nI M, ow, E, K, ma, sr) y x := by
  subst ex; subst ey
  have key : ∀ d l, l + d = r → wX_startAgainBelow_6 post (nI r) (nI c) (nI M) ow E K ma sr (d + 1) (ep_L (ep_st (ep_sa (fun s => rk s.1 s.2) (ep_dom M c) W l))) (nI l) := by
    intro d
    induction d with
    | zero =>
      intro l hl2
      have e : l = r := by omega
      subst e
      exact br_t (nI_le (Nat.le_refl l) (by omega)) h
    | succ d ih =>
      intro l hl2
      have ih := ih (l + 1) (by omega)
      have ec : (nI l).toNatClampNeg = l := nI_clamp (by omega)
      have esr : sr (nI l).toNatClampNeg = ep_L (ep_st fun s => ep_dom M c s ∧ rk s.1 s.2 = l) := by rw [ec]; exact hl.2 l (by omega)
      have hin : vp_in (nI l) 6 := vp_in_nI (by omega) (by omega)
      refine br_f (ep_nIc (by omega) (by omega)) ⟨by decide, ?_⟩
      rw [ep_r2 l (by omega)]
      by_cases e : l % 2 = 0
      · refine br_t (by rw [e]; rfl) ⟨hin, nm_r ?_ (nm_r (nI_1 l) ih)⟩
        rw [esr, ep_L_or]
        apply ep_L_ext
        intro i _
        show _ ↔ if l % 2 = 0 then _ else _
        rw [if_pos e]
        exact Iff.rfl
      · have e1 : l % 2 = 1 := by omega
        refine br_f (by rw [e1]; decide) ⟨hin, nm_r ?_ (nm_r (nI_1 l) ih)⟩
        rw [esr, ep_L_diff]
        apply ep_L_ext
        intro i _
        show _ ↔ if l % 2 = 0 then _ else _
        rw [if_neg e]
        exact Iff.rfl
  exact ⟨r + 1, key r 0 (by omega)⟩
theorem ep_xwon {c M : Nat} {ow E K ma : Nat → Int32} {sr : Nat → Int64} (hG : ep_G c ow E K) (hM : M ≤ 4) {nm rk : Nat → Nat → Nat} (hl : ep_laid c M nm rk ma sr)
    (hn : ∀ m v, m < M → nm m v < M) (hk : ∀ s : Nat × Nat, rk s.1 s.2 < 6) (hb : ep_pr (ep_nw (fun s => rk s.1 s.2) (ep_dom M c)) 6 0 ≤ 142857) {post : Int64 → Prop}
    (h : post (ep_L (ep_st (ep_sol (fun s => rk s.1 s.2) (ep_cp c ow E M nm) 6 fun _ => False)))) : wpX_wonStates post (nI c, nI M, ow, E, K, ma, sr) := by
  have hc := hG.1
  have hmono := ep_cp_mono hG M nm
  have hd : ∀ X, ep_le (ep_cp c ow E M nm X) (ep_dom M c) := fun X s x => x.1
  have key : ∀ d (W : Nat × Nat → Prop) (rank round : Nat), round + d = 1000000 → ep_ok (fun s => rk s.1 s.2) (ep_cp c ow E M nm) (ep_dom M c) W rank round →
      wX_wonStates_13 post (nI c) (nI M) ow E K ma sr (d + 1) (ep_L (ep_st W)) (nI rank) (nI round) := by
    intro d
    induction d with
    | zero =>
      intro W rank round hrd hok
      have := hok.2.2.2.2
      omega
    | succ d ih =>
      intro W rank round hrd hok
      have hr6 := hok.2.2.2.1
      refine br_f (nI_ge (b := 1000000) (by omega) (by omega)) ?_
      by_cases e : rank = 6
      · subst e
        have eW := ep_ok_end hk hok
        refine br_t (nI_le (b := 6) (a := 6) (by omega) (by omega)) ?_
        rw [eW]
        exact h
      · refine br_f (nI_ge (b := 6) (by omega) (by omega)) ?_
        have ec : (nI rank).toNatClampNeg = rank := nI_clamp (by omega)
        refine ⟨vp_in_nI (by omega) (by omega), nm_r (show _ = ep_L (ep_st fun s => ep_dom M c s ∧ rk s.1 s.2 = rank) by rw [ec]; exact hl.2 rank (by omega)) ?_⟩
        refine ep_xsf hG hM hl hn rfl ?_
        refine nm_r (ep_L_and _ _) ?_
        rw [ep_L_and]
        by_cases hE : ep_L (fun i => ep_st (ep_cp c ow E M nm W) i ∧ ep_st (fun s => ep_dom M c s ∧ rk s.1 s.2 = rank) i) = ep_L (fun i => ep_st W i ∧ ep_st (fun s => ep_dom M c s ∧ rk s.1 s.2 = rank) i)
        · refine br_t hE (nm_r (nI_1 rank) (nm_r (nI_1 round) (ih W (rank + 1) (round + 1) (by omega) (ep_ok_adv hd hok (by omega) ?_))))
          rintro ⟨m, v⟩ hds hrs
          have hmv : m < M ∧ v < c := hds
          have hi := ep_L_inj hE (m * 10 + v) (by omega)
          rw [ep_st_k _ m (by omega), ep_st_k _ m (by omega), ep_st_k _ m (by omega)] at hi
          exact ⟨fun x => (hi.1 ⟨x, hds, hrs⟩).1, fun x => (hi.2 ⟨x, hds, hrs⟩).1⟩
        · refine br_f hE ?_
          have hf : ¬ ∀ s, ep_dom M c s → rk s.1 s.2 = rank → (ep_cp c ow E M nm W s ↔ W s) := by
            intro hall
            apply hE
            apply ep_L_ext
            intro i _
            exact ⟨fun x => ⟨(hall _ x.2.1 x.2.2).1 x.1, x.2⟩, fun x => ⟨(hall _ x.2.1 x.2.2).2 x.1, x.2⟩⟩
          have hWd := hok.1
          obtain ⟨W1, eW1⟩ : ∃ W1 : Nat × Nat → Prop, W1 = ep_at (fun s => rk s.1 s.2) rank W (ep_cp c ow E M nm W) := ⟨_, rfl⟩
          have e1 : (ep_L (ep_st W) &&& (ep_L (ep_st fun s => ep_dom M c s ∧ rk s.1 s.2 = rank) ^^^ (-1))) |||
              ep_L (fun i => ep_st (ep_cp c ow E M nm W) i ∧ ep_st (fun s => ep_dom M c s ∧ rk s.1 s.2 = rank) i) = ep_L (ep_st W1) := by
            rw [ep_L_diff, ep_L_or, eW1]
            apply ep_L_ext
            intro i _
            show (W (i / 10, i % 10) ∧ ¬ (ep_dom M c (i / 10, i % 10) ∧ rk (i / 10) (i % 10) = rank)) ∨ (ep_cp c ow E M nm W (i / 10, i % 10) ∧ (ep_dom M c (i / 10, i % 10) ∧ rk (i / 10) (i % 10) = rank)) ↔
              (rk (i / 10) (i % 10) = rank ∧ ep_cp c ow E M nm W (i / 10, i % 10)) ∨ (rk (i / 10) (i % 10) ≠ rank ∧ W (i / 10, i % 10))
            constructor
            · rintro (x | x)
              · exact Or.inr ⟨fun z => x.2 ⟨hWd _ x.1, z⟩, x.1⟩
              · exact Or.inl ⟨x.2.2, x.1⟩
            · rintro (x | x)
              · exact Or.inr ⟨x.2, hd _ _ x.2, x.1⟩
              · exact Or.inl ⟨x.2, fun z => x.1 z.2⟩
          have hW1d : ep_le W1 (ep_dom M c) := by
            rw [eW1]
            intro s hs
            exact hs.elim (fun x => hd _ s x.2) (fun x => hWd s x.2)
          refine ep_xsa hl e1 (by omega) rfl (nm_r (nI_1 round) ?_)
          refine ih _ 0 (round + 1) (by omega) (ep_ok_chg hmono hM hc hd hok (by omega) hf (ep_sa_le hW1d rank) ?_)
          rw [← eW1]
          exact ep_sa_start hW1d rank
  have e0 : (0 : Int64) = ep_L (ep_st fun _ => False) := ep_L_0.symm
  have h0d : ep_le (fun _ : Nat × Nat => False) (ep_dom M c) := fun _ x => x.elim
  unfold wpX_wonStates
  dsimp only
  refine ep_xsa hl e0 (Nat.le_refl 6) rfl ⟨1000000 + 1, ?_⟩
  exact key 1000000 _ 0 0 (by omega) (ep_ok_start hmono hd hk (ep_sa_le h0d 6) (ep_sa_start h0d 6) hb)
