/-! the class's answer for a goal -/
theorem ep_uLs {f : Nat → Int64} {k : Nat} {x : Int64} : vp_updL f k x k = x := if_pos rfl
theorem ep_uLn {f : Nat → Int64} {k j : Nat} {x : Int64} (h : j ≠ k) : vp_updL f k x j = f j := if_neg h
def ep_lay (c m j : Nat) (nm rk : Nat → Nat → Nat) (ma : Nat → Int32) (sr : Nat → Int64) : Prop :=
  (∀ a b, ep_done c m j (a, b) → ma (a * 10 + b) = nI (nm a b)) ∧ (∀ r, r < 6 → sr r = ep_L (ep_st fun s => ep_done c m j s ∧ rk s.1 s.2 = r))
theorem ep_lay_s {c m j : Nat} (hc : c ≤ 10) (hm : m < 4) (hj : j < c) {nm rk : Nat → Nat → Nat} (hk : rk m j < 6) {ma : Nat → Int32} {sr : Nat → Int64} (h : ep_lay c m j nm rk ma sr) :
    ep_lay c m (j + 1) nm rk (upd ma (m * 10 + j) (nI (nm m j))) (vp_updL sr (rk m j) (sr (rk m j) ||| ((1 : Int64) <<< ((nI (m * 10 + j)).toInt64 &&& 63)))) := by
  constructor
  · intro a b hab
    by_cases e : a * 10 + b = m * 10 + j
    · have hb : b < 10 := by
        have hab : (a < m ∧ b < c) ∨ (a = m ∧ b < j + 1) := hab
        omega
      have e1 : a = m := by omega
      have e2 : b = j := by omega
      subst e1; subst e2
      exact ep_us
    · rw [ep_un e]
      apply h.1
      rcases (ep_done_s c m j (a, b)).1 hab with x | x
      · exact x
      · have x : a = m ∧ b = j := x
        exact absurd (by rw [x.1, x.2]) e
  · intro r hr
    by_cases e : r = rk m j
    · subst e
      rw [ep_uLs, h.2 _ hr]
      exact ep_L_add (fun s => rk s.1 s.2 = rk m j) hm (by omega) rfl
    · rw [ep_uLn e, h.2 r hr]
      exact ep_L_non (fun s => rk s.1 s.2 = r) (fun x => e x.symm)
theorem ep_xlay {c : Nat} {fm : Int32} {ow E K ma : Nat → Int32} {sr : Nat → Int64} (hG : ep_G c ow E K) {g : Nat} (hg : g < 9) {post : SX → Prop}
    (h : ∀ ma' sr', ep_laid c (ep_Mg g) (ep_nm (ep_J K) g) (ep_rk (ep_J K) g) ma' sr' → post (nI c, nI (ep_Mg g), ow, E, K, ma', sr')) :
    wpX_layOut post (nI c, fm, ow, E, K, ma, sr) (nI g) := by
  have hc := hG.1
  have hM := ep_Mg_4 g hg
  have inner : ∀ (J32 : Int32 → (Nat → Int32) → (Nat → Int32) → (Nat → Int32) → (Nat → Int32) → (Nat → Int64) → Prop) (m : Nat), m < ep_Mg g →
      (∀ ma sr, ep_lay c (m + 1) 0 (ep_nm (ep_J K) g) (ep_rk (ep_J K) g) ma sr → J32 (nI (m + 1)) ow E K ma sr) → ∀ d j ma sr, j + d = c → ep_lay c m j (ep_nm (ep_J K) g) (ep_rk (ep_J K) g) ma sr →
      wX_layOut_42 post J32 (nI g) (nI m) (nI c) (nI (ep_Mg g)) (d + 1) (nI j) ow E K ma sr := by
    intro J32 m hm hJ d
    induction d with
    | zero =>
      intro j ma sr hj hl
      have e : j = c := by omega
      subst e
      refine br_t (nI_le (Nat.le_refl j) (by omega)) (nm_r (nI_1 m) (hJ ma sr ?_))
      unfold ep_lay at hl ⊢
      rw [ep_done_next] at hl
      exact hl
    | succ d ih =>
      intro j ma sr hj hl
      have hk := ep_rk_6 (ep_J K) hg m j
      have ec : (nI (m * 10 + j)).toNatClampNeg = m * 10 + j := nI_clamp (by omega)
      have er : (nI (ep_rk (ep_J K) g m j)).toNatClampNeg = ep_rk (ep_J K) g m j := nI_clamp (by omega)
      have hin : vp_in (nI (ep_rk (ep_J K) g m j)) 6 := vp_in_nI hk (by omega)
      refine br_f (ep_nIc (by omega) (by omega)) (nm_r (ep_m10 m (by omega) j (by omega)) (ep_xrank hg hm (by omega) (ep_xnext hg hm (by omega) ⟨vp_in_nI (by omega) (by omega), ?_⟩)))
      rw [ec]
      refine nm_e ⟨hin, hin, ?_⟩
      rw [er]
      exact nm_e (nm_r (nI_1 j) (ih (j + 1) _ _ (by omega) (ep_lay_s hc (by omega) (by omega) hk hl)))
  have outer : ∀ d m ma sr, m + d = ep_Mg g → ep_lay c m 0 (ep_nm (ep_J K) g) (ep_rk (ep_J K) g) ma sr →
      wX_layOut_32 post (nI g) (nI c) (nI (ep_Mg g)) (d + 1) (nI m) ow E K ma sr := by
    intro d
    induction d with
    | zero =>
      intro m ma sr hm hl
      have e : m = ep_Mg g := by omega
      subst e
      refine br_t (nI_le (Nat.le_refl _) (by omega)) (h ma sr ?_)
      unfold ep_lay at hl
      rw [ep_done_M] at hl
      exact ⟨fun m v hm hv => hl.1 m v ⟨hm, hv⟩, hl.2⟩
    | succ d ih =>
      intro m ma sr hm hl
      exact br_f (ep_nIc (by omega) (by omega)) ⟨c + 1, inner _ m (by omega) (fun ma sr hl => ih (m + 1) ma sr (by omega) hl) c 0 ma sr (by omega) hl⟩
  have first : ∀ d l ma sr, l + d = 6 → (∀ r, r < l → sr r = 0) → wX_layOut_11 post (nI g) (nI c) (nI (ep_Mg g)) (d + 1) (nI l) ow E K ma sr := by
    intro d
    induction d with
    | zero =>
      intro l ma sr hl hs
      have e : l = 6 := by omega
      subst e
      refine br_t (nI_le (a := 6) (b := 6) (by omega) (by omega)) ⟨ep_Mg g + 1, outer (ep_Mg g) 0 ma sr (by omega) ⟨fun a b x => ?_, fun r hr => ?_⟩⟩
      · rw [ep_done_0] at x
        exact x.elim
      · rw [hs r hr, ep_done_0, ← ep_L_0]
        exact ep_L_ext fun i _ => ⟨fun x => x.elim, fun x => x.1⟩
    | succ d ih =>
      intro l ma sr hl hs
      have ec : (nI l).toNatClampNeg = l := nI_clamp (by omega)
      refine br_f (nI_ge (b := 6) (by omega) (by omega)) ⟨vp_in_nI (by omega) (by omega), ?_⟩
      rw [ec]
      refine nm_e (nm_r (nI_1 l) (ih (l + 1) ma _ (by omega) (fun r hr => ?_)))
      by_cases e : r = l
      · subst e; exact ep_uLs
      · rw [ep_uLn e]; exact hs r (by omega)
  unfold wpX_layOut
  dsimp only
  exact ep_xmem hg ⟨6 + 1, first 6 0 ma sr (by omega) (fun r hr => absurd hr (Nat.not_lt_zero r))⟩
theorem ep_R_al {c : Nat} {ow E K : Nat → Int32} (hG : ep_G c ow E K) {s : Nat → Nat → Prop} (hs : ∀ i, i < 4 → ep_le (s i) fun v => v < c) {g : Nat} (hg : g < 9) :
    ep_le (ep_R c (ep_fr c ow E 0) (ep_fr c ow E 1) s g) fun v => v < c := by
  have hF := ep_fr_F hG 0
  have hm := ep_F_mono hF
  have hFO : ep_le (ep_forced (ep_fr c ow E 0) fun v => v < c) fun v => v < c := ep_reach_al hF (fun v x => x.elim)
  have hSA : ep_le (ep_safe (ep_fr c ow E 0) fun v => v < c) fun v => v < c := ep_stay_al hF (fun v x => x.elim)
  match g, hg with
  | 0, _ => exact ep_reach_al hF (fun v x => x.elim (fun y => hSA v y.2) (hFO v))
  | 1, _ => exact ep_stay_al hF hFO
  | 2, _ => exact fun v x => ep_reach_al hF (fun v x => hF.2 _ _ x.2) v (ep_gfp_post (ep_againF_mono hm _ _) v x)
  | 3, _ => exact fun v x => ep_stay_al hF (fun v x => hF.2 _ _ x) v (ep_lfp_post (ep_endF_mono hm _) v x)
  | 4, _ => exact fun v x => ep_reach_al hF (fun v x => hF.2 _ _ x.2) v (ep_gfp_post (ep_bothF_mono hm _ _ _) v x).1
  | 5, _ => exact fun v x => ep_spoil_al hF v (ep_gfp_post (ep_ifbF_mono hm _ _ _ _ _) v x).1
  | 6, _ => exact fun v x => (ep_lfp_post (ep_oneF_mono hm _ _ _ _ _) v x).elim (ep_pair_al hF (fun v x => hF.2 _ _ x) v) (ep_pair_al hF (fun v x => hF.2 _ _ x) v)
  | 7, _ => exact fun v x => x.1
  | 8, _ => exact ep_reach_al hF (fun v x => x.elim (fun y => hSA v y.2) (hFO v))
/-- a solved state is forced one move ahead -/
theorem ep_sol_cp {S : Type} {rk : S → Nat} {cp : (S → Prop) → (S → Prop)} (hc : ep_mono cp) (W : S → Prop) : ∀ r s, rk s < r → ep_sol rk cp r W s → ∃ X, cp X s := by
  intro r
  induction r generalizing W with
  | zero => intro s hs; omega
  | succ r ih =>
    intro s hs h
    rw [ep_sol_un rk hc] at h
    by_cases e : rk s = r
    · rw [ep_sol_hi rk hc r _ s (by omega), ep_at_eq e] at h
      exact ⟨_, h⟩
    · exact ih _ s (by omega) h
theorem ep_sol_dom {S : Type} {rk : S → Nat} {cp : (S → Prop) → (S → Prop)} (hc : ep_mono cp) {dom W : S → Prop} (hd : ∀ X, ep_le (cp X) dom) (hk : ∀ s, rk s < 6) : ep_le (ep_sol rk cp 6 W) dom := by
  intro s hs
  obtain ⟨X, hX⟩ := ep_sol_cp hc W 6 s (hk s) hs
  exact hd X s hX
theorem ep_xgoal {c : Nat} {fm : Int32} {ow E K ma : Nat → Int32} {sr : Nat → Int64} (hG : ep_G c ow E K) {g : Nat} (hg : g < 9) {post : Int32 → SX → Prop}
    (h : ∀ fm' ma' sr', post (ep_I (ep_R c (ep_fr c ow E 0) (ep_fr c ow E 1) (fun s v => bt (K s) v = true) g)) (nI c, fm', ow, E, K, ma', sr')) :
    wpX_wonPositions post (nI c, fm, ow, E, K, ma, sr) (nI g) := by
  have hc := hG.1
  unfold wpX_wonPositions
  dsimp only
  refine ep_xlay hG hg fun ma' sr' hl => ?_
  have hb : ep_pr (ep_nw (fun s => ep_rk (ep_J K) g s.1 s.2) (ep_dom (ep_Mg g) c)) 6 0 ≤ 142857 := by
    by_cases h6 : g = 6
    · subst h6
      exact ep_bnd6 (by decide) hc (Or.inl fun s => by show 1 + ep_pR (ep_J K) 0 s.1 s.2 ≠ 0; omega)
    · by_cases h7 : g = 7
      · subst h7
        exact ep_bnd6 (by decide) hc (Or.inr fun s => by show ep_pR (ep_J K) 1 s.1 s.2 ≠ 5; have := ep_pR_le (ep_J K) 1 s.1 s.2; omega)
      · exact ep_bnd3 fun s => ep_rk_3 (ep_J K) hg h6 h7 s.1 s.2
  refine ep_xwon hG (ep_Mg_4 g hg) hl (fun m v hm => ep_nm_lt (ep_J K) hg hm v) (fun s => ep_rk_6 (ep_J K) hg s.1 s.2) hb ?_
  have e : (ep_L (ep_st (ep_sol (fun s => ep_rk (ep_J K) g s.1 s.2) (ep_cp c ow E (ep_Mg g) (ep_nm (ep_J K) g)) 6 fun _ => False))).toInt32 &&& 1023 =
      ep_I (ep_R c (ep_fr c ow E 0) (ep_fr c ow E 1) (fun s v => bt (K s) v = true) g) := by
    rw [ep_L_low]
    apply ep_I_ext
    intro i hi
    have e2 : ep_st (ep_sol (fun s => ep_rk (ep_J K) g s.1 s.2) (ep_cp c ow E (ep_Mg g) (ep_nm (ep_J K) g)) 6 fun _ => False) i =
        ep_sol (fun s => ep_rk (ep_J K) g s.1 s.2) (ep_cp c ow E (ep_Mg g) (ep_nm (ep_J K) g)) 6 (fun _ => False) (0, i) := by
      have h1 := ep_st_k (ep_sol (fun s => ep_rk (ep_J K) g s.1 s.2) (ep_cp c ow E (ep_Mg g) (ep_nm (ep_J K) g)) 6 fun _ => False) 0 hi
      rw [Nat.zero_mul, Nat.zero_add] at h1
      exact h1
    rw [e2]
    by_cases hic : i < c
    · exact ep_agree hG (ep_J K) hg i hic
    · constructor
      · intro x
        exfalso
        have hf : ep_le (ep_sol (fun s => ep_rk (ep_J K) g s.1 s.2) (ep_cp c ow E (ep_Mg g) (ep_nm (ep_J K) g)) 6 fun _ => False) (ep_dom (ep_Mg g) c) :=
          ep_sol_dom (ep_cp_mono hG _ _) (fun X s x => x.1) (fun s => ep_rk_6 (ep_J K) hg s.1 s.2)
        exact hic (hf _ x).2
      · exact fun x => absurd (ep_R_al hG (fun j hj v y => hG.2.2.2 j hj v y) hg i x) hic
  exact ep_p2 e (h _ _ _)
