/-! moves -/
theorem ep_bv (P : Nat → Prop) {v : Nat} (hv : v < 10) : (ep_I P >>> (nI v &&& 31)) &&& 1 = 1 ↔ P v := by
  rw [ep_bit1 _ (by omega)]
  by_cases h : bt (ep_I P) v = true
  · rw [if_pos h]
    exact ⟨fun _ => ((ep_I_bit P v).1 h).2, fun _ => rfl⟩
  · rw [if_neg h]
    exact ⟨fun z => absurd z (by decide), fun z => absurd ((ep_I_bit P v).2 ⟨hv, z⟩) h⟩
def ep_rc (f : (Nat → Prop) → (Nat → Prop)) (a : Nat → Prop) : Nat → Nat → Prop
  | 0 => fun v => a v ∨ f (fun _ => False) v
  | n + 1 => fun v => ep_rc f a n v ∨ f (ep_rc f a n) v
theorem ep_rc_al {c : Nat} {f : (Nat → Prop) → (Nat → Prop)} (hF : ep_F c f) {a : Nat → Prop} (ha : ep_le a fun v => v < c) : ∀ n, ep_le (ep_rc f a n) fun v => v < c := by
  intro n
  induction n with
  | zero => exact fun v x => x.elim (ha v) (hF.2 _ _)
  | succ n ih => exact fun v x => x.elim (ih v) (hF.2 _ _)
theorem ep_rc_st {c : Nat} {f : (Nat → Prop) → (Nat → Prop)} (hF : ep_F c f) {a : Nat → Prop} {n : Nat} (h : ep_le (ep_rc f a (n + 1)) (ep_rc f a n)) :
    ep_le (ep_rc f a (n + 2)) (ep_rc f a (n + 1)) :=
  fun v x => x.elim (fun y => y) (fun y => Or.inr (ep_F_mono hF _ _ h v y))
theorem ep_rc_cn {c : Nat} {f : (Nat → Prop) → (Nat → Prop)} (hF : ep_F c f) (hc : c ≤ 10) {a : Nat → Prop} (ha : ep_le a fun v => v < c) :
    ∀ n, ep_le (ep_rc f a (n + 1)) (ep_rc f a n) ∨ n + 1 ≤ ep_cn (ep_rc f a n) 10 := by
  intro n
  induction n with
  | zero =>
    by_cases h : ∃ v, ep_rc f a 0 v
    · obtain ⟨v, hv⟩ := h
      have hb := ep_rc_al hF ha 0 v hv
      have h1 := ep_cn_lt (p := fun _ => False) (q := ep_rc f a 0) 10 (fun _ _ x => x.elim) ⟨v, Nat.lt_of_lt_of_le hb hc, hv, fun x => x⟩
      exact Or.inr (by omega)
    · refine Or.inl fun v x => x.elim (fun y => y) (fun y => Or.inr (ep_F_mono hF _ _ (fun w z => h ⟨w, z⟩) v y))
  | succ n ih =>
    by_cases hs : ep_le (ep_rc f a (n + 1)) (ep_rc f a n)
    · exact Or.inl (ep_rc_st hF hs)
    · rcases ih with ih | ih
      · exact absurd ih hs
      · have h1 : ep_cn (ep_rc f a n) 10 < ep_cn (ep_rc f a (n + 1)) 10 := by
          apply ep_cn_ne (fun i _ x => Or.inl x)
          intro hall
          apply hs
          intro v hv
          exact (hall v (Nat.lt_of_lt_of_le (ep_rc_al hF ha (n + 1) v hv) hc)).2 hv
        exact Or.inr (by omega)
theorem ep_rc_10 {c : Nat} {f : (Nat → Prop) → (Nat → Prop)} (hF : ep_F c f) (hc : c ≤ 10) {a : Nat → Prop} (ha : ep_le a fun v => v < c) :
    ep_le (ep_rc f a 10) (ep_rc f a 9) := by
  rcases ep_rc_cn hF hc ha 9 with h | h
  · exact h
  · intro v hv
    exact ep_cn_full 10 h v (Nat.lt_of_lt_of_le (ep_rc_al hF ha 10 v hv) hc)
theorem ep_ystuck {c : Nat} {ff : Int32} {ow E K gr rd : Nat → Int32} (hG : ep_G c ow E K) {post : Int32 → Prop}
    (h : post (ep_I (ep_fr c ow E 0 fun _ => False))) : wpY_stuck post (nI c, ff, ow, E, K, gr, rd) := by
  have hc := hG.1
  have key : ∀ d j, j + d = c → wY_stuck_4 post (nI c) ff ow E K gr rd (d + 1) (ep_sI (ep_fr c ow E 0 fun _ => False) j) (nI j) := by
    intro d
    induction d with
    | zero =>
      intro j hj
      have e : j = c := by omega
      subst e
      refine br_t (nI_le (Nat.le_refl j) (by omega)) ?_
      rw [ep_sI_c hc (fun v x => x.1)]
      exact h
    | succ d ih =>
      intro j hj
      have ih := ih (j + 1) (by omega)
      have ec : (nI j).toNatClampNeg = j := nI_clamp (by omega)
      have hin : vp_in (nI j) 10 := vp_in_nI (by omega) (by omega)
      refine br_f (ep_nIc (by omega) (by omega)) ⟨hin, ?_⟩
      rw [ec]
      by_cases ho : ow j = 1
      · refine br_t ho ⟨hin, ?_⟩
        by_cases he : E j = 0
        · have hf : ep_fr c ow E 0 (fun _ => False) j := ⟨by omega, Or.inr ⟨by rw [ho]; decide, fun w hw => by rw [he] at hw; exact ep_z0 w hw⟩⟩
          exact br_t he (nm_r (ep_sI_t hf).symm (nm_r (nI_1 j) ih))
        · have hf : ¬ ep_fr c ow E 0 (fun _ => False) j := fun q => q.2.elim (fun z => z.2.elim fun w y => y.2) (fun z => he (ep_zero.2 fun i _ hi => z.2 i hi))
          refine br_f he (nm_r (nI_1 j) ?_)
          rw [← ep_sI_f hf]
          exact ih
      · have hf : ¬ ep_fr c ow E 0 (fun _ => False) j := fun q => q.2.elim (fun z => z.2.elim fun w y => y.2) (fun z => (hG.2.1 j (by omega)).elim z.1 ho)
        refine br_f ho (nm_r (nI_1 j) ?_)
        rw [← ep_sI_f hf]
        exact ih
  exact ⟨c + 1, key c 0 (by omega)⟩
noncomputable def ep_x2 (f : (Nat → Prop) → (Nat → Prop)) (a : Nat → Prop) : Nat → Int32
  | 0 => 0
  | n + 1 => ep_I (ep_rc f a n)
theorem ep_ymv {c : Nat} {ff : Int32} {ow E K gr rd : Nat → Int32} (hG : ep_G c ow E K) {v : Nat} (hv : v < c) {post : Int32 → Prop} {n j : Nat} (hj : j < 12)
    (h1 : ep_rc (ep_fr c ow E 0) (fun v => bt (K 0) v = true) j v → post (nI j))
    (h0 : ¬ ep_rc (ep_fr c ow E 0) (fun v => bt (K 0) v = true) j v → wY_moves_14 post (nI v) (nI c) ff ow E K gr rd n (ep_I (ep_rc (ep_fr c ow E 0) (fun v => bt (K 0) v = true) j)) (nI (j + 1))) :
    wY_moves_14 post (nI v) (nI c) ff ow E K gr rd (n + 1) (ep_x2 (ep_fr c ow E 0) (fun v => bt (K 0) v = true) j) (nI j) := by
  have hc := hG.1
  have k0 := ep_K hG (i := 0) (by decide)
  have h46 : wY_moves_46 post (wY_moves_14 post (nI v) (nI c) ff ow E K gr rd n) (nI v) (nI j) (ep_I (ep_rc (ep_fr c ow E 0) (fun v => bt (K 0) v = true) j)) (nI c) ff ow E K gr rd := by
    have hb := ep_bv (ep_rc (ep_fr c ow E 0) (fun v => bt (K 0) v = true) j) (v := v) (by omega)
    by_cases e : ep_rc (ep_fr c ow E 0) (fun v => bt (K 0) v = true) j v
    · exact br_t (hb.2 e) (h1 e)
    · exact br_f (fun z => e (hb.1 z)) (nm_r (nI_1 j) (h0 e))
  refine br_f (nI_ge (b := 12) (by omega) (by omega)) ?_
  match j, hj, h46 with
  | 0, _, h46 =>
    refine br_t rfl (ep_ystuck hG ?_)
    have e : K 0 ||| ep_I (ep_fr c ow E 0 fun _ => False) = ep_I (ep_rc (ep_fr c ow E 0) (fun v => bt (K 0) v = true) 0) := by
      have h := ep_I_or (fun v => bt (K 0) v = true) (ep_fr c ow E 0 fun _ => False)
      rw [← k0] at h
      exact h
    rw [e]
    exact h46
  | j + 1, hj, h46 =>
    refine br_f (nI_ne0 (by omega) (by omega)) (ep_yforce hG 0 (ep_rc (ep_fr c ow E 0) (fun v => bt (K 0) v = true) j) rfl ?_)
    have e : ep_x2 (ep_fr c ow E 0) (fun v => bt (K 0) v = true) (j + 1) ||| ep_I (ep_fr c ow E 0 (ep_rc (ep_fr c ow E 0) (fun v => bt (K 0) v = true) j)) = ep_I (ep_rc (ep_fr c ow E 0) (fun v => bt (K 0) v = true) (j + 1)) :=
      ep_I_or _ _
    rw [e]
    exact h46
theorem ep_mv {c : Nat} {fm ff : Int32} {ow E K ma gr rd : Nat → Int32} {sr : Nat → Int64} (hG : ep_G c ow E K) {v : Nat} (hv : v < c) : ∀ d j, j + d = 10 →
    (∀ i, i < j → ¬ ep_rc (ep_fr c ow E 0) (fun v => bt (K 0) v = true) i v) →
    ∃ r : Int32, (∀ post : Int32 → Prop, post r → wX_moves_24 post (nI v) (nI c) fm ow E K ma sr (d + 1) (ep_I (ep_rc (ep_fr c ow E 0) (fun v => bt (K 0) v = true) j)) (nI j)) ∧
      (∀ post : Int32 → Prop, post r → wY_moves_14 post (nI v) (nI c) ff ow E K gr rd (d + 3) (ep_x2 (ep_fr c ow E 0) (fun v => bt (K 0) v = true) j) (nI j)) := by
  have hc := hG.1
  have hF := ep_fr_F hG 0
  have ha : ep_le (fun v => bt (K 0) v = true) fun v => v < c := fun w hw => hG.2.2.2 0 (by decide) w hw
  intro d
  induction d with
  | zero =>
    intro j hj hno
    have e : j = 10 := by omega
    subst e
    have n9 := hno 9 (by omega)
    have n10 : ¬ ep_rc (ep_fr c ow E 0) (fun v => bt (K 0) v = true) 10 v := fun z => n9 (ep_rc_10 hF hc ha v z)
    have n11 : ¬ ep_rc (ep_fr c ow E 0) (fun v => bt (K 0) v = true) 11 v := fun z => n10 (ep_rc_st hF (ep_rc_10 hF hc ha) v z)
    refine ⟨-3, fun post hp => br_t (nI_le (a := 10) (b := 10) (by omega) (by omega)) hp, fun post hp => ?_⟩
    exact ep_ymv hG hv (by omega) (fun z => absurd z n10) (fun _ => ep_ymv hG hv (j := 11) (by omega) (fun z => absurd z n11) (fun _ => br_t (nI_le (a := 12) (b := 12) (by omega) (by omega)) hp))
  | succ d ih =>
    intro j hj hno
    have hb := ep_bv (ep_rc (ep_fr c ow E 0) (fun v => bt (K 0) v = true) j) (v := v) (by omega)
    have hx : ¬ (10 : Int32) ≤ nI j := nI_ge (b := 10) (by omega) (by omega)
    by_cases e : ep_rc (ep_fr c ow E 0) (fun v => bt (K 0) v = true) j v
    · exact ⟨nI j, fun post hp => br_f hx (br_t (hb.2 e) hp), fun post hp => ep_ymv hG hv (by omega) (fun _ => hp) (fun z => absurd e z)⟩
    · obtain ⟨r, h1, h2⟩ := ih (j + 1) (by omega) (fun i hi => by
        by_cases e2 : i = j
        · subst e2; exact e
        · exact hno i (by omega))
      refine ⟨r, fun post hp => br_f hx (br_f (fun z => e (hb.1 z)) (ep_xforce hG rfl (nm_r (ep_I_or _ _) (nm_r (nI_1 j) (h1 post hp))))), fun post hp => ep_ymv hG hv (by omega) (fun z => absurd z e) (fun _ => h2 post hp)⟩
theorem i_vc_moves {k : Nat} {u : SX} {v : SY} (I : i_Rel k u v) (hk : k + 3 ≤ 1536) (v1 : Int32) : wpX_moves (fun r => wpY_moves (fun r' => r' = r ∧ i_Rel (k + 3) u v) v v1) u v1 := by
  obtain ⟨c, fm, ow, E, K, ma, sr, ff, gr, rd, hG, rfl, rfl, _⟩ := I
  have hc := hG.1
  have k0 := ep_K hG (i := 0) (by decide)
  unfold wpX_moves wpY_moves
  dsimp only
  refine ep_no (x := v1) (n := c) (by omega) (fun h => ?_) (fun w hw e => ?_)
  · exact ep_xp_no h (br_t rfl (ep_yp_no h (br_t rfl ⟨rfl, ep_rel hG⟩)))
  · subst e
    obtain ⟨r, h1, h2⟩ := ep_mv (fm := fm) (ff := ff) (ma := ma) (sr := sr) (gr := gr) (rd := rd) hG hw 10 0 (by omega) (fun i hi => absurd hi (Nat.not_lt_zero i))
    refine ep_xp_yes hc hw (br_f (by decide) ?_)
    unfold wpX_stuckPositions
    dsimp only
    refine ep_xforce hG ep_I_0.symm (nm_r (show _ = ep_I (ep_rc (ep_fr c ow E 0) (fun v => bt (K 0) v = true) 0) from ?_) ⟨_, h1 _ ?_⟩)
    · have h := ep_I_or (fun v => bt (K 0) v = true) (ep_fr c ow E 0 fun _ => False)
      rw [← k0] at h
      exact h
    · exact ep_yp_yes hc hw (br_f (by decide) ⟨_, h2 _ ⟨rfl, ep_rel hG⟩⟩)
