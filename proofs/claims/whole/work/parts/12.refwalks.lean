/-! the reference's walks -/
theorem ep_e1 {x : Int32} (hx : ∀ w, bt x w = true → w < 10) (S : Nat → Prop) : x &&& ep_I S = 0 ↔ ¬ ∃ w, bt x w = true ∧ S w := by
  rw [ep_zero]
  constructor
  · rintro h ⟨w, h1, h2⟩
    have hw := hx w h1
    refine h w (by omega) ?_
    rw [b_and, Bool.and_eq_true, ep_I_bit]
    exact ⟨h1, hw, h2⟩
  · intro h i _ hb
    rw [b_and, Bool.and_eq_true, ep_I_bit] at hb
    exact h ⟨i, hb.1, hb.2.2⟩
theorem ep_e2 {x : Int32} (hx : ∀ w, bt x w = true → w < 10) (S : Nat → Prop) : x &&& (ep_I S ^^^ (-1)) = 0 ↔ ∀ w, bt x w = true → S w := by
  rw [ep_zero]
  constructor
  · intro h w hw
    have h10 := hx w hw
    apply Classical.byContradiction
    intro hs
    refine h w (by omega) ?_
    rw [b_and, Bool.and_eq_true, ep_bnot _ (by omega), Bool.not_eq_true', ← Bool.not_eq_true, ep_I_bit]
    exact ⟨hw, fun y => hs y.2⟩
  · intro h i hi hb
    rw [b_and, Bool.and_eq_true, ep_bnot _ hi, Bool.not_eq_true', ← Bool.not_eq_true, ep_I_bit] at hb
    exact hb.2 ⟨hx i hb.1, h i hb.1⟩
theorem ep_e3 {x : Int32} (hx : ∀ w, bt x w = true → w < 10) (S : Nat → Prop) : x &&& ep_I S = x ↔ ∀ w, bt x w = true → S w := by
  constructor
  · intro h w hw
    rw [← h, b_and, Bool.and_eq_true, ep_I_bit] at hw
    exact hw.2.2
  · intro h
    apply ep_beq
    intro i _
    rw [b_and, Bool.and_eq_true, ep_I_bit]
    exact ⟨fun y => y.1, fun y => ⟨y, hx i y, h i y⟩⟩
theorem ep_nIc {a b : Nat} (h : b < a) (ha : a ≤ 40) : ¬ nI a ≤ nI b := nI_ge h (by omega)
theorem ep_sI_c {c : Nat} (hc : c ≤ 10) {P : Nat → Prop} (h : ∀ v, P v → v < c) : ep_sI P c = ep_I P :=
  ep_I_eq fun i _ => by rw [ep_sI_bit P c (by omega)]; exact ⟨fun x => ⟨by omega, x.2⟩, fun x => ⟨h i x.2, x.2⟩⟩
theorem ep_y0 {post : Int32 → Prop} {J5 : Int32 → Int32 → Prop} {x1 x2 x3 x4 : Int32} {fc ff : Int32} {ow E K gr rd : Nat → Int32} (h : J5 x3 (x4 + 1)) :
    wY_force_64 post J5 x1 x2 x3 x4 0 fc ff ow E K gr rd := br_t rfl (nm_e h)
theorem ep_y1 {post : Int32 → Prop} {J5 : Int32 → Int32 → Prop} {x1 x2 x3 x4 : Int32} {fc ff : Int32} {ow E K gr rd : Nat → Int32}
    (h : J5 (x3 ||| ((1 : Int32) <<< (x4 &&& 31))) (x4 + 1)) : wY_force_64 post J5 x1 x2 x3 x4 1 fc ff ow E K gr rd := br_f (by decide) (nm_e (nm_e h))
theorem ep_yforce {c : Nat} {ff : Int32} {ow E K gr rd : Nat → Int32} (hG : ep_G c ow E K) (p : Int32) (S : Nat → Prop) {x : Int32} (ex : x = ep_I S) {post : Int32 → Prop}
    (h : post (ep_I (ep_fr c ow E p S))) : wpY_force post (nI c, ff, ow, E, K, gr, rd) p x := by
  subst ex
  have hc := hG.1
  have key : ∀ d j, j + d = c → wY_force_5 post p (ep_I S) (nI c) ff ow E K gr rd (d + 1) (ep_sI (ep_fr c ow E p S) j) (nI j) := by
    intro d
    induction d with
    | zero =>
      intro j hj
      have e : j = c := by omega
      subst e
      refine br_t (nI_le (Nat.le_refl j) (by omega)) ?_
      rw [ep_sI_c hc (fun v x => x.1)]
      exact h
    | succ d ih =>
      intro j hj
      have ih := ih (j + 1) (by omega)
      have ec : (nI j).toNatClampNeg = j := nI_clamp (by omega)
      have hx : ∀ w, bt (E j) w = true → w < 10 := fun w hw => by have := hG.2.2.1 j (by omega) w hw; omega
      have hin : vp_in (nI j) 10 := vp_in_nI (by omega) (by omega)
      have c1 := ep_e1 hx S
      have c2 := ep_e2 hx S
      have y0 : ¬ ep_fr c ow E p S j → wY_force_64 post (wY_force_5 post p (ep_I S) (nI c) ff ow E K gr rd (d + 1)) p (ep_I S) (ep_sI (ep_fr c ow E p S) j) (nI j) 0 (nI c) ff ow E K gr rd := fun hn =>
        ep_y0 (by rw [nI_1, ← ep_sI_f hn]; exact ih)
      have y1 : ep_fr c ow E p S j → wY_force_64 post (wY_force_5 post p (ep_I S) (nI c) ff ow E K gr rd (d + 1)) p (ep_I S) (ep_sI (ep_fr c ow E p S) j) (nI j) 1 (nI c) ff ow E K gr rd := fun hn =>
        ep_y1 (by rw [nI_1, ← ep_sI_t hn]; exact ih)
      refine br_f (ep_nIc (by omega) (by omega)) ⟨hin, ?_⟩
      rw [ec]
      by_cases ho : ow j = p
      · refine br_t ho ⟨hin, ?_⟩
        by_cases he : E j &&& ep_I S = 0
        · exact br_t he (y0 fun q => q.2.elim (fun z => c1.1 he z.2) (fun z => z.1 ho))
        · refine br_f he (y1 ⟨by omega, Or.inl ⟨ho, Classical.byContradiction fun hn => he (c1.2 hn)⟩⟩)
      · refine br_f ho ⟨hin, ?_⟩
        by_cases he : E j &&& (ep_I S ^^^ (-1)) = 0
        · exact br_t he (y1 ⟨by omega, Or.inr ⟨ho, c2.1 he⟩⟩)
        · exact br_f he (y0 fun q => q.2.elim (fun z => ho z.1) (fun z => he (c2.2 z.2)))
  exact ⟨c + 1, key c 0 (by omega)⟩
theorem ep_yall {c : Nat} {ff : Int32} {ow E K gr rd : Nat → Int32} (hc : c ≤ 10) {post : Int32 → Prop} (h : post (ep_I fun v => v < c)) :
    wpY_all post (nI c, ff, ow, E, K, gr, rd) := by
  show post (((1 : Int32) <<< (nI c &&& 31)) - 1)
  rw [ep_I_all hc]
  exact h
theorem ep_rF_bd {c : Nat} (hc : c ≤ 10) {f : (Nat → Prop) → (Nat → Prop)} (hF : ep_F c f) {P T : Nat → Prop} (hP : ep_le P fun v => v < c) (X : Nat → Prop) :
    ep_le (ep_rF f P T X) fun v => v < c := fun v x => x.elim (hP v) (fun y => hF.2 _ _ y.2)
theorem ep_10 {c : Nat} (hc : c ≤ 10) {P : Nat → Prop} (h : ep_le P fun v => v < c) : ep_bd P := fun v x => Nat.lt_of_lt_of_le (h v x) hc
theorem ep_reach_al {c : Nat} {f : (Nat → Prop) → (Nat → Prop)} (hF : ep_F c f) {P T : Nat → Prop} (hP : ep_le P fun v => v < c) : ep_le (ep_reach f P T) fun v => v < c :=
  fun v x => (ep_reach_out (ep_F_mono hF) v x).elim (hP v) (fun y => hF.2 _ _ y.2)
theorem ep_stay_al {c : Nat} {f : (Nat → Prop) → (Nat → Prop)} (hF : ep_F c f) {P T : Nat → Prop} (hP : ep_le P fun v => v < c) : ep_le (ep_stay f T P) fun v => v < c :=
  fun v x => (ep_stay_out (ep_F_mono hF) v x).elim (hP v) (fun y => hF.2 _ _ y.2)
theorem ep_yreach {c : Nat} {ff : Int32} {ow E K gr rd : Nat → Int32} (hG : ep_G c ow E K) {P T : Nat → Prop} {x y : Int32} (ex : x = ep_I P) (ey : y = ep_I T)
    (hP : ep_le P fun v => v < c) {post : Int32 → Prop} (h : post (ep_I (ep_reach (ep_fr c ow E 0) P T))) : wpY_reach post (nI c, ff, ow, E, K, gr, rd) x y := by
  subst ex; subst ey
  have hF := ep_fr_F hG 0
  exact ep_up (F := ep_rF (ep_fr c ow E 0) P T) (W := fun n b x => wY_reach_5 post (ep_I P) (ep_I T) (nI c) ff ow E K gr rd n x b) (post := post)
    (ep_rF_mono (ep_F_mono hF) P T) (fun X => ep_10 hG.1 (ep_rF_bd hG.1 hF hP X)) (fun n x hp => br_t rfl hp)
    (fun n b X _ hne hW => br_f hne (ep_yforce hG 0 X rfl (nm_r (by rw [ep_I_and, ep_I_or]; rfl) hW)))
    h 10 P (ep_10 hG.1 hP) (by omega) (fun v x => Or.inl x) (fun v x => ep_reach_in (ep_F_mono hF) v (Or.inl x)) (-1) (ep_I_m1 P)
theorem ep_ystay {c : Nat} {ff : Int32} {ow E K gr rd : Nat → Int32} (hG : ep_G c ow E K) {P T : Nat → Prop} {x y : Int32} (ex : x = ep_I T) (ey : y = ep_I P)
    (hP : ep_le P fun v => v < c) {post : Int32 → Prop} (h : post (ep_I (ep_stay (ep_fr c ow E 0) T P))) : wpY_stay post (nI c, ff, ow, E, K, gr, rd) x y := by
  subst ex; subst ey
  have hF := ep_fr_F hG 0
  unfold wpY_stay
  dsimp only
  exact ep_yall hG.1 (ep_down0 (F := ep_rF (ep_fr c ow E 0) P T) (W := fun n b x => wY_stay_8 post (ep_I T) (ep_I P) (nI c) ff ow E K gr rd n x b) (post := post)
    (ep_rF_mono (ep_F_mono hF) P T) hG.1 (fun X => ep_rF_bd hG.1 hF hP X) (fun n x hp => br_t rfl hp)
    (fun n b X _ hne hW => br_f hne (ep_yforce hG 0 X rfl (nm_r (by rw [ep_I_and, ep_I_or]; rfl) hW))) h)
theorem ep_yagain {c : Nat} {ff : Int32} {ow E K gr rd : Nat → Int32} (hG : ep_G c ow E K) {a : Nat → Prop} {x : Int32} (ex : x = ep_I a)
    {post : Int32 → Prop} (h : post (ep_I (ep_again (ep_fr c ow E 0) (fun v => v < c) a))) : wpY_againAndAgain post (nI c, ff, ow, E, K, gr, rd) x := by
  subst ex
  have hF := ep_fr_F hG 0
  unfold wpY_againAndAgain
  dsimp only
  exact ep_yall hG.1 (ep_down0 (F := ep_againF (ep_fr c ow E 0) (fun v => v < c) a) (W := fun n b x => wY_againAndAgain_7 post (ep_I a) (nI c) ff ow E K gr rd n x b) (post := post)
    (ep_againF_mono (ep_F_mono hF) _ a) hG.1 (fun X => ep_reach_al hF (fun v x => hF.2 _ _ x.2)) (fun n x hp => br_t rfl hp)
    (fun n b X _ hne hW => br_f hne (ep_yforce hG 0 X rfl (ep_yall hG.1 (ep_yreach hG (ep_I_and _ _) rfl (fun v x => hF.2 _ _ x.2) hW)))) h)
theorem ep_yend {c : Nat} {ff : Int32} {ow E K gr rd : Nat → Int32} (hG : ep_G c ow E K) {a : Nat → Prop} {x : Int32} (ex : x = ep_I a)
    {post : Int32 → Prop} (h : post (ep_I (ep_end (ep_fr c ow E 0) a))) : wpY_inTheEnd post (nI c, ff, ow, E, K, gr, rd) x := by
  subst ex
  have hF := ep_fr_F hG 0
  exact ep_up0 (F := ep_endF (ep_fr c ow E 0) a) (W := fun n b x => wY_inTheEnd_4 post (ep_I a) (nI c) ff ow E K gr rd n x b) (post := post)
    (ep_endF_mono (ep_F_mono hF) a) (fun X => ep_10 hG.1 (ep_stay_al hF (fun v x => hF.2 _ _ x))) (fun n x hp => br_t rfl hp)
    (fun n b X _ hne hW => br_f hne (ep_yforce hG 0 X rfl (ep_ystay hG rfl rfl (fun v x => hF.2 _ _ x) hW))) h
theorem ep_yboth {c : Nat} {ff : Int32} {ow E K gr rd : Nat → Int32} (hG : ep_G c ow E K) {a b : Nat → Prop} {x y : Int32} (ex : x = ep_I a) (ey : y = ep_I b)
    {post : Int32 → Prop} (h : post (ep_I (ep_both (ep_fr c ow E 0) (fun v => v < c) a b))) : wpY_bothAgain post (nI c, ff, ow, E, K, gr, rd) x y := by
  subst ex; subst ey
  have hF := ep_fr_F hG 0
  unfold wpY_bothAgain
  dsimp only
  exact ep_yall hG.1 (ep_down0 (F := ep_bothF (ep_fr c ow E 0) (fun v => v < c) a b) (W := fun n b' x => wY_bothAgain_8 post (ep_I a) (ep_I b) (nI c) ff ow E K gr rd n x b') (post := post)
    (ep_bothF_mono (ep_F_mono hF) _ a b) hG.1 (fun X v x => ep_reach_al hF (fun v x => hF.2 _ _ x.2) v x.1) (fun n x hp => br_t rfl hp)
    (fun n b' X _ hne hW => br_f hne (ep_yforce hG 0 X rfl (ep_yall hG.1 (ep_yreach hG (ep_I_and _ _) rfl (fun v x => hF.2 _ _ x.2)
      (ep_yforce hG 0 X rfl (ep_yall hG.1 (ep_yreach hG (ep_I_and _ _) rfl (fun v x => hF.2 _ _ x.2) (nm_r (by rw [ep_I_and]; rfl) hW)))))))) h)
theorem ep_yspoil {c : Nat} {ff : Int32} {ow E K gr rd : Nat → Int32} (hG : ep_G c ow E K) {a b st z : Nat → Prop} {x y : Int32} (ex : x = ep_I st) (ey : y = ep_I z)
    (e0 : K 0 = ep_I a) (e1 : K 1 = ep_I b)
    {post : Int32 → Prop} (h : post (ep_I (ep_spoil (ep_fr c ow E 0) (fun v => v < c) a b st z))) : wpY_orSpoil post (nI c, ff, ow, E, K, gr, rd) x y := by
  subst ex; subst ey
  have hF := ep_fr_F hG 0
  have hst : ∀ X : Nat → Prop, ep_le (fun v => (st v ∧ ep_fr c ow E 0 z v) ∨ ep_fr c ow E 0 X v) (fun v => v < c) := fun X v x => x.elim (fun y => hF.2 _ _ y.2) (fun y => hF.2 _ _ y)
  exact ep_up0 (F := ep_spoilF (ep_fr c ow E 0) (fun v => v < c) a b st z) (W := fun n b' x => wY_orSpoil_5 post (ep_I st) (ep_I z) (nI c) ff ow E K gr rd n x b') (post := post)
    (ep_spoilF_mono (ep_F_mono hF) _ a b st z) (fun X => ep_10 hG.1 (fun v x => x.elim (ep_stay_al hF (hst X) v) (ep_stay_al hF (hst X) v))) (fun n x hp => br_t rfl hp)
    (fun n b' X _ hne hW => br_f hne (ep_yforce hG 0 z rfl (ep_yforce hG 0 X rfl (nm_r (show _ = ep_I (fun v => (st v ∧ ep_fr c ow E 0 z v) ∨ ep_fr c ow E 0 X v) by rw [ep_I_and, ep_I_or])
      (ep_yall hG.1 (ep_ystay hG (show _ = ep_I (fun v => v < c ∧ ¬ a v) by rw [e0, ep_I_diff]) rfl (hst X)
      (ep_yall hG.1 (ep_ystay hG (show _ = ep_I (fun v => v < c ∧ ¬ b v) by rw [e1, ep_I_diff]) rfl (hst X) (nm_r (by rw [ep_I_or]; rfl) hW))))))))) h
theorem ep_spoil_al {c : Nat} {f : (Nat → Prop) → (Nat → Prop)} (hF : ep_F c f) {a b st z : Nat → Prop} : ep_le (ep_spoil f (fun v => v < c) a b st z) fun v => v < c := by
  have hst : ∀ X : Nat → Prop, ep_le (fun v => (st v ∧ f z v) ∨ f X v) (fun v => v < c) := fun X v x => x.elim (fun y => hF.2 _ _ y.2) (fun y => hF.2 _ _ y)
  exact fun v x => (ep_lfp_post (ep_spoilF_mono (ep_F_mono hF) _ a b st z) v x).elim (ep_stay_al hF (hst _) v) (ep_stay_al hF (hst _) v)
theorem ep_yifb {c : Nat} {ff : Int32} {ow E K gr rd : Nat → Int32} (hG : ep_G c ow E K) {a b d e : Nat → Prop}
    (e0 : K 0 = ep_I a) (e1 : K 1 = ep_I b) (e2 : K 2 = ep_I d) (e3 : K 3 = ep_I e)
    {post : Int32 → Prop} (h : post (ep_I (ep_ifb (ep_fr c ow E 0) (fun v => v < c) a b d e))) : wpY_ifBoth post (nI c, ff, ow, E, K, gr, rd) := by
  have hF := ep_fr_F hG 0
  unfold wpY_ifBoth
  dsimp only
  exact ep_yall hG.1 (ep_down0 (F := ep_ifbF (ep_fr c ow E 0) (fun v => v < c) a b d e) (W := fun n b' x => wY_ifBoth_7 post (nI c) ff ow E K gr rd n x b') (post := post)
    (ep_ifbF_mono (ep_F_mono hF) _ a b d e) hG.1 (fun X v x => ep_spoil_al hF v x.1) (fun n x hp => br_t rfl hp)
    (fun n b' X _ hne hW => br_f hne (ep_yspoil hG e2 rfl e0 e1 (ep_yspoil hG e3 rfl e0 e1 (nm_r (by rw [ep_I_and]; rfl) hW)))) h)
theorem ep_inner_al {c : Nat} {f : (Nat → Prop) → (Nat → Prop)} (hF : ep_F c f) {g wi ri : Nat → Prop} (hr : ep_le ri fun v => v < c) (Y : Nat → Prop) : ep_le (ep_innF f g wi ri Y) fun v => v < c :=
  ep_reach_al hF (fun v x => x.elim (hr v) (fun y => hF.2 _ _ y.2))
theorem ep_yinner {c : Nat} {ff : Int32} {ow E K gr rd : Nat → Int32} (hG : ep_G c ow E K) (p : Int32) {j x y : Int32} {g wi ri : Nat → Prop} (hj : vp_in j 2)
    (eg : gr j.toNatClampNeg = ep_I g) (ex : x = ep_I wi) (ey : y = ep_I ri) (hr : ep_le ri fun v => v < c)
    {post : Int32 → Prop} (h : post (ep_I (ep_inner (ep_fr c ow E p) g wi ri))) : wpY_inner post (nI c, ff, ow, E, K, gr, rd) p j x y := by
  subst ex; subst ey
  have hF := ep_fr_F hG p
  have hm := ep_F_mono hF
  have hst : ∀ X : Nat → Prop, ep_le (fun v => ri v ∨ ((wi v ∧ g v) ∧ ep_fr c ow E p X v)) (fun v => v < c) := fun X v x => x.elim (hr v) (fun y => hF.2 _ _ y.2)
  unfold wpY_inner
  dsimp only
  exact ep_yall hG.1 (ep_down0 (F := ep_innF (ep_fr c ow E p) g wi ri) (W := fun n b' x => wY_inner_9 post p j (ep_I wi) (ep_I ri) (nI c) ff ow E K gr rd n x b') (post := post)
    (ep_innF_mono hm g wi ri) hG.1 (fun X => ep_inner_al hF hr X) (fun n x hp => br_t rfl hp)
    (fun n b' X _ hne hW => br_f hne ⟨hj, ep_yforce hG p X rfl (nm_r (show _ = ep_I (fun v => ri v ∨ ((wi v ∧ g v) ∧ ep_fr c ow E p X v)) by rw [eg, ep_I_and, ep_I_and, ep_I_or])
      (ep_up0 (F := ep_rF (ep_fr c ow E p) (fun v => ri v ∨ ((wi v ∧ g v) ∧ ep_fr c ow E p X v)) wi)
        (W := fun m b2 x => wY_inner_47 post (wY_inner_9 post p j (ep_I wi) (ep_I ri) (nI c) ff ow E K gr rd n) p j (ep_I wi) (ep_I ri) (ep_I X) (ep_I (fun v => ri v ∨ ((wi v ∧ g v) ∧ ep_fr c ow E p X v))) (nI c) ff ow E K gr rd m x b2)
        (post := fun x => wY_inner_9 post p j (ep_I wi) (ep_I ri) (nI c) ff ow E K gr rd n x (ep_I X))
        (ep_rF_mono hm _ wi) (fun Z => ep_10 hG.1 (ep_rF_bd hG.1 hF (hst X) Z)) (fun m x hp => br_t rfl hp)
        (fun m b2 Z _ hne2 hW2 => br_f hne2 (ep_yforce hG p Z rfl (nm_r (by rw [ep_I_and, ep_I_or]; rfl) hW2))) hW))⟩) h)
theorem ep_own_al {c : Nat} {f : (Nat → Prop) → (Nat → Prop)} (hF : ep_F c f) {al g r y ri : Nat → Prop} (hr : ep_le ri fun v => v < c) (X : Nat → Prop) :
    ep_le (ep_own f al g r y ri X) fun v => v < c :=
  fun v x => x.elim (fun z => z.elim (hr v) (fun q => hF.2 _ _ q.2)) (fun z => hF.2 _ _ z.2)
theorem ep_leastF_al {c : Nat} {f : (Nat → Prop) → (Nat → Prop)} (hF : ep_F c f) {al g r g' r' y ri : Nat → Prop} (hr : ep_le ri fun v => v < c) (X : Nat → Prop) :
    ep_le (ep_leastF f al g r g' r' y ri X) fun v => v < c :=
  fun v x => ep_inner_al hF (ep_own_al hF hr X) _ v (ep_gfp_post (ep_innF_mono (ep_F_mono hF) _ _ _) v x)
theorem ep_least_al {c : Nat} {f : (Nat → Prop) → (Nat → Prop)} (hF : ep_F c f) {al g r g' r' y ri : Nat → Prop} (hr : ep_le ri fun v => v < c) :
    ep_le (ep_least f al g r g' r' y ri) fun v => v < c :=
  fun v x => ep_leastF_al hF hr _ v (ep_lfp_post (ep_leastF_mono (ep_F_mono hF) al g r g' r' y ri) v x)
theorem ep_yleast {c : Nat} {ff : Int32} {ow E K gr rd : Nat → Int32} (hG : ep_G c ow E K) (p : Int32) {i x y : Int32} {g r g' r' Y ri : Nat → Prop} (hi : vp_in i 2) (hj : vp_in (1 - i) 2)
    (eg : gr i.toNatClampNeg = ep_I g) (er : rd i.toNatClampNeg = ep_I r) (eg' : gr (1 - i).toNatClampNeg = ep_I g') (er' : rd (1 - i).toNatClampNeg = ep_I r')
    (ex : x = ep_I Y) (ey : y = ep_I ri) (hr : ep_le ri fun v => v < c)
    {post : Int32 → Prop} (h : post (ep_I (ep_least (ep_fr c ow E p) (fun v => v < c) g r g' r' Y ri))) : wpY_leastOfPair post (nI c, ff, ow, E, K, gr, rd) p i x y := by
  subst ex; subst ey
  have hF := ep_fr_F hG p
  have hm := ep_F_mono hF
  unfold wpY_leastOfPair
  dsimp only
  exact ep_yall hG.1 ⟨hi, nm_r (show _ = ep_I (fun v => v < c ∧ ¬ r v) by rw [er, ep_I_diff]) ⟨hi, ep_yforce hG p Y rfl
    (nm_r (show _ = ep_I (fun v => ri v ∨ (((v < c ∧ ¬ r v) ∧ g v) ∧ ep_fr c ow E p Y v)) by rw [eg, ep_I_and, ep_I_and, ep_I_or])
      (ep_up0 (F := ep_leastF (ep_fr c ow E p) (fun v => v < c) g r g' r' Y ri)
        (W := fun n b' x => wY_leastOfPair_42 post p i (ep_I (fun v => v < c ∧ ¬ r v)) (ep_I (fun v => ri v ∨ (((v < c ∧ ¬ r v) ∧ g v) ∧ ep_fr c ow E p Y v))) (nI c) ff ow E K gr rd n x b') (post := post)
        (ep_leastF_mono hm _ g r g' r' Y ri) (fun X => ep_10 hG.1 (ep_leastF_al hF hr X)) (fun n x hp => br_t rfl hp)
        (fun n b' X _ hne hW => br_f hne (ep_yforce hG p X rfl (nm_r (show _ = ep_I (ep_own (ep_fr c ow E p) (fun v => v < c) g r Y ri X) by rw [ep_I_and, ep_I_or]; rfl)
          ⟨hj, ep_yinner hG p hj eg' (show _ = ep_I (fun v => (v < c ∧ ¬ r v) ∧ ¬ r' v) by rw [er', ep_I_diff]) rfl (ep_own_al hF hr X) hW⟩))) h))⟩⟩
theorem ep_ypair {c : Nat} {ff : Int32} {ow E K gr rd : Nat → Int32} (hG : ep_G c ow E K) (p : Int32) {i y : Int32} {g r g' r' ri : Nat → Prop} (hi : vp_in i 2) (hj : vp_in (1 - i) 2)
    (eg : gr i.toNatClampNeg = ep_I g) (er : rd i.toNatClampNeg = ep_I r) (eg' : gr (1 - i).toNatClampNeg = ep_I g') (er' : rd (1 - i).toNatClampNeg = ep_I r')
    (ey : y = ep_I ri) (hr : ep_le ri fun v => v < c)
    {post : Int32 → Prop} (h : post (ep_I (ep_pair (ep_fr c ow E p) (fun v => v < c) g r g' r' ri))) : wpY_pair post (nI c, ff, ow, E, K, gr, rd) p i y := by
  subst ey
  have hF := ep_fr_F hG p
  unfold wpY_pair
  dsimp only
  exact ep_yall hG.1 (ep_down0 (F := fun Y => ep_least (ep_fr c ow E p) (fun v => v < c) g r g' r' Y ri) (W := fun n b' x => wY_pair_9 post p i (ep_I ri) (nI c) ff ow E K gr rd n x b') (post := post)
    (ep_pairF_mono (ep_F_mono hF) _ g r g' r' ri) hG.1 (fun X => ep_least_al hF hr) (fun n x hp => br_t rfl hp)
    (fun n b' X _ hne hW => br_f hne (ep_yleast hG p hi hj eg er eg' er' rfl rfl hr hW)) h)
theorem ep_pair_al {c : Nat} {f : (Nat → Prop) → (Nat → Prop)} (hF : ep_F c f) {al g r g' r' ri : Nat → Prop} (hr : ep_le ri fun v => v < c) :
    ep_le (ep_pair f al g r g' r' ri) fun v => v < c :=
  fun v x => ep_least_al hF hr v (ep_gfp_post (ep_pairF_mono (ep_F_mono hF) al g r g' r' ri) v x)
theorem ep_yone {c : Nat} {ff : Int32} {ow E K gr rd : Nat → Int32} (hG : ep_G c ow E K) (p : Int32) {g r g' r' : Nat → Prop}
    (eg : gr 0 = ep_I g) (er : rd 0 = ep_I r) (eg' : gr 1 = ep_I g') (er' : rd 1 = ep_I r')
    {post : Int32 → Prop} (h : post (ep_I (ep_one (ep_fr c ow E p) (fun v => v < c) g r g' r'))) : wpY_onePair post (nI c, ff, ow, E, K, gr, rd) p := by
  have hF := ep_fr_F hG p
  have i0 : vp_in 0 2 := vp_in_iff.mpr (by decide)
  have i1 : vp_in 1 2 := vp_in_iff.mpr (by decide)
  have j0 : vp_in (1 - 0) 2 := vp_in_iff.mpr (by decide)
  have j1 : vp_in (1 - 1) 2 := vp_in_iff.mpr (by decide)
  have t0 : (0 : Int32).toNatClampNeg = 0 := by decide
  have t1 : (1 : Int32).toNatClampNeg = 1 := by decide
  have t2 : (1 - 0 : Int32).toNatClampNeg = 1 := by decide
  have t3 : (1 - 1 : Int32).toNatClampNeg = 0 := by decide
  have hr : ∀ X : Nat → Prop, ep_le (ep_fr c ow E p X) fun v => v < c := fun X v x => hF.2 _ _ x
  exact ep_up0 (F := ep_oneF (ep_fr c ow E p) (fun v => v < c) g r g' r') (W := fun n b' x => wY_onePair_4 post p (nI c) ff ow E K gr rd n x b') (post := post)
    (ep_oneF_mono (ep_F_mono hF) _ g r g' r') (fun X => ep_10 hG.1 (fun v x => x.elim (ep_pair_al hF (hr X) v) (ep_pair_al hF (hr X) v))) (fun n x hp => br_t rfl hp)
    (fun n b' X _ hne hW => br_f hne (ep_yforce hG p X rfl
      (ep_ypair hG p i0 j0 (by rw [t0]; exact eg) (by rw [t0]; exact er) (by rw [t2]; exact eg') (by rw [t2]; exact er') rfl (hr X)
      (ep_ypair hG p i1 j1 (by rw [t1]; exact eg') (by rw [t1]; exact er') (by rw [t3]; exact eg) (by rw [t3]; exact er) rfl (hr X) (nm_r (by rw [ep_I_or]; rfl) hW))))) h
