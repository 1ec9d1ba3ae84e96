/-! the class's small methods -/
theorem ep_nI1 {m : Nat} (h : m < 2 ^ 31) : nI m = 1 ↔ m = 1 := nI_eq (b := 1) h (by decide)
theorem ep_nI0 {m : Nat} (h : m < 2 ^ 31) : nI m = 0 ↔ m = 0 := nI_eq (b := 0) h (by decide)
theorem ep_1m : ∀ m, m < 2 → (1 : Int32) - nI m = nI (1 - m) := by decide +kernel
theorem ep_m2 : ∀ m, m < 4 → nI m &&& 1 = nI (m % 2) := by decide +kernel
theorem ep_d2 : ∀ m, m < 4 → nI m >>> ((1 : Int32) &&& 31) = nI (m / 2) := by decide +kernel
theorem ep_2ma : ∀ m, m < 2 → ∀ a, a < 2 → (2 * nI m) + nI a = nI (2 * m + a) := by decide +kernel
theorem ep_a2b : ∀ m, m < 2 → ∀ a, a < 2 → nI m + (2 * nI a) = nI (m + 2 * a) := by decide +kernel
def ep_J (K : Nat → Int32) : Nat → Nat → Bool := fun s v => bt (K s) v
theorem ep_xin {fc fm : Int32} {ow E K ma : Nat → Int32} {sr : Nat → Int64} {i w : Nat} {s : Int32} (es : s = nI i) (hi : i < 4) (hw : w < 10) {post : Int32 → Prop}
    (h1 : ep_J K i w = true → post 1) (h0 : ¬ ep_J K i w = true → post 0) : wpX_isIn post (fc, fm, ow, E, K, ma, sr) s (nI w) := by
  subst es
  refine ⟨vp_in_nI hi (by omega), ?_⟩
  rw [nI_clamp (by omega), ep_bit1 _ (by omega)]
  by_cases hb : bt (K i) w = true
  · rw [if_pos hb]; exact br_t rfl (h1 hb)
  · rw [if_neg hb]; exact br_f (by decide) (h0 hb)
theorem ep_xnA {fc fm : Int32} {ow E K ma : Nat → Int32} {sr : Nat → Int64} {fi m w : Nat} {x y : Int32} (ex : x = nI fi) (ey : y = nI m) (hm : m < 2) (hi : fi + m < 4) (hw : w < 10) {post : Int32 → Prop}
    (h : post (nI (ep_nA (ep_J K) fi m w))) : wpX_nextAwaited post (fc, fm, ow, E, K, ma, sr) x y (nI w) := by
  subst ex; subst ey
  unfold wpX_nextAwaited
  dsimp only
  refine ep_xin (nI_add fi m) hi hw (fun hb => ?_) (fun hb => ?_)
  · refine br_f (by decide) ?_
    rw [ep_1m m hm]
    unfold ep_nA at h
    rw [if_pos hb] at h
    exact h
  · refine br_t rfl ?_
    unfold ep_nA at h
    rw [if_neg hb] at h
    exact h
theorem ep_xbC {fc fm : Int32} {ow E K ma : Nat → Int32} {sr : Nat → Int64} {fi m w : Nat} {x y : Int32} (ex : x = nI fi) (ey : y = nI m) (hm : m < 2) (hi : fi + 1 < 4) (hw : w < 10) {post : Int32 → Prop}
    (h1 : ep_bC (ep_J K) fi m w = true → post 1) (h0 : ¬ ep_bC (ep_J K) fi m w = true → post 0) : wpX_bothCame post (fc, fm, ow, E, K, ma, sr) x y (nI w) := by
  subst ex; subst ey
  by_cases e : m = 1
  · subst e
    refine br_t rfl (ep_xin (nI_1 fi) hi hw (fun hb => br_f (by decide) (h1 ?_)) (fun hb => br_t rfl (h0 ?_)))
    · show (decide (1 = 1) && ep_J K (fi + 1) w) = true
      rw [hb]; rfl
    · intro hx
      have hx : (decide (1 = 1) && ep_J K (fi + 1) w) = true := hx
      rw [Bool.and_eq_true] at hx
      exact hb hx.2
  · refine br_f (fun hx => e ((ep_nI1 (by omega)).1 hx)) (h0 fun hx => ?_)
    have hx : (decide (m = 1) && ep_J K (fi + 1) w) = true := hx
    rw [Bool.and_eq_true, decide_eq_true_iff] at hx
    exact e hx.1
theorem ep_xnF {fc fm : Int32} {ow E K ma : Nat → Int32} {sr : Nat → Int64} {an m w : Nat} {x : Int32} (ex : x = nI an) (ha : an < 2) (hm : m < 2) (hw : w < 10) {post : Int32 → Prop}
    (h : post (nI (ep_nF (ep_J K) an m w))) : wpX_nextFront post (fc, fm, ow, E, K, ma, sr) x (nI m) (nI w) := by
  subst ex
  unfold ep_nF at h
  refine nm_r (ep_1m m hm) (ep_xin (ep_2ma (1 - m) (by omega) an ha) (by omega) hw (fun hb => br_f (by decide) ?_) (fun hb => br_t rfl ?_))
  · rw [if_pos hb] at h; exact h
  · rw [if_neg hb] at h; exact h
theorem ep_xpR {fc fm : Int32} {ow E K ma : Nat → Int32} {sr : Nat → Int64} {an m w : Nat} {x : Int32} (ex : x = nI an) (ha : an < 2) (hm : m < 2) (hw : w < 10) {post : Int32 → Prop}
    (h : post (nI (ep_pR (ep_J K) an m w))) : wpX_pairsRank post (fc, fm, ow, E, K, ma, sr) x (nI m) (nI w) := by
  subst ex
  unfold ep_pR at h
  refine nm_r (ep_1m m hm) (nm_r (ep_1m an ha) (ep_xin (ep_2ma (1 - m) (by omega) an ha) (by omega) hw (fun hb => br_f (by decide) ?_) (fun hb => br_t rfl
    (ep_xin (ep_2ma (1 - m) (by omega) (1 - an) (by omega)) (by omega) hw (fun hb2 => br_f (by decide) ?_) (fun hb2 => br_t rfl
    (ep_xin (ep_2ma m hm an ha) (by omega) hw (fun hb3 => br_f (by decide) ?_) (fun hb3 => br_t rfl
    (ep_xin (ep_2ma m hm (1 - an) (by omega)) (by omega) hw (fun hb4 => br_f (by decide) ?_) (fun hb4 => br_t rfl ?_)))))))))
  · rw [if_pos hb] at h; exact h
  · rw [if_neg hb, if_pos hb2] at h; exact h
  · rw [if_neg hb, if_neg hb2, if_pos hb3] at h; exact h
  · rw [if_neg hb, if_neg hb2, if_neg hb3, if_pos hb4] at h; exact h
  · rw [if_neg hb, if_neg hb2, if_neg hb3, if_neg hb4] at h; exact h
theorem ep_xnU {fc fm : Int32} {ow E K ma : Nat → Int32} {sr : Nat → Int64} {m w : Nat} (hm : m < 4) (hw : w < 10) {post : Int32 → Prop}
    (h : post (nI (ep_nU (ep_J K) m w))) : wpX_nextUntil post (fc, fm, ow, E, K, ma, sr) (nI m) (nI w) := by
  unfold ep_nU at h
  by_cases e : m = 0
  · subst e
    rw [if_neg (by decide)] at h
    refine br_t rfl (ep_xin (i := 1) rfl (by decide) hw (fun hb => br_f (by decide) ?_) (fun hb => br_t rfl (ep_xin (i := 0) rfl (by decide) hw (fun hb2 => br_f (by decide) ?_) (fun hb2 => br_t rfl ?_))))
    · rw [if_pos hb] at h; exact h
    · rw [if_neg hb, if_pos hb2] at h; exact h
    · rw [if_neg hb, if_neg hb2] at h; exact h
  · rw [if_pos e] at h
    exact br_f (fun hx => e ((ep_nI0 (by omega)).1 hx)) h
theorem ep_xrank {fc fm : Int32} {ow E K ma : Nat → Int32} {sr : Nat → Int64} {g m w : Nat} (hg : g < 9) (hm : m < ep_Mg g) (hw : w < 10) {post : Int32 → Prop}
    (h : post (nI (ep_rk (ep_J K) g m w))) : wpX_rankOf post (fc, fm, ow, E, K, ma, sr) (nI g) (nI m) (nI w) := by
  match g, hg, hm, h with
  | 0, _, hm, h =>
    have hm : m < 2 := hm
    have h : post (nI (if m = 1 ∨ ep_J K 0 w = true then 0 else 1)) := h
    refine br_f (by decide) (br_f (by decide) (br_t (by decide) ?_))
    by_cases e : m = 1
    · subst e; rw [if_pos (Or.inl rfl)] at h; exact br_t rfl h
    · refine br_f (fun hx => e ((ep_nI1 (by omega)).1 hx)) (ep_xin (i := 0) rfl (by decide) hw (fun hb => br_f (by decide) ?_) (fun hb => br_t rfl ?_))
      · rw [if_pos (Or.inr hb)] at h; exact h
      · rw [if_neg (fun y => y.elim e hb)] at h; exact h
  | 1, _, hm, h =>
    have hm : m < 2 := hm
    have h : post (nI (if m = 1 ∨ ¬ ep_J K 0 w = true then 1 else 0)) := h
    refine br_f (by decide) (br_f (by decide) (br_f (by decide) (br_t (by decide) ?_)))
    by_cases e : m = 1
    · subst e; rw [if_pos (Or.inl rfl)] at h; exact br_t rfl h
    · refine br_f (fun hx => e ((ep_nI1 (by omega)).1 hx)) (ep_xin (i := 0) rfl (by decide) hw (fun hb => br_f (by decide) ?_) (fun hb => br_t rfl ?_))
      · rw [if_neg (fun y => y.elim e (fun z => z hb))] at h; exact h
      · rw [if_pos (Or.inr hb)] at h; exact h
  | 2, _, hm, h =>
    have h : post (nI (if ep_J K 0 w = true then 2 else 1)) := h
    refine br_f (by decide) (br_f (by decide) (br_f (by decide) (br_f (by decide) (br_t (by decide) (ep_xin (i := 0) rfl (by decide) hw (fun hb => br_f (by decide) ?_) (fun hb => br_t rfl ?_))))))
    · rw [if_pos hb] at h; exact h
    · rw [if_neg hb] at h; exact h
  | 3, _, hm, h =>
    have h : post (nI (if ep_J K 0 w = true then 0 else 1)) := h
    refine br_f (by decide) (br_f (by decide) (br_f (by decide) (br_f (by decide) (br_f (by decide) (br_t (by decide) (ep_xin (i := 0) rfl (by decide) hw (fun hb => br_f (by decide) ?_) (fun hb => br_t rfl ?_)))))))
    · rw [if_pos hb] at h; exact h
    · rw [if_neg hb] at h; exact h
  | 4, _, hm, h =>
    have hm : m < 2 := hm
    have h : post (nI (if ep_bC (ep_J K) 0 m w = true then 2 else 1)) := h
    refine br_f (by decide) (br_f (by decide) (br_f (by decide) (br_f (by decide) (br_f (by decide) (br_f (by decide) (br_t (by decide) (ep_xbC (fi := 0) rfl rfl hm (by decide) hw (fun hb => br_f (by decide) ?_) (fun hb => br_t rfl ?_))))))))
    · rw [if_pos hb] at h; exact h
    · rw [if_neg hb] at h; exact h
  | 5, _, hm, h =>
    have hm : m < 4 := hm
    have h : post (nI (if ep_bC (ep_J K) 2 (m / 2) w = true then 2 else if ep_bC (ep_J K) 0 (m % 2) w = true then 1 else 0)) := h
    refine br_f (by decide) (br_f (by decide) (br_f (by decide) (br_f (by decide) (br_f (by decide) (br_f (by decide) (br_f (by decide) (br_t (by decide)
      (ep_xbC (fi := 2) rfl (ep_d2 m hm) (by omega) (by decide) hw (fun hb => br_f (by decide) ?_) (fun hb => br_t rfl
      (ep_xbC (fi := 0) rfl (ep_m2 m hm) (by omega) (by decide) hw (fun hb2 => br_f (by decide) ?_) (fun hb2 => br_t rfl ?_)))))))))))
    · rw [if_pos hb] at h; exact h
    · rw [if_neg hb, if_pos hb2] at h; exact h
    · rw [if_neg hb, if_neg hb2] at h; exact h
  | 6, _, hm, h =>
    have hm : m < 2 := hm
    have h : post (nI (1 + ep_pR (ep_J K) 0 m w)) := h
    refine br_f (by decide) (br_f (by decide) (br_f (by decide) (br_f (by decide) (br_f (by decide) (br_f (by decide) (br_f (by decide) (br_f (by decide) (br_t (by decide) (ep_xpR (an := 0) rfl (by decide) hm hw ?_)))))))))
    have e : (1 : Int32) + nI (ep_pR (ep_J K) 0 m w) = nI (1 + ep_pR (ep_J K) 0 m w) := nI_add 1 _
    rw [e]; exact h
  | 7, _, hm, h =>
    have hm : m < 2 := hm
    exact br_f (by decide) (br_f (by decide) (br_f (by decide) (br_f (by decide) (br_f (by decide) (br_f (by decide) (br_f (by decide) (br_f (by decide) (br_f (by decide) (br_t (by decide) (ep_xpR (an := 1) rfl (by decide) hm hw h))))))))))
  | 8, _, hm, h =>
    have hm : m < 3 := hm
    have h : post (nI (if ep_nU (ep_J K) m w = 1 then 0 else 1)) := h
    refine br_f (by decide) (br_t (by decide) (ep_xnU (by omega) hw ?_))
    have hl : ep_nU (ep_J K) m w < 2 ^ 31 := by
      unfold ep_nU
      split
      · omega
      · split
        · omega
        · split <;> omega
    by_cases e : ep_nU (ep_J K) m w = 1
    · rw [if_pos e] at h; exact br_t ((ep_nI1 hl).2 e) h
    · rw [if_neg e] at h; exact br_f (fun hx => e ((ep_nI1 hl).1 hx)) h
theorem ep_nA_2 (J : Nat → Nat → Bool) (fi : Nat) {m : Nat} (hm : m < 2) (w : Nat) : ep_nA J fi m w < 2 := by
  unfold ep_nA; split <;> omega
theorem ep_xnext {fc fm : Int32} {ow E K ma : Nat → Int32} {sr : Nat → Int64} {g m w : Nat} (hg : g < 9) (hm : m < ep_Mg g) (hw : w < 10) {post : Int32 → Prop}
    (h : post (nI (ep_nm (ep_J K) g m w))) : wpX_nextMemory post (fc, fm, ow, E, K, ma, sr) (nI g) (nI m) (nI w) := by
  match g, hg, hm, h with
  | 0, _, hm, h =>
    have hm : m < 2 := hm
    have h : post (nI (if m = 1 ∨ ep_J K 0 w = true then 1 else 0)) := h
    refine br_f (by decide) (br_f (by decide) (br_t (by decide) ?_))
    by_cases e : m = 1
    · subst e; rw [if_pos (Or.inl rfl)] at h; exact br_t rfl h
    · refine br_f (fun hx => e ((ep_nI1 (by omega)).1 hx)) (ep_xin (i := 0) rfl (by decide) hw (fun hb => br_f (by decide) ?_) (fun hb => br_t rfl ?_))
      · rw [if_pos (Or.inr hb)] at h; exact h
      · rw [if_neg (fun y => y.elim e hb)] at h; exact h
  | 1, _, hm, h =>
    have hm : m < 2 := hm
    have h : post (nI (if m = 1 ∨ ¬ ep_J K 0 w = true then 1 else 0)) := h
    refine br_f (by decide) (br_f (by decide) (br_f (by decide) (br_t (by decide) ?_)))
    by_cases e : m = 1
    · subst e; rw [if_pos (Or.inl rfl)] at h; exact br_t rfl h
    · refine br_f (fun hx => e ((ep_nI1 (by omega)).1 hx)) (ep_xin (i := 0) rfl (by decide) hw (fun hb => br_f (by decide) ?_) (fun hb => br_t rfl ?_))
      · rw [if_neg (fun y => y.elim e (fun z => z hb))] at h; exact h
      · rw [if_pos (Or.inr hb)] at h; exact h
  | 2, _, hm, h => exact br_f (by decide) (br_f (by decide) (br_f (by decide) (br_f (by decide) (br_t (by decide) h))))
  | 3, _, hm, h => exact br_f (by decide) (br_f (by decide) (br_f (by decide) (br_f (by decide) (br_f (by decide) (br_t (by decide) h)))))
  | 4, _, hm, h => exact br_f (by decide) (br_f (by decide) (br_f (by decide) (br_f (by decide) (br_f (by decide) (br_f (by decide) (br_t (by decide) (ep_xnA (fi := 0) rfl rfl hm (by have hm : m < 2 := hm; omega) hw h)))))))
  | 5, _, hm, h =>
    have hm : m < 4 := hm
    refine br_f (by decide) (br_f (by decide) (br_f (by decide) (br_f (by decide) (br_f (by decide) (br_f (by decide) (br_f (by decide) (br_t (by decide)
      (ep_xnA (fi := 0) rfl (ep_m2 m hm) (by omega) (by omega) hw (ep_xnA (fi := 2) rfl (ep_d2 m hm) (by omega) (by omega) hw ?_)))))))))
    rw [ep_a2b _ (ep_nA_2 _ _ (by omega) _) _ (ep_nA_2 _ _ (by omega) _)]
    exact h
  | 6, _, hm, h => exact br_f (by decide) (br_f (by decide) (br_f (by decide) (br_f (by decide) (br_f (by decide) (br_f (by decide) (br_f (by decide) (br_f (by decide) (br_t (by decide) (ep_xnF (an := 0) rfl (by decide) hm hw h)))))))))
  | 7, _, hm, h => exact br_f (by decide) (br_f (by decide) (br_f (by decide) (br_f (by decide) (br_f (by decide) (br_f (by decide) (br_f (by decide) (br_f (by decide) (br_f (by decide) (br_t (by decide) (ep_xnF (an := 1) rfl (by decide) hm hw h))))))))))
  | 8, _, hm, h => exact br_f (by decide) (br_f (by decide) (br_f (by decide) (br_f (by decide) (br_f (by decide) (br_f (by decide) (br_f (by decide) (br_f (by decide) (br_f (by decide) (br_f (by decide) (br_t (by decide) (ep_xnU (by have hm : m < 3 := hm; omega) hw h)))))))))))
theorem ep_xmem {u : SX} {g : Nat} (hg : g < 9) {post : Int32 → Prop} (h : post (nI (ep_Mg g))) : wpX_memoriesOf post u (nI g) := by
  match g, hg, h with
  | 0, _, h => exact br_t (by decide) h
  | 1, _, h => exact br_t (by decide) h
  | 2, _, h => exact br_f (by decide) (br_f (by decide) (br_t (by decide) h))
  | 3, _, h => exact br_f (by decide) (br_f (by decide) (br_f (by decide) (br_t (by decide) h)))
  | 4, _, h => exact br_f (by decide) (br_f (by decide) (br_f (by decide) (br_f (by decide) (br_t (by decide) h))))
  | 5, _, h => exact br_f (by decide) (br_f (by decide) (br_f (by decide) (br_f (by decide) (br_f (by decide) (br_t (by decide) h)))))
  | 6, _, h => exact br_f (by decide) (br_f (by decide) (br_f (by decide) (br_f (by decide) (br_f (by decide) (br_f (by decide) (br_t (by decide) h))))))
  | 7, _, h => exact br_f (by decide) (br_f (by decide) (br_f (by decide) (br_f (by decide) (br_f (by decide) (br_f (by decide) (br_f (by decide) (br_t (by decide) h)))))))
  | 8, _, h => exact br_f (by decide) (br_f (by decide) (br_f (by decide) (br_f (by decide) (br_f (by decide) (br_f (by decide) (br_f (by decide) (br_f (by decide) (br_t (by decide) h))))))))
/-- whether player 0 forces the target, one move ahead -/
theorem ep_xcan {c : Nat} {fm : Int32} {ow E K ma : Nat → Int32} {sr : Nat → Int64} (hG : ep_G c ow E K) {v : Nat} (hv : v < c) {S : Nat → Prop} {y : Int32} (ey : y = ep_I S) {post : Int32 → Prop}
    (h1 : ep_fr c ow E 0 S v → post 1) (h0 : ¬ ep_fr c ow E 0 S v → post 0) : wpX_canForce post (nI c, fm, ow, E, K, ma, sr) (nI v) y := by
  subst ey
  have hc := hG.1
  have ec : (nI v).toNatClampNeg = v := nI_clamp (by omega)
  have hx : ∀ w, bt (E v) w = true → w < 10 := fun w hw => by have := hG.2.2.1 v (by omega) w hw; omega
  have hin : vp_in (nI v) 10 := vp_in_nI (by omega) (by omega)
  have c1 := ep_e1 hx S
  have c3 := ep_e3 hx S
  refine ⟨hin, nm_e ⟨hin, ?_⟩⟩
  rw [ec]
  by_cases ho : ow v = 0
  · refine br_t ho ?_
    by_cases he : E v &&& ep_I S = 0
    · exact br_t he (h0 fun q => q.2.elim (fun z => c1.1 he z.2) (fun z => z.1 ho))
    · exact br_f he (h1 ⟨hv, Or.inl ⟨ho, Classical.byContradiction fun hn => he (c1.2 hn)⟩⟩)
  · refine br_f ho ⟨hin, ?_⟩
    by_cases he : E v &&& ep_I S = E v
    · exact br_t he (h1 ⟨hv, Or.inr ⟨ho, c3.1 he⟩⟩)
    · exact br_f he (h0 fun q => q.2.elim (fun z => ho z.1) (fun z => he (c3.2 z.2)))
theorem ep_xforce {c : Nat} {fm : Int32} {ow E K ma : Nat → Int32} {sr : Nat → Int64} (hG : ep_G c ow E K) {S : Nat → Prop} {x : Int32} (ex : x = ep_I S) {post : Int32 → Prop}
    (h : post (ep_I (ep_fr c ow E 0 S))) : wpX_positionsForcing post (nI c, fm, ow, E, K, ma, sr) x := by
  subst ex
  have hc := hG.1
  have key : ∀ d j, j + d = c → wX_positionsForcing_4 post (ep_I S) (nI c) fm ow E K ma sr (d + 1) (ep_sI (ep_fr c ow E 0 S) j) (nI j) := by
    intro d
    induction d with
    | zero =>
      intro j hj
      have e : j = c := by omega
      subst e
      refine br_t (nI_le (Nat.le_refl j) (by omega)) ?_
      rw [ep_sI_c hc (fun v x => x.1)]
      exact h
    | succ d ih =>
      intro j hj
      have ih := ih (j + 1) (by omega)
      refine br_f (ep_nIc (by omega) (by omega)) (ep_xcan hG (by omega) rfl (fun hf => br_f (by decide) (nm_r (ep_sI_t hf).symm (nm_r (nI_1 j) ih))) (fun hf => br_t rfl (nm_r (nI_1 j) ?_)))
      rw [← ep_sI_f hf]
      exact ih
  exact ⟨c + 1, key c 0 (by omega)⟩
