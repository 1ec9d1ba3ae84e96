/-! the relation, and the calls that look at no goal -/
def i_Rel (k : Nat) (u : SX) (v : SY) : Prop :=
  ∃ (c : Nat) (fm : Int32) (ow E K ma : Nat → Int32) (sr : Nat → Int64) (ff : Int32) (gr rd : Nat → Int32), ep_G c ow E K ∧ u = (nI c, fm, ow, E, K, ma, sr) ∧ v = (nI c, ff, ow, E, K, gr, rd) ∧ k = k
theorem i_up {k : Nat} {u : SX} {v : SY} (h : i_Rel k u v) : i_Rel (k + 3) u v := by
  obtain ⟨c, fm, ow, E, K, ma, sr, ff, gr, rd, hG, eu, ev, _⟩ := h
  exact ⟨c, fm, ow, E, K, ma, sr, ff, gr, rd, hG, eu, ev, rfl⟩
theorem ep_rel {k c : Nat} {fm : Int32} {ow E K ma : Nat → Int32} {sr : Nat → Int64} {ff : Int32} {gr rd : Nat → Int32} (hG : ep_G c ow E K) :
    i_Rel k (nI c, fm, ow, E, K, ma, sr) (nI c, ff, ow, E, K, gr, rd) := ⟨c, fm, ow, E, K, ma, sr, ff, gr, rd, hG, rfl, rfl, rfl⟩
theorem ep_z0 (w : Nat) : ¬ bt 0 w = true := by rw [b_0]; exact fun z => nomatch z
theorem i_vc0 : wpX_init (fun u => wpY_init (fun v => i_Rel 0 u v)) :=
  ep_rel (c := 0) ⟨by decide, fun _ _ => Or.inl rfl, fun _ _ w h => absurd h (ep_z0 w), fun _ _ w h => absurd h (ep_z0 w)⟩
theorem ep_ix (x : Int32) {n : Nat} (hn : n < 2 ^ 31) : x < 0 ∨ (¬ x < 0 ∧ nI n ≤ x) ∨ ∃ j : Nat, j < n ∧ x = nI j := by
  by_cases h0 : x < 0
  · exact Or.inl h0
  · by_cases h1 : nI n ≤ x
    · exact Or.inr (Or.inl ⟨h0, h1⟩)
    · obtain ⟨j, hj, e⟩ := nI_of h0
      subst e
      refine Or.inr (Or.inr ⟨j, ?_, rfl⟩)
      rw [nI_leI hn hj] at h1
      omega
theorem ep_n0 {j : Nat} (hj : j < 2 ^ 31) : ¬ nI j < 0 := nI_pos hj
theorem ep_xp_no {c : Nat} {fm : Int32} {ow E K ma : Nat → Int32} {sr : Nat → Int64} {x : Int32} (h : x < 0 ∨ (¬ x < 0 ∧ nI c ≤ x)) {post : Int32 → Prop} (hp : post 0) :
    wpX_isPosition post (nI c, fm, ow, E, K, ma, sr) x := by
  rcases h with h | h
  · exact br_t h hp
  · exact br_f h.1 (br_t h.2 hp)
theorem ep_xp_yes {c : Nat} {fm : Int32} {ow E K ma : Nat → Int32} {sr : Nat → Int64} {j : Nat} (hc : c ≤ 10) (h : j < c) {post : Int32 → Prop} (hp : post 1) :
    wpX_isPosition post (nI c, fm, ow, E, K, ma, sr) (nI j) := br_f (ep_n0 (by omega)) (br_f (ep_nIc h (by omega)) hp)
theorem ep_yp_no {c : Nat} {ff : Int32} {ow E K gr rd : Nat → Int32} {x : Int32} (h : x < 0 ∨ (¬ x < 0 ∧ nI c ≤ x)) {post : Int32 → Prop} (hp : post 0) :
    wpY_isPosition post (nI c, ff, ow, E, K, gr, rd) x := by
  rcases h with h | h
  · exact br_t h hp
  · exact br_f h.1 (br_t h.2 hp)
theorem ep_yp_yes {c : Nat} {ff : Int32} {ow E K gr rd : Nat → Int32} {j : Nat} (hc : c ≤ 10) (h : j < c) {post : Int32 → Prop} (hp : post 1) :
    wpY_isPosition post (nI c, ff, ow, E, K, gr, rd) (nI j) := br_f (ep_n0 (by omega)) (br_f (ep_nIc h (by omega)) hp)
theorem ep_xg_no {c : Nat} {fm : Int32} {ow E K ma : Nat → Int32} {sr : Nat → Int64} {x : Int32} (h : x < 0 ∨ (¬ x < 0 ∧ nI 9 ≤ x)) {post : Int32 → Prop} (hp : post 0) :
    wpX_isGoal post (nI c, fm, ow, E, K, ma, sr) x := by
  rcases h with h | h
  · exact br_t h hp
  · exact br_f h.1 (br_t h.2 hp)
theorem ep_xg_yes {c : Nat} {fm : Int32} {ow E K ma : Nat → Int32} {sr : Nat → Int64} {j : Nat} (h : j < 9) {post : Int32 → Prop} (hp : post 1) :
    wpX_isGoal post (nI c, fm, ow, E, K, ma, sr) (nI j) := br_f (ep_n0 (by omega)) (br_f (ep_nIc (a := 9) h (by omega)) hp)
theorem ep_lt_le {x : Int32} {a : Nat} (ha : a + 1 < 2 ^ 31) (h0 : ¬ x < 0) : nI a < x ↔ nI (a + 1) ≤ x := by
  obtain ⟨j, hj, e⟩ := nI_of h0
  subst e
  rw [nI_ltI (by omega) hj, nI_leI ha hj]
  omega
theorem ep_yg_no {c : Nat} {ff : Int32} {ow E K gr rd : Nat → Int32} {x : Int32} (h : x < 0 ∨ (¬ x < 0 ∧ nI 9 ≤ x)) {post : Int32 → Prop} (hp : post 0) :
    wpY_isGoal post (nI c, ff, ow, E, K, gr, rd) x := by
  rcases h with h | h
  · exact br_t h hp
  · exact br_f h.1 (br_t ((ep_lt_le (a := 8) (by decide) h.1).2 h.2) hp)
theorem ep_yg_yes {c : Nat} {ff : Int32} {ow E K gr rd : Nat → Int32} {j : Nat} (h : j < 9) {post : Int32 → Prop} (hp : post 1) :
    wpY_isGoal post (nI c, ff, ow, E, K, gr, rd) (nI j) :=
  br_f (ep_n0 (by omega)) (br_f (fun z => ep_nIc (a := 9) h (by omega) ((ep_lt_le (a := 8) (by decide) (ep_n0 (by omega))).1 z)) hp)
theorem i_vc_positions {k : Nat} {u : SX} {v : SY} (I : i_Rel k u v) (hk : k + 3 ≤ 1536) : wpX_positions (fun r => wpY_positions (fun r' => r' = r ∧ i_Rel (k + 3) u v) v) u := by
  obtain ⟨c, fm, ow, E, K, ma, sr, ff, gr, rd, hG, rfl, rfl, _⟩ := I
  exact ⟨rfl, ep_rel hG⟩
theorem ep_G_pos {c : Nat} {ow E K : Nat → Int32} (hG : ep_G c ow E K) (hc : c < 10) {x : Int32} (hx : x = 0 ∨ x = 1) : ep_G (c + 1) (upd ow c x) (upd E c 0) K := by
  refine ⟨by omega, fun v hv => ?_, fun v hv w hw => ?_, fun s hs w hw => ?_⟩
  · by_cases e : v = c
    · subst e; rw [ep_us]; exact hx
    · rw [ep_un e]; exact hG.2.1 v hv
  · by_cases e : v = c
    · subst e; rw [ep_us] at hw; exact absurd hw (ep_z0 w)
    · rw [ep_un e] at hw; have := hG.2.2.1 v hv w hw; omega
  · have := hG.2.2.2 s hs w hw; omega
theorem ep_vpos {k c : Nat} {fm : Int32} {ow E K ma : Nat → Int32} {sr : Nat → Int64} {ff : Int32} {gr rd : Nat → Int32} (hG : ep_G c ow E K) {x : Int32} (hx : x = 0 ∨ x = 1)
    {post2 : Int32 → Int32 → SX → SY → Prop} (h : ∀ r u v, i_Rel k u v → post2 r r u v) :
    wX_position_11 (fun r u' => wY_position_11 (fun r' v' => post2 r' r u' v') x (nI c) ff ow E K gr rd) x (nI c) fm ow E K ma sr := by
  have hc := hG.1
  by_cases e : c = 10
  · subst e
    exact br_f (nI_nlt (a := 10) (b := 10) (by omega) (by omega)) (br_t rfl (h _ _ _ (ep_rel hG)))
  · have hlt : nI c < 10 := nI_lt (b := 10) (by omega) (by omega)
    have hne : ¬ nI c = 10 := fun z => e ((nI_eq (b := 10) (by omega) (by omega)).1 z)
    have hin : vp_in (nI c) 10 := vp_in_nI (by omega) (by omega)
    have ec : (nI c).toNatClampNeg = c := nI_clamp (by omega)
    have hG2 := ep_G_pos hG (by omega) hx
    refine br_t hlt ⟨hin, ?_⟩
    rw [ec]
    refine nm_e ⟨hin, nm_e (nm_r (nI_1 c) (br_f hne ⟨hin, ?_⟩))⟩
    rw [ec]
    exact nm_e ⟨hin, nm_e (nm_r (nI_1 c) (h _ _ _ (ep_rel hG2)))⟩
theorem i_vc_position {k : Nat} {u : SX} {v : SY} (I : i_Rel k u v) (hk : k + 3 ≤ 1536) (v1 : Int32) : wpX_position (fun r u' => wpY_position (fun r' v' => r' = r ∧ i_Rel (k + 3) u' v') v v1) u v1 := by
  obtain ⟨c, fm, ow, E, K, ma, sr, ff, gr, rd, hG, rfl, rfl, _⟩ := I
  by_cases e0 : v1 = 0
  · subst e0
    have h := ep_vpos (k := k + 3) (fm := fm) (ma := ma) (sr := sr) (ff := ff) (gr := gr) (rd := rd) hG (x := 0) (Or.inl rfl) (post2 := fun r' r u' v' => r' = r ∧ i_Rel (k + 3) u' v') (fun r u v hR => ⟨rfl, hR⟩)
    unfold wX_position_11 at h
    refine br_t rfl ?_
    unfold wX_position_11
    exact ⟨fun z => by
      refine ⟨(h.1 z).1, fun a ea => ⟨((h.1 z).2 a ea).1, fun b eb f ef => br_t rfl (((h.1 z).2 a ea).2 b eb f ef)⟩⟩, fun z => br_t rfl (h.2 z)⟩
  · by_cases e1 : v1 = 1
    · subst e1
      have h := ep_vpos (k := k + 3) (fm := fm) (ma := ma) (sr := sr) (ff := ff) (gr := gr) (rd := rd) hG (x := 1) (Or.inr rfl) (post2 := fun r' r u' v' => r' = r ∧ i_Rel (k + 3) u' v') (fun r u v hR => ⟨rfl, hR⟩)
      unfold wX_position_11 at h
      refine br_f e0 (br_t rfl ?_)
      unfold wX_position_11
      exact ⟨fun z => by
        refine ⟨(h.1 z).1, fun a ea => ⟨((h.1 z).2 a ea).1, fun b eb f ef => br_f e0 (br_t rfl (((h.1 z).2 a ea).2 b eb f ef))⟩⟩, fun z => br_f e0 (br_t rfl (h.2 z))⟩
    · exact br_f e0 (br_f e1 (br_f e0 (br_f e1 ⟨rfl, ep_rel hG⟩)))
/-- the arrays after a mask has been laid over the first j -/
def ep_mk (E : Nat → Int32) (x : Int32) (j : Nat) : Nat → Int32 := fun v => if v < j then E v &&& x else E v
theorem ep_mk_s (E : Nat → Int32) (x : Int32) (j : Nat) : upd (ep_mk E x j) j (ep_mk E x j j &&& x) = ep_mk E x (j + 1) := by
  funext v
  by_cases e : v = j
  · subst e
    rw [ep_us]
    show (if v < v then E v &&& x else E v) &&& x = if v < v + 1 then E v &&& x else E v
    rw [if_neg (Nat.lt_irrefl v), if_pos (Nat.lt_succ_self v)]
  · rw [ep_un e]
    show (if v < j then E v &&& x else E v) = if v < j + 1 then E v &&& x else E v
    by_cases h : v < j
    · rw [if_pos h, if_pos (by omega)]
    · rw [if_neg h, if_neg (by omega)]
theorem ep_mk_0 (E : Nat → Int32) (x : Int32) : ep_mk E x 0 = E := funext fun v => if_neg (Nat.not_lt_zero v)
theorem ep_xdrop {c : Nat} {fm x : Int32} {ow E K ma : Nat → Int32} {sr : Nat → Int64} {post : Int32 → SX → Prop}
    (h : post (nI c) (nI c, fm, ow, ep_mk E x 10, ep_mk K x 4, ma, sr)) : ∃ n, wX_drop_31 post x (nI c) fm n 0 ow E K ma sr := by
  have second : ∀ d j, j + d = 4 → wX_drop_55 post x (nI c) fm (d + 1) (nI j) ow (ep_mk E x 10) (ep_mk K x j) ma sr := by
    intro d
    induction d with
    | zero =>
      intro j hj
      have e : j = 4 := by omega
      subst e
      exact br_t (nI_le (a := 4) (b := 4) (by omega) (by omega)) h
    | succ d ih =>
      intro j hj
      have ec : (nI j).toNatClampNeg = j := nI_clamp (by omega)
      have hin : vp_in (nI j) 4 := vp_in_nI (by omega) (by omega)
      refine br_f (nI_ge (b := 4) (by omega) (by omega)) ⟨hin, hin, ?_⟩
      rw [ec]
      exact nm_r (ep_mk_s K x j) (nm_r (nI_1 j) (ih (j + 1) (by omega)))
  have first : ∀ d j, j + d = 10 → wX_drop_31 post x (nI c) fm (d + 1) (nI j) ow (ep_mk E x j) K ma sr := by
    intro d
    induction d with
    | zero =>
      intro j hj
      have e : j = 10 := by omega
      subst e
      have h2 := second 4 0 (by omega)
      rw [ep_mk_0] at h2
      exact br_t (nI_le (a := 10) (b := 10) (by omega) (by omega)) ⟨_, h2⟩
    | succ d ih =>
      intro j hj
      have ec : (nI j).toNatClampNeg = j := nI_clamp (by omega)
      have hin : vp_in (nI j) 10 := vp_in_nI (by omega) (by omega)
      refine br_f (nI_ge (b := 10) (by omega) (by omega)) ⟨hin, hin, ?_⟩
      rw [ec]
      exact nm_r (ep_mk_s E x j) (nm_r (nI_1 j) (ih (j + 1) (by omega)))
  have h1 := first 10 0 (by omega)
  rw [ep_mk_0] at h1
  exact ⟨_, h1⟩
theorem ep_ydrop {c : Nat} {ff : Int32} {ow E K gr rd : Nat → Int32} {post : Int32 → SY → Prop}
    (h : post (nI c) (nI c, ff, ow, ep_mk E (((1 : Int32) <<< (nI c &&& 31)) ^^^ (-1)) 10, ep_mk K (((1 : Int32) <<< (nI c &&& 31)) ^^^ (-1)) 4, gr, rd)) : ∃ n, wY_drop_22 post (nI c) ff n 0 ow E K gr rd := by
  obtain ⟨x, ex⟩ : ∃ x : Int32, x = ((1 : Int32) <<< (nI c &&& 31)) ^^^ (-1) := ⟨_, rfl⟩
  rw [← ex] at h
  have second : ∀ d j, j + d = 4 → wY_drop_57 post (nI c) ff (d + 1) (nI j) ow (ep_mk E x 10) (ep_mk K x j) gr rd := by
    intro d
    induction d with
    | zero =>
      intro j hj
      have e : j = 4 := by omega
      subst e
      exact br_t (nI_le (a := 4) (b := 4) (by omega) (by omega)) h
    | succ d ih =>
      intro j hj
      have ec : (nI j).toNatClampNeg = j := nI_clamp (by omega)
      have hin : vp_in (nI j) 4 := vp_in_nI (by omega) (by omega)
      refine br_f (nI_ge (b := 4) (by omega) (by omega)) ⟨hin, hin, ?_⟩
      rw [ec, ← ex]
      exact nm_r (ep_mk_s K x j) (nm_r (nI_1 j) (ih (j + 1) (by omega)))
  have first : ∀ d j, j + d = 10 → wY_drop_22 post (nI c) ff (d + 1) (nI j) ow (ep_mk E x j) K gr rd := by
    intro d
    induction d with
    | zero =>
      intro j hj
      have e : j = 10 := by omega
      subst e
      have h2 := second 4 0 (by omega)
      rw [ep_mk_0] at h2
      exact br_t (nI_le (a := 10) (b := 10) (by omega) (by omega)) ⟨_, h2⟩
    | succ d ih =>
      intro j hj
      have ec : (nI j).toNatClampNeg = j := nI_clamp (by omega)
      have hin : vp_in (nI j) 10 := vp_in_nI (by omega) (by omega)
      refine br_f (nI_ge (b := 10) (by omega) (by omega)) ⟨hin, hin, ?_⟩
      rw [ec, ← ex]
      exact nm_r (ep_mk_s E x j) (nm_r (nI_1 j) (ih (j + 1) (by omega)))
  have h1 := first 10 0 (by omega)
  rw [ep_mk_0] at h1
  exact ⟨_, h1⟩
theorem ep_msk {c : Nat} (hc : c < 32) {x : Int32} {i : Nat} (h : bt (x &&& (((1 : Int32) <<< (nI c &&& 31)) ^^^ (-1))) i = true) : bt x i = true ∧ i ≠ c := by
  rw [b_and, Bool.and_eq_true] at h
  refine ⟨h.1, fun e => ?_⟩
  subst e
  have h2 := h.2
  rw [ep_bnot _ hc, ep_bone hc, decide_eq_true rfl] at h2
  exact nomatch h2
theorem ep_G_drop {c : Nat} {ow E K : Nat → Int32} (hG : ep_G (c + 1) ow E K) :
    ep_G c ow (ep_mk E (((1 : Int32) <<< (nI c &&& 31)) ^^^ (-1)) 10) (ep_mk K (((1 : Int32) <<< (nI c &&& 31)) ^^^ (-1)) 4) := by
  have hc := hG.1
  refine ⟨by omega, hG.2.1, fun v hv w hw => ?_, fun s hs w hw => ?_⟩
  · unfold ep_mk at hw
    rw [if_pos hv] at hw
    have h1 := ep_msk (by omega) hw
    have := hG.2.2.1 v hv w h1.1
    omega
  · unfold ep_mk at hw
    rw [if_pos hs] at hw
    have h1 := ep_msk (by omega) hw
    have := hG.2.2.2 s hs w h1.1
    omega
theorem i_vc_drop {k : Nat} {u : SX} {v : SY} (I : i_Rel k u v) (hk : k + 3 ≤ 1536) : wpX_drop (fun r u' => wpY_drop (fun r' v' => r' = r ∧ i_Rel (k + 3) u' v') v) u := by
  obtain ⟨c, fm, ow, E, K, ma, sr, ff, gr, rd, hG, rfl, rfl, _⟩ := I
  match c, hG with
  | 0, hG => exact br_f (by decide) (br_t rfl ⟨rfl, ep_rel hG⟩)
  | c + 1, hG =>
    have hc := hG.1
    refine br_t (nI_lt (a := 0) (by omega) (by omega)) (nm_r (nI_pred c) (nm_e (ep_xdrop ?_)))
    exact br_f (nI_ne0 (by omega) (by omega)) (nm_r (nI_pred c) (ep_ydrop ⟨rfl, ep_rel (ep_G_drop hG)⟩))
theorem ep_txor {c w : Nat} (hc : c ≤ 10) (hw : w < c) {x : Int32} (hx : ∀ i, bt x i = true → i < c) (i : Nat) (h : bt (x ^^^ ((1 : Int32) <<< (nI w &&& 31))) i = true) : i < c := by
  rw [b_xor, ep_bone (by omega)] at h
  by_cases e : i = w
  · omega
  · rw [decide_eq_false e, Bool.xor_false] at h
    exact hx i h
theorem ep_G_move {c v w : Nat} {ow E K : Nat → Int32} (hG : ep_G c ow E K) (hw : w < c) : ep_G c ow (upd E v (E v ^^^ ((1 : Int32) <<< (nI w &&& 31)))) K := by
  refine ⟨hG.1, hG.2.1, fun a ha i hi => ?_, hG.2.2.2⟩
  by_cases e : a = v
  · subst e
    rw [ep_us] at hi
    exact ep_txor hG.1 hw (hG.2.2.1 a ha) i hi
  · rw [ep_un e] at hi
    exact hG.2.2.1 a ha i hi
theorem ep_G_put {c s w : Nat} {ow E K : Nat → Int32} (hG : ep_G c ow E K) (hw : w < c) : ep_G c ow E (upd K s (K s ^^^ ((1 : Int32) <<< (nI w &&& 31)))) := by
  refine ⟨hG.1, hG.2.1, hG.2.2.1, fun a ha i hi => ?_⟩
  by_cases e : a = s
  · subst e
    rw [ep_us] at hi
    exact ep_txor hG.1 hw (hG.2.2.2 a ha) i hi
  · rw [ep_un e] at hi
    exact hG.2.2.2 a ha i hi
theorem ep_G_turn {c v : Nat} {ow E K : Nat → Int32} (hG : ep_G c ow E K) (hv : v < 10) : ep_G c (upd ow v (1 - ow v)) E K := by
  refine ⟨hG.1, fun a ha => ?_, hG.2.2.1, hG.2.2.2⟩
  by_cases e : a = v
  · subst e
    rw [ep_us]
    rcases hG.2.1 a hv with h | h
    · rw [h]; exact Or.inr (by decide)
    · rw [h]; exact Or.inl (by decide)
  · rw [ep_un e]
    exact hG.2.1 a ha
theorem ep_no {P : Prop} {x : Int32} {n : Nat} (hn : n < 2 ^ 31) (no : (x < 0 ∨ (¬ x < 0 ∧ nI n ≤ x)) → P) (yes : ∀ j, j < n → x = nI j → P) : P := by
  rcases ep_ix x hn with h | h | ⟨j, hj, e⟩
  · exact no (Or.inl h)
  · exact no (Or.inr h)
  · exact yes j hj e
theorem i_vc_move {k : Nat} {u : SX} {v : SY} (I : i_Rel k u v) (hk : k + 3 ≤ 1536) (v1 : Int32) (v2 : Int32) : wpX_move (fun r u' => wpY_move (fun r' v' => r' = r ∧ i_Rel (k + 3) u' v') v v1 v2) u v1 v2 := by
  obtain ⟨c, fm, ow, E, K, ma, sr, ff, gr, rd, hG, rfl, rfl, _⟩ := I
  have hc := hG.1
  unfold wpX_move wpY_move
  dsimp only
  refine ep_no (x := v1) (n := c) (by omega) (fun h => ?_) (fun j hj e => ?_)
  · exact ep_xp_no h (br_t rfl (ep_yp_no h (br_t rfl ⟨rfl, ep_rel hG⟩)))
  · subst e
    refine ep_xp_yes hc hj (br_f (by decide) ?_)
    refine ep_no (x := v2) (n := c) (by omega) (fun h => ?_) (fun w hw e => ?_)
    · exact ep_xp_no h (br_t rfl (ep_yp_yes hc hj (br_f (by decide) (ep_yp_no h (br_t rfl ⟨rfl, ep_rel hG⟩)))))
    · subst e
      have hin : vp_in (nI j) 10 := vp_in_nI (by omega) (by omega)
      have ec : (nI j).toNatClampNeg = j := nI_clamp (by omega)
      refine ep_xp_yes hc hw (br_f (by decide) ⟨hin, hin, ?_⟩)
      rw [ec]
      refine nm_e ⟨hin, ep_yp_yes hc hj (br_f (by decide) (ep_yp_yes hc hw (br_f (by decide) ⟨hin, hin, ?_⟩)))⟩
      exact nm_e ⟨hin, rfl, ep_rel (ep_G_move hG hw)⟩
theorem i_vc_turn {k : Nat} {u : SX} {v : SY} (I : i_Rel k u v) (hk : k + 3 ≤ 1536) (v1 : Int32) : wpX_turn (fun r u' => wpY_turn (fun r' v' => r' = r ∧ i_Rel (k + 3) u' v') v v1) u v1 := by
  obtain ⟨c, fm, ow, E, K, ma, sr, ff, gr, rd, hG, rfl, rfl, _⟩ := I
  have hc := hG.1
  unfold wpX_turn wpY_turn
  dsimp only
  refine ep_no (x := v1) (n := c) (by omega) (fun h => ?_) (fun j hj e => ?_)
  · exact ep_xp_no h (br_t rfl (ep_yp_no h (br_t rfl ⟨rfl, ep_rel hG⟩)))
  · subst e
    have hin : vp_in (nI j) 10 := vp_in_nI (by omega) (by omega)
    have ec : (nI j).toNatClampNeg = j := nI_clamp (by omega)
    refine ep_xp_yes hc hj (br_f (by decide) ⟨hin, hin, ?_⟩)
    rw [ec]
    refine nm_e ⟨hin, ep_yp_yes hc hj (br_f (by decide) ⟨hin, hin, ?_⟩)⟩
    exact nm_e ⟨hin, rfl, ep_rel (ep_G_turn hG (by omega))⟩
theorem i_vc_put {k : Nat} {u : SX} {v : SY} (I : i_Rel k u v) (hk : k + 3 ≤ 1536) (v1 : Int32) (v2 : Int32) : wpX_put (fun r u' => wpY_put (fun r' v' => r' = r ∧ i_Rel (k + 3) u' v') v v1 v2) u v1 v2 := by
  obtain ⟨c, fm, ow, E, K, ma, sr, ff, gr, rd, hG, rfl, rfl, _⟩ := I
  have hc := hG.1
  rcases ep_ix v1 (n := 4) (by omega) with h | h | ⟨s, hs, e⟩
  · exact br_t h (br_t h ⟨rfl, ep_rel hG⟩)
  · exact br_f h.1 (br_t h.2 (br_f h.1 (br_t ((ep_lt_le (a := 3) (by decide) h.1).2 h.2) ⟨rfl, ep_rel hG⟩)))
  · subst e
    have n0 : ¬ nI s < 0 := ep_n0 (by omega)
    have n4 : ¬ (4 : Int32) ≤ nI s := ep_nIc (a := 4) hs (by omega)
    have n3 : ¬ (3 : Int32) < nI s := fun z => n4 ((ep_lt_le (a := 3) (by decide) n0).1 z)
    refine br_f n0 (br_f n4 ?_)
    refine ep_no (x := v2) (n := c) (by omega) (fun h => ?_) (fun w hw e => ?_)
    · exact ep_xp_no h (br_t rfl (br_f n0 (br_f n3 (ep_yp_no h (br_t rfl ⟨rfl, ep_rel hG⟩)))))
    · subst e
      have hin : vp_in (nI s) 4 := vp_in_nI (by omega) (by omega)
      have ec : (nI s).toNatClampNeg = s := nI_clamp (by omega)
      refine ep_xp_yes hc hw (br_f (by decide) ⟨hin, hin, ?_⟩)
      rw [ec]
      refine nm_e ⟨hin, br_f n0 (br_f n3 (ep_yp_yes hc hw (br_f (by decide) ⟨hin, hin, ?_⟩)))⟩
      rw [ec]
      exact nm_e ⟨hin, rfl, ep_rel (ep_G_put hG hw)⟩
