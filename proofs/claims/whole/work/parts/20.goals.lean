/-! goals and score -/
theorem ep_bv0 (P : Nat → Prop) {v : Nat} (hv : v < 32) (h : ¬ P v) : (ep_I P >>> (nI v &&& 31)) &&& 1 = 0 := by
  rw [ep_bit1 _ hv, if_neg (fun z => h ((ep_I_bit P v).1 z).2)]
theorem ep_bv1 (P : Nat → Prop) {v : Nat} (hv : v < 10) (h : P v) : (ep_I P >>> (nI v &&& 31)) &&& 1 = 1 := (ep_bv P hv).2 h
theorem ep_0shl : ∀ g, g < 9 → (0 : Int32) <<< (nI g &&& 31) = 0 := by decide +kernel
theorem ep_or0 (x : Int32) : x ||| 0 = x := ep_beq fun i _ => by rw [b_or, b_0, Bool.or_false]
theorem ep_xgoals {c : Nat} {fm : Int32} {ow E K ma : Nat → Int32} {sr : Nat → Int64} (hG : ep_G c ow E K) {v : Nat} (hv : v < c) {post : Int32 → SX → Prop}
    (h : ∀ fm' ma' sr', post (ep_sI (fun g => ep_R c (ep_fr c ow E 0) (ep_fr c ow E 1) (fun s v => bt (K s) v = true) g v) 9) (nI c, fm', ow, E, K, ma', sr')) :
    ∃ n, wX_goals_14 post (nI v) n 0 0 (nI c) fm ow E K ma sr := by
  have hc := hG.1
  have key : ∀ d g fm ma sr, g + d = 9 → wX_goals_14 post (nI v) (d + 1) (ep_sI (fun g => ep_R c (ep_fr c ow E 0) (ep_fr c ow E 1) (fun s v => bt (K s) v = true) g v) g) (nI g) (nI c) fm ow E K ma sr := by
    intro d
    induction d with
    | zero =>
      intro g fm ma sr hg
      have e : g = 9 := by omega
      subst e
      exact br_t (nI_le (a := 9) (b := 9) (by omega) (by omega)) (h _ _ _)
    | succ d ih =>
      intro g fm ma sr hg
      refine br_f (nI_ge (b := 9) (by omega) (by omega)) (ep_xgoal hG (by omega) fun fm' ma' sr' => nm_r ?_ (nm_r (nI_1 g) (ih (g + 1) fm' ma' sr' (by omega))))
      by_cases hp : ep_R c (ep_fr c ow E 0) (ep_fr c ow E 1) (fun s v => bt (K s) v = true) g v
      · rw [ep_bv1 _ (by omega) hp, ep_sI_t (p := fun g => ep_R c (ep_fr c ow E 0) (ep_fr c ow E 1) (fun s v => bt (K s) v = true) g v) (k := g) hp]
      · rw [ep_bv0 _ (by omega) hp, ep_0shl g (by omega), ep_or0, ep_sI_f (p := fun g => ep_R c (ep_fr c ow E 0) (ep_fr c ow E 1) (fun s v => bt (K s) v = true) g v) (k := g) hp]
  exact ⟨_, key 9 0 fm ma sr (by omega)⟩
theorem ep_ygoals {c : Nat} {ff : Int32} {ow E K gr rd : Nat → Int32} (hG : ep_G c ow E K) {v : Nat} (hv : v < c) {post : Int32 → SY → Prop}
    (h : ∀ ff' gr' rd', post (ep_sI (fun g => ep_R c (ep_fr c ow E 0) (ep_fr c ow E 1) (fun s v => bt (K s) v = true) g v) 9) (nI c, ff', ow, E, K, gr', rd')) :
    ∃ n, wY_goals_14 post (nI v) n 0 0 (nI c) ff ow E K gr rd := by
  have hc := hG.1
  have key : ∀ d g ff gr rd, g + d = 9 → wY_goals_14 post (nI v) (d + 1) (ep_sI (fun g => ep_R c (ep_fr c ow E 0) (ep_fr c ow E 1) (fun s v => bt (K s) v = true) g v) g) (nI g) (nI c) ff ow E K gr rd := by
    intro d
    induction d with
    | zero =>
      intro g ff gr rd hg
      have e : g = 9 := by omega
      subst e
      exact br_t (nI_le (a := 9) (b := 9) (by omega) (by omega)) (h _ _ _)
    | succ d ih =>
      intro g ff gr rd hg
      refine br_f (nI_ge (b := 9) (by omega) (by omega)) (ep_ysolve hG (by omega) fun ff' gr' rd' => ?_)
      have hb := ep_bv (ep_R c (ep_fr c ow E 0) (ep_fr c ow E 1) (fun s v => bt (K s) v = true) g) (v := v) (by omega)
      have ih := ih (g + 1) ff' gr' rd' (by omega)
      by_cases hp : ep_R c (ep_fr c ow E 0) (ep_fr c ow E 1) (fun s v => bt (K s) v = true) g v
      · refine br_t (hb.2 hp) (nm_r ?_ (nm_r (nI_1 g) ih))
        rw [ep_sI_t (p := fun g => ep_R c (ep_fr c ow E 0) (ep_fr c ow E 1) (fun s v => bt (K s) v = true) g v) (k := g) hp]
      · refine br_f (fun z => hp (hb.1 z)) (nm_r (nI_1 g) ?_)
        rw [ep_sI_f (p := fun g => ep_R c (ep_fr c ow E 0) (ep_fr c ow E 1) (fun s v => bt (K s) v = true) g v) (k := g) hp] at ih
        exact ih
  exact ⟨_, key 9 0 ff gr rd (by omega)⟩
theorem i_vc_goals {k : Nat} {u : SX} {v : SY} (I : i_Rel k u v) (hk : k + 3 ≤ 1536) (v1 : Int32) : wpX_goals (fun r u' => wpY_goals (fun r' v' => r' = r ∧ i_Rel (k + 3) u' v') v v1) u v1 := by
  obtain ⟨c, fm, ow, E, K, ma, sr, ff, gr, rd, hG, rfl, rfl, _⟩ := I
  have hc := hG.1
  unfold wpX_goals wpY_goals
  dsimp only
  refine ep_no (x := v1) (n := c) (by omega) (fun h => ?_) (fun w hw e => ?_)
  · exact ep_xp_no h (br_t rfl (ep_yp_no h (br_t rfl ⟨rfl, ep_rel hG⟩)))
  · subst e
    refine ep_xp_yes hc hw (br_f (by decide) (ep_xgoals hG hw fun fm' ma' sr' => ?_))
    exact ep_yp_yes hc hw (br_f (by decide) (ep_ygoals hG hw fun ff' gr' rd' => ⟨rfl, ep_rel hG⟩))
/-! score: the pairs by goals, and by positions -/
def ep_sg (q : Nat → Nat) : Nat → Nat
  | 0 => 0
  | k + 1 => ep_sg q k + q k
noncomputable def ep_in1 (p : Prop) : Nat := @ite Nat p (Classical.propDecidable p) 1 0
theorem ep_cn_in (p : Nat → Prop) (k : Nat) : ep_cn p (k + 1) = ep_cn p k + ep_in1 (p k) := rfl
theorem ep_sg_add (q r : Nat → Nat) : ∀ k, ep_sg (fun g => q g + r g) k = ep_sg q k + ep_sg r k := by
  intro k
  induction k with
  | zero => rfl
  | succ k ih =>
    show ep_sg (fun g => q g + r g) k + (q k + r k) = (ep_sg q k + q k) + (ep_sg r k + r k)
    rw [ih]
    omega
theorem ep_row (Q : Nat → Nat → Prop) (c : Nat) : ∀ g, g ≤ 9 → ep_cn (fun n => Q (n % 9) (n / 9)) (9 * c + g) = ep_cn (fun n => Q (n % 9) (n / 9)) (9 * c) + ep_sg (fun h => ep_in1 (Q h c)) g := by
  intro g
  induction g with
  | zero => intro _; rfl
  | succ g ih =>
    intro hg
    have e1 : (9 * c + g) % 9 = g := by omega
    have e2 : (9 * c + g) / 9 = c := by omega
    show ep_cn (fun n => Q (n % 9) (n / 9)) (9 * c + g) + ep_in1 (Q ((9 * c + g) % 9) ((9 * c + g) / 9)) = _ + (ep_sg (fun h => ep_in1 (Q h c)) g + ep_in1 (Q g c))
    rw [ih (by omega), e1, e2]
    omega
theorem ep_grid (Q : Nat → Nat → Prop) : ∀ c, ep_cn (fun n => Q (n % 9) (n / 9)) (9 * c) = ep_sg (fun g => ep_cn (Q g) c) 9 := by
  intro c
  induction c with
  | zero => rfl
  | succ c ih =>
    have e : 9 * (c + 1) = 9 * c + 9 := by omega
    have e2 : (fun g => ep_cn (Q g) (c + 1)) = fun g => ep_cn (Q g) c + ep_in1 (Q g c) := rfl
    rw [e, ep_row Q c 9 (Nat.le_refl 9), ih, e2, ep_sg_add]
theorem ep_cn_top {p : Nat → Prop} {c : Nat} (h : ∀ i, p i → i < c) : ∀ d, ep_cn p (c + d) = ep_cn p c := by
  intro d
  induction d with
  | zero => rfl
  | succ d ih =>
    show ep_cn p (c + d + 1) = _
    rw [ep_cn_f (fun x => by have := h _ x; omega), ih]
theorem ep_sg_c (q r : Nat → Nat) : ∀ k, (∀ g, g < k → q g = r g) → ep_sg q k = ep_sg r k := by
  intro k
  induction k with
  | zero => intro _; rfl
  | succ k ih =>
    intro h
    show ep_sg q k + q k = ep_sg r k + r k
    rw [ih (fun g hg => h g (by omega)), h k (by omega)]
theorem ep_addbit (P : Nat → Prop) (t : Nat) {v : Nat} (hv : v < 10) : nI t + ((ep_I P >>> (nI v &&& 31)) &&& 1) = nI (t + ep_in1 (P v)) := by
  by_cases h : P v
  · rw [ep_bv1 P hv h]
    have e : ep_in1 (P v) = 1 := by unfold ep_in1; rw [if_pos h]
    rw [e]
    exact nI_1 t
  · rw [ep_bv0 P (by omega) h]
    have e : ep_in1 (P v) = 0 := by unfold ep_in1; rw [if_neg h]
    rw [e]
    exact nI_add t 0
theorem ep_xscore {c : Nat} {fm : Int32} {ow E K ma : Nat → Int32} {sr : Nat → Int64} (hG : ep_G c ow E K) {post : Int32 → SX → Prop}
    (h : ∀ fm' ma' sr', post (nI (ep_sg (fun g => ep_cn (ep_R c (ep_fr c ow E 0) (ep_fr c ow E 1) (fun s v => bt (K s) v = true) g) 10) 9)) (nI c, fm', ow, E, K, ma', sr')) :
    wpX_score post (nI c, fm, ow, E, K, ma, sr) := by
  obtain ⟨R, eR⟩ : ∃ R, R = ep_R c (ep_fr c ow E 0) (ep_fr c ow E 1) (fun s v => bt (K s) v = true) := ⟨_, rfl⟩
  rw [← eR] at h
  have inner : ∀ (J4 : Int32 → Int32 → Int32 → Int32 → (Nat → Int32) → (Nat → Int32) → (Nat → Int32) → (Nat → Int32) → (Nat → Int64) → Prop) (g t : Nat) (fm : Int32) (ma : Nat → Int32) (sr : Nat → Int64),
      J4 (nI (t + ep_cn (R g) 10)) (nI (g + 1)) (nI c) fm ow E K ma sr → ∀ d j, j + d = 10 → wX_score_19 post J4 (nI g) (ep_I (R g)) (nI c) fm ow E K ma sr (d + 1) (nI (t + ep_cn (R g) j)) (nI j) := by
    intro J4 g t fm ma sr hJ d
    induction d with
    | zero =>
      intro j hj
      have e : j = 10 := by omega
      subst e
      exact br_t (nI_le (a := 10) (b := 10) (by omega) (by omega)) (nm_r (nI_1 g) hJ)
    | succ d ih =>
      intro j hj
      refine br_f (nI_ge (b := 10) (by omega) (by omega)) (nm_r (ep_addbit (R g) _ (by omega)) (nm_r (nI_1 j) ?_))
      have ih := ih (j + 1) (by omega)
      rw [ep_cn_in, ← Nat.add_assoc] at ih
      exact ih
  have key : ∀ d g fm ma sr, g + d = 9 → wX_score_4 post (d + 1) (nI (ep_sg (fun g => ep_cn (R g) 10) g)) (nI g) (nI c) fm ow E K ma sr := by
    intro d
    induction d with
    | zero =>
      intro g fm ma sr hg
      have e : g = 9 := by omega
      subst e
      exact br_t (nI_le (a := 9) (b := 9) (by omega) (by omega)) (h _ _ _)
    | succ d ih =>
      intro g fm ma sr hg
      refine br_f (nI_ge (b := 9) (by omega) (by omega)) (ep_xgoal hG (by omega) fun fm' ma' sr' => ?_)
      rw [← eR]
      exact ⟨_, inner _ g _ fm' ma' sr' (ih (g + 1) fm' ma' sr' (by omega)) 10 0 (by omega)⟩
  exact ⟨_, key 9 0 fm ma sr (by omega)⟩
theorem ep_d9 : ∀ i, i < 90 → nI i / 9 = nI (i / 9) := by decide +kernel
theorem ep_r9 : ∀ i, i < 90 → nI i - nI i / 9 * 9 = nI (i % 9) := by decide +kernel
theorem ep_9c : ∀ c, c < 11 → 9 * nI c = nI (9 * c) := by decide +kernel
theorem ep_yscore {c : Nat} {ff : Int32} {ow E K gr rd : Nat → Int32} (hG : ep_G c ow E K) {post : Int32 → SY → Prop}
    (h : ∀ ff' gr' rd', post (nI (ep_cn (fun n => ep_R c (ep_fr c ow E 0) (ep_fr c ow E 1) (fun s v => bt (K s) v = true) (n % 9) (n / 9)) (9 * c))) (nI c, ff', ow, E, K, gr', rd')) :
    wpY_score post (nI c, ff, ow, E, K, gr, rd) := by
  have hc := hG.1
  obtain ⟨R, eR⟩ : ∃ R, R = ep_R c (ep_fr c ow E 0) (ep_fr c ow E 1) (fun s v => bt (K s) v = true) := ⟨_, rfl⟩
  rw [← eR] at h
  have key : ∀ d i ff gr rd, i + d = 9 * c → wY_score_4 post (d + 1) (nI (ep_cn (fun n => R (n % 9) (n / 9)) i)) (nI i) (nI c) ff ow E K gr rd := by
    intro d
    induction d with
    | zero =>
      intro i ff gr rd hi
      have e : i = 9 * c := by omega
      subst e
      refine br_t ?_ (h _ _ _)
      rw [ep_9c c (by omega)]
      exact nI_le (Nat.le_refl _) (by omega)
    | succ d ih =>
      intro i ff gr rd hi
      have hn : ¬ 9 * nI c ≤ nI i := by
        rw [ep_9c c (by omega)]
        exact nI_ge (by omega) (by omega)
      refine br_f hn ⟨by decide, ?_⟩
      rw [ep_r9 i (by omega), ep_d9 i (by omega)]
      refine ep_ysolve hG (by omega) fun ff' gr' rd' => ⟨by decide, ?_⟩
      rw [← eR]
      refine nm_r (ep_addbit (R (i % 9)) _ (by omega)) (nm_r (nI_1 i) ?_)
      exact ih (i + 1) ff' gr' rd' (by omega)
  exact ⟨_, key (9 * c) 0 ff gr rd (by omega)⟩
theorem i_vc_score {k : Nat} {u : SX} {v : SY} (I : i_Rel k u v) (hk : k + 3 ≤ 1536) : wpX_score (fun r u' => wpY_score (fun r' v' => r' = r ∧ i_Rel (k + 3) u' v') v) u := by
  obtain ⟨c, fm, ow, E, K, ma, sr, ff, gr, rd, hG, rfl, rfl, _⟩ := I
  have hc := hG.1
  refine ep_xscore hG fun fm' ma' sr' => ep_yscore hG fun ff' gr' rd' => ⟨?_, ep_rel hG⟩
  rw [ep_grid]
  congr 1
  apply ep_sg_c
  intro g hg
  have h := ep_cn_top (p := ep_R c (ep_fr c ow E 0) (ep_fr c ow E 1) (fun s v => bt (K s) v = true) g) (c := c) (fun i x => ep_R_al hG (fun j hj v y => hG.2.2.2 j hj v y) hg i x) (10 - c)
  rw [show c + (10 - c) = 10 by omega] at h
  exact h.symm
