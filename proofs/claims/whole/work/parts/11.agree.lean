/-! the settled states of each goal are the reference's answer -/
theorem ep_to3 {S : Type} {rk : S → Nat} (cp : (S → Prop) → (S → Prop)) (W : S → Prop) (h : ∀ s, rk s < 3) : ep_sol rk cp 6 W = ep_sol rk cp 3 W := by
  rw [ep_sol_skip rk cp 5 W (fun s => by have := h s; omega), ep_sol_skip rk cp 4 W (fun s => by have := h s; omega), ep_sol_skip rk cp 3 W (fun s => by have := h s; omega)]
theorem ep_to2 {S : Type} {rk : S → Nat} (cp : (S → Prop) → (S → Prop)) (W : S → Prop) (h : ∀ s, rk s < 2) : ep_sol rk cp 6 W = ep_sol rk cp 2 W := by
  rw [ep_to3 cp W (fun s => by have := h s; omega), ep_sol_skip rk cp 2 W (fun s => by have := h s; omega)]
theorem ep_bC0 (J : Nat → Nat → Bool) (fi v : Nat) : ¬ ep_bC J fi 0 v = true := by
  show ¬ (decide (0 = 1) && J (fi + 1) v) = true
  simp
theorem ep_a0 {c : Nat} {ow E K : Nat → Int32} (h : ep_G c ow E K) (J : Nat → Nat → Bool) (v : Nat) (hv : v < c) :
    ep_sol (fun s => ep_rk J 0 s.1 s.2) (ep_cp c ow E 2 (ep_nm J 0)) 6 (fun _ => False) (0, v) ↔ ep_R c (ep_fr c ow E 0) (ep_fr c ow E 1) (fun s v => J s v = true) 0 v := by
  rw [ep_to2 _ _ (fun s => by show (if s.1 = 1 ∨ J 0 s.2 = true then 0 else 1) < 2; split <;> omega)]
  refine ep_g0 (ep_fr_F h 0) (ep_cp_C h 2 _) ?_ ?_ ?_ ?_ ?_ ?_ v hv
  · intro v; show (if 1 = 1 ∨ J 0 v = true then 1 else 0) = 1; exact if_pos (Or.inl rfl)
  · intro v x; show (if 0 = 1 ∨ J 0 v = true then 1 else 0) = 1; exact if_pos (Or.inr x)
  · intro v x; show (if 0 = 1 ∨ J 0 v = true then 1 else 0) = 0; exact if_neg (fun y => y.elim (fun z => absurd z (by decide)) x)
  · intro v; show (if 1 = 1 ∨ J 0 v = true then 0 else 1) = 0; exact if_pos (Or.inl rfl)
  · intro v x; show (if 0 = 1 ∨ J 0 v = true then 0 else 1) = 0; exact if_pos (Or.inr x)
  · intro v x; show (if 0 = 1 ∨ J 0 v = true then 0 else 1) = 1; exact if_neg (fun y => y.elim (fun z => absurd z (by decide)) x)
theorem ep_a1 {c : Nat} {ow E K : Nat → Int32} (h : ep_G c ow E K) (J : Nat → Nat → Bool) (v : Nat) (hv : v < c) :
    ep_sol (fun s => ep_rk J 1 s.1 s.2) (ep_cp c ow E 2 (ep_nm J 1)) 6 (fun _ => False) (0, v) ↔ ep_R c (ep_fr c ow E 0) (ep_fr c ow E 1) (fun s v => J s v = true) 1 v := by
  rw [ep_to2 _ _ (fun s => by show (if s.1 = 1 ∨ ¬ J 0 s.2 = true then 1 else 0) < 2; split <;> omega)]
  refine ep_g1 (ep_fr_F h 0) (ep_cp_C h 2 _) ?_ ?_ ?_ ?_ ?_ ?_ v hv
  · intro v; show (if 1 = 1 ∨ ¬ J 0 v = true then 1 else 0) = 1; exact if_pos (Or.inl rfl)
  · intro v x; show (if 0 = 1 ∨ ¬ J 0 v = true then 1 else 0) = 0; exact if_neg (fun y => y.elim (fun z => absurd z (by decide)) (fun z => z x))
  · intro v x; show (if 0 = 1 ∨ ¬ J 0 v = true then 1 else 0) = 1; exact if_pos (Or.inr x)
  · intro v; show (if 1 = 1 ∨ ¬ J 0 v = true then 1 else 0) = 1; exact if_pos (Or.inl rfl)
  · intro v x; show (if 0 = 1 ∨ ¬ J 0 v = true then 1 else 0) = 0; exact if_neg (fun y => y.elim (fun z => absurd z (by decide)) (fun z => z x))
  · intro v x; show (if 0 = 1 ∨ ¬ J 0 v = true then 1 else 0) = 1; exact if_pos (Or.inr x)
theorem ep_a2 {c : Nat} {ow E K : Nat → Int32} (h : ep_G c ow E K) (J : Nat → Nat → Bool) (v : Nat) (hv : v < c) :
    ep_sol (fun s => ep_rk J 2 s.1 s.2) (ep_cp c ow E 1 (ep_nm J 2)) 6 (fun _ => False) (0, v) ↔ ep_R c (ep_fr c ow E 0) (ep_fr c ow E 1) (fun s v => J s v = true) 2 v := by
  rw [ep_to3 _ _ (fun s => by show (if J 0 s.2 = true then 2 else 1) < 3; split <;> omega)]
  refine ep_g2 (ep_fr_F h 0) (ep_cp_C h 1 _) ?_ ?_ ?_ ?_ v hv
  · intro v; rfl
  · intro v x; exact if_pos x
  · intro v x; exact if_neg x
  · intro s; show (if J 0 s.2 = true then 2 else 1) ≠ 0; split <;> omega
theorem ep_a3 {c : Nat} {ow E K : Nat → Int32} (h : ep_G c ow E K) (J : Nat → Nat → Bool) (v : Nat) (hv : v < c) :
    ep_sol (fun s => ep_rk J 3 s.1 s.2) (ep_cp c ow E 1 (ep_nm J 3)) 6 (fun _ => False) (0, v) ↔ ep_R c (ep_fr c ow E 0) (ep_fr c ow E 1) (fun s v => J s v = true) 3 v := by
  rw [ep_to2 _ _ (fun s => by show (if J 0 s.2 = true then 0 else 1) < 2; split <;> omega)]
  refine ep_g3 (ep_fr_F h 0) (ep_cp_C h 1 _) ?_ ?_ ?_ v hv
  · intro v; rfl
  · intro v x; exact if_pos x
  · intro v x; exact if_neg x
theorem ep_a4 {c : Nat} {ow E K : Nat → Int32} (h : ep_G c ow E K) (J : Nat → Nat → Bool) (v : Nat) (hv : v < c) :
    ep_sol (fun s => ep_rk J 4 s.1 s.2) (ep_cp c ow E 2 (ep_nm J 4)) 6 (fun _ => False) (0, v) ↔ ep_R c (ep_fr c ow E 0) (ep_fr c ow E 1) (fun s v => J s v = true) 4 v := by
  rw [ep_to3 _ _ (fun s => by show (if ep_bC J 0 s.1 s.2 = true then 2 else 1) < 3; split <;> omega)]
  refine ep_g4 (ep_fr_F h 0) (ep_cp_C h 2 _) ?_ ?_ ?_ ?_ ?_ ?_ ?_ ?_ v hv
  · intro v x; exact if_pos x
  · intro v x; exact if_neg x
  · intro v x; exact if_pos x
  · intro v x; exact if_neg x
  · intro v; show (if ep_bC J 0 0 v = true then 2 else 1) = 1; exact if_neg (ep_bC0 J 0 v)
  · intro v x; exact if_pos (show (decide (1 = 1) && J 1 v) = true by rw [x]; rfl)
  · intro v x; exact if_neg (fun y => x (by simpa [ep_bC] using y))
  · intro s; show (if ep_bC J 0 s.1 s.2 = true then 2 else 1) ≠ 0; split <;> omega
theorem ep_a8 {c : Nat} {ow E K : Nat → Int32} (h : ep_G c ow E K) (J : Nat → Nat → Bool) (v : Nat) (hv : v < c) :
    ep_sol (fun s => ep_rk J 8 s.1 s.2) (ep_cp c ow E 3 (ep_nm J 8)) 6 (fun _ => False) (0, v) ↔ ep_R c (ep_fr c ow E 0) (ep_fr c ow E 1) (fun s v => J s v = true) 8 v := by
  rw [ep_to2 _ _ (fun s => by show (if ep_nU J s.1 s.2 = 1 then 0 else 1) < 2; split <;> omega)]
  have u1 : ∀ v, ep_nU J 1 v = 1 := fun v => if_pos (by decide)
  have u2 : ∀ v, ep_nU J 2 v = 2 := fun v => if_pos (by decide)
  have ub : ∀ v, J 1 v = true → ep_nU J 0 v = 1 := fun v x => (if_neg (by decide)).trans (if_pos x)
  have ua : ∀ v, ¬ J 1 v = true → J 0 v = true → ep_nU J 0 v = 0 := fun v x y => (if_neg (by decide)).trans ((if_neg x).trans (if_pos y))
  have ux : ∀ v, ¬ J 1 v = true → ¬ J 0 v = true → ep_nU J 0 v = 2 := fun v x y => (if_neg (by decide)).trans ((if_neg x).trans (if_neg y))
  refine ep_g8 (ep_fr_F h 0) (ep_cp_C h 3 _) u1 u2 ub ua ux ?_ ?_ ?_ ?_ v hv
  · intro v; show (if ep_nU J 1 v = 1 then 0 else 1) = 0; exact if_pos (u1 v)
  · intro v; show (if ep_nU J 2 v = 1 then 0 else 1) = 1; rw [u2 v]; rfl
  · intro v x; show (if ep_nU J 0 v = 1 then 0 else 1) = 0; exact if_pos (ub v x)
  · intro v x
    show (if ep_nU J 0 v = 1 then 0 else 1) = 1
    refine if_neg ?_
    by_cases y : J 0 v = true
    · rw [ua v x y]; decide
    · rw [ux v x y]; decide
theorem ep_a5 {c : Nat} {ow E K : Nat → Int32} (h : ep_G c ow E K) (J : Nat → Nat → Bool) (v : Nat) (hv : v < c) :
    ep_sol (fun s => ep_rk J 5 s.1 s.2) (ep_cp c ow E 4 (ep_nm J 5)) 6 (fun _ => False) (0, v) ↔ ep_R c (ep_fr c ow E 0) (ep_fr c ow E 1) (fun s v => J s v = true) 5 v := by
  rw [ep_to3 (S := Nat × Nat) (rk := fun s => ep_rk J 5 s.1 s.2) _ _ (fun s => ep_rk_3 J (g := 5) (by decide) (by decide) (by decide) s.1 s.2)]
  have hrk : ∀ m v, ep_rk J 5 m v = if ep_bC J 2 (m / 2) v = true then 2 else if ep_bC J 0 (m % 2) v = true then 1 else 0 := fun _ _ => rfl
  have hnm : ∀ m v, ep_nm J 5 m v = ep_nA J 0 (m % 2) v + 2 * ep_nA J 2 (m / 2) v := fun _ _ => rfl
  have d0 : ∀ j : Nat, (0 + 2 * j) / 2 = j ∧ (0 + 2 * j) % 2 = 0 := fun j => by omega
  have d1 : ∀ j : Nat, (1 + 2 * j) / 2 = j ∧ (1 + 2 * j) % 2 = 1 := fun j => by omega
  have b2 : ∀ j w, j < 2 → ¬ J (2 + j) w = true → ¬ ep_bC J 2 j w = true := by
    intro j w hj hs hb
    have hb2 : j = 1 ∧ J (2 + 1) w = true := by simpa [ep_bC] using hb
    rw [hb2.1] at hs
    exact hs hb2.2
  have nAt : ∀ i v, J (0 + i) v = true → ep_nA J 0 i v = 1 - i := fun i v x => if_pos x
  have nAf : ∀ i v, ¬ J (0 + i) v = true → ep_nA J 0 i v = i := fun i v x => if_neg x
  have nCt : ∀ i v, J (2 + i) v = true → ep_nA J 2 i v = 1 - i := fun i v x => if_pos x
  have nCf : ∀ i v, ¬ J (2 + i) v = true → ep_nA J 2 i v = i := fun i v x => if_neg x
  have nAl : ∀ i v, i < 2 → ep_nA J 0 i v = 0 ∨ ep_nA J 0 i v = 1 := by
    intro i v hi
    unfold ep_nA
    split <;> omega
  refine ep_g5 (a := fun v => J 0 v = true) (b := fun v => J 1 v = true) (s := fun j v => J (2 + j) v = true) (ep_fr_F h 0) (ep_cp_C h 4 _)
    (fun s => ep_rk_3 J (g := 5) (by decide) (by decide) (by decide) s.1 s.2) ?_ ?_ ?_ ?_ ?_ ?_ ?_ ?_ ?_ ?_ ?_ v hv
  · intro j w hj hs hb
    show ep_rk J 5 (1 + 2 * j) w = 1
    rw [hrk, (d1 j).1, (d1 j).2, if_neg (b2 j w hj hs)]
    exact if_pos (show (decide (1 = 1) && J 1 w) = true by rw [hb]; rfl)
  · intro j w hj hs hb
    show ep_rk J 5 (1 + 2 * j) w = 0
    rw [hrk, (d1 j).1, (d1 j).2, if_neg (b2 j w hj hs)]
    exact if_neg (fun y => hb (by simpa [ep_bC] using y))
  · intro j w hj hs
    show ep_rk J 5 (0 + 2 * j) w = 0
    rw [hrk, (d0 j).1, (d0 j).2, if_neg (b2 j w hj hs)]
    exact if_neg (ep_bC0 J 0 w)
  · intro m w hm hs
    show ep_rk J 5 m w = 2
    have e : m / 2 = 1 := by omega
    rw [hrk, e]
    exact if_pos (show (decide (1 = 1) && J 3 w) = true by have : J 3 w = true := hs; rw [this]; rfl)
  · intro m w hm
    show ep_rk J 5 m w < 2
    have e : m / 2 = 0 := by omega
    rw [hrk, e, if_neg (ep_bC0 J 2 w)]
    split <;> omega
  · intro j w hj hs
    show ep_nm J 5 (0 + 2 * j) w = _ ∨ ep_nm J 5 (0 + 2 * j) w = _
    rw [hnm, (d0 j).1, (d0 j).2, nCt j w hs]
    rcases nAl 0 w (by decide) with e | e <;> rw [e]
    · exact Or.inl rfl
    · exact Or.inr rfl
  · intro j w hj hs
    show ep_nm J 5 (1 + 2 * j) w = _ ∨ ep_nm J 5 (1 + 2 * j) w = _
    rw [hnm, (d1 j).1, (d1 j).2, nCt j w hs]
    rcases nAl 1 w (by decide) with e | e <;> rw [e]
    · exact Or.inl rfl
    · exact Or.inr rfl
  · intro j w hj hs ha
    show ep_nm J 5 (0 + 2 * j) w = _
    rw [hnm, (d0 j).1, (d0 j).2, nCf j w hs, nAt 0 w ha]
  · intro j w hj hs ha
    show ep_nm J 5 (0 + 2 * j) w = _
    rw [hnm, (d0 j).1, (d0 j).2, nCf j w hs, nAf 0 w ha]
  · intro j w hj hs ha
    show ep_nm J 5 (1 + 2 * j) w = _
    rw [hnm, (d1 j).1, (d1 j).2, nCf j w hs, nAt 1 w ha]
  · intro j w hj hs ha
    show ep_nm J 5 (1 + 2 * j) w = _
    rw [hnm, (d1 j).1, (d1 j).2, nCf j w hs, nAf 1 w ha]
/-- memory and rank by the pair behind -/
theorem ep_r6_of (J : Nat → Nat → Bool) (an : Nat) : ep_r6 (ep_nF J an) (fun s => 1 + ep_pR J an s.1 s.2) (fun i v => J (2 * i + (1 - an)) v = true) (fun i v => J (2 * i + an) v = true) := by
  intro m b v hmb
  have e : 1 - m = b := by unfold ep_mb at hmb; omega
  have hn : ep_nF J an m v = if J (2 * b + an) v = true then b else m := by unfold ep_nF; rw [e]
  have hr : ep_pR J an m v = if J (2 * b + an) v = true then 4 else if J (2 * b + (1 - an)) v = true then 3 else if J (2 * m + an) v = true then 2 else if J (2 * m + (1 - an)) v = true then 1 else 0 := by
    unfold ep_pR; rw [e]
  show (_ → ep_nF J an m v = b ∧ 1 + ep_pR J an m v = 5) ∧ (_ → ep_nF J an m v = m ∧ (_ → 1 + ep_pR J an m v = 4) ∧ (_ → (_ → 1 + ep_pR J an m v = 3) ∧ (_ → (_ → 1 + ep_pR J an m v = 2) ∧ (_ → 1 + ep_pR J an m v = 1))))
  rw [hn, hr]
  refine ⟨fun x => ⟨if_pos x, by rw [if_pos x]⟩, fun x => ⟨if_neg x, fun y => by rw [if_neg x, if_pos y], fun y => ⟨fun z => by rw [if_neg x, if_neg y, if_pos z], fun z => ⟨fun q => by rw [if_neg x, if_neg y, if_neg z, if_pos q], fun q => by rw [if_neg x, if_neg y, if_neg z, if_neg q]⟩⟩⟩⟩
theorem ep_a6 {c : Nat} {ow E K : Nat → Int32} (h : ep_G c ow E K) (J : Nat → Nat → Bool) (v : Nat) (hv : v < c) :
    ep_sol (fun s => ep_rk J 6 s.1 s.2) (ep_cp c ow E 2 (ep_nm J 6)) 6 (fun _ => False) (0, v) ↔ ep_R c (ep_fr c ow E 0) (ep_fr c ow E 1) (fun s v => J s v = true) 6 v :=
  ep_g6 (rk := fun s => 1 + ep_pR J 0 s.1 s.2) (nm := ep_nF J 0) (ep_fr_F h 0) (ep_cp_C h 2 (ep_nF J 0)) (ep_r6_of J 0) (fun s => by show 1 + ep_pR J 0 s.1 s.2 ≠ 0; omega) v hv
theorem ep_a7 {c : Nat} {ow E K : Nat → Int32} (h : ep_G c ow E K) (J : Nat → Nat → Bool) (v : Nat) (hv : v < c) :
    ep_sol (fun s => ep_rk J 7 s.1 s.2) (ep_cp c ow E 2 (ep_nm J 7)) 6 (fun _ => False) (0, v) ↔ ep_R c (ep_fr c ow E 0) (ep_fr c ow E 1) (fun s v => J s v = true) 7 v := by
  have hd := ep_sol_du (fun s => ep_rk J 7 s.1 s.2) (ep_cp c ow E 2 (ep_nm J 7)) 6 (fun _ => False)
  have hk : (fun s : Nat × Nat => ep_rk J 7 s.1 s.2 + 1) = (fun s => 1 + ep_pR J 1 s.1 s.2) := funext fun s => Nat.add_comm _ _
  rw [hk, ep_sol_skip _ _ 6 _ (fun s => by show 1 + ep_pR J 1 s.1 s.2 ≠ 6; have := ep_pR_le J 1 s.1 s.2; omega)] at hd
  have h6 := ep_g6 (rk := fun s => 1 + ep_pR J 1 s.1 s.2) (nm := ep_nF J 1) (W0 := ep_not fun _ => False) (ep_fr_F h 1) (ep_cp_D h 2 (ep_nF J 1)) (ep_r6_of J 1) (fun s => by show 1 + ep_pR J 1 s.1 s.2 ≠ 0; omega) v hv
  have e : ep_not (ep_sol (fun s => ep_rk J 7 s.1 s.2) (ep_cp c ow E 2 (ep_nm J 7)) 6 (fun _ => False)) (0, v) =
      ep_sol (fun s => 1 + ep_pR J 1 s.1 s.2) (ep_du (ep_cp c ow E 2 (ep_nF J 1))) 6 (ep_not fun _ => False) (0, v) := congrFun hd (0, v)
  rw [← e] at h6
  constructor
  · exact fun x => ⟨hv, fun y => h6.2 y x⟩
  · intro x
    apply Classical.byContradiction
    intro y
    exact x.2 (h6.1 y)
theorem ep_agree {c : Nat} {ow E K : Nat → Int32} (h : ep_G c ow E K) (J : Nat → Nat → Bool) {g : Nat} (hg : g < 9) (v : Nat) (hv : v < c) :
    ep_sol (fun s => ep_rk J g s.1 s.2) (ep_cp c ow E (ep_Mg g) (ep_nm J g)) 6 (fun _ => False) (0, v) ↔ ep_R c (ep_fr c ow E 0) (ep_fr c ow E 1) (fun s v => J s v = true) g v := by
  match g, hg with
  | 0, _ => exact ep_a0 h J v hv
  | 1, _ => exact ep_a1 h J v hv
  | 2, _ => exact ep_a2 h J v hv
  | 3, _ => exact ep_a3 h J v hv
  | 4, _ => exact ep_a4 h J v hv
  | 5, _ => exact ep_a5 h J v hv
  | 6, _ => exact ep_a6 h J v hv
  | 7, _ => exact ep_a7 h J v hv
  | 8, _ => exact ep_a8 h J v hv
