/-! the reference's answer for a goal -/
theorem ep_us {f : Nat → Int32} {k : Nat} {x : Int32} : upd f k x k = x := if_pos rfl
theorem ep_un {f : Nat → Int32} {k j : Nat} {x : Int32} (h : j ≠ k) : upd f k x j = f j := if_neg h
theorem ep_p2 {σ : Type} {post : Int32 → σ → Prop} {x y : Int32} {u : σ} (e : x = y) (h : post y u) : post x u := by rw [e]; exact h
theorem ep_cl0 : (0 : Int32).toNatClampNeg = 0 := by decide
theorem ep_cl1 : (1 : Int32).toNatClampNeg = 1 := by decide
theorem ep_cl2 : (2 : Int32).toNatClampNeg = 2 := by decide
theorem ep_cl3 : (3 : Int32).toNatClampNeg = 3 := by decide
theorem ep_K {c : Nat} {ow E K : Nat → Int32} (hG : ep_G c ow E K) {i : Nat} (hi : i < 4) : K i = ep_I (fun v => bt (K i) v = true) :=
  ep_I_of hG.1 (hG.2.2.2 i hi)
theorem ep_ysolve {c : Nat} {ff : Int32} {ow E K gr rd : Nat → Int32} (hG : ep_G c ow E K) {g : Nat} (hg : g < 9) {post : Int32 → SY → Prop}
    (h : ∀ ff' gr' rd', post (ep_I (ep_R c (ep_fr c ow E 0) (ep_fr c ow E 1) (fun s v => bt (K s) v = true) g)) (nI c, ff', ow, E, K, gr', rd')) :
    wpY_solve post (nI c, ff, ow, E, K, gr, rd) (nI g) := by
  have hc := hG.1
  have hF := ep_fr_F hG 0
  have k0 := ep_K hG (i := 0) (by decide)
  have k1 := ep_K hG (i := 1) (by decide)
  have k2 := ep_K hG (i := 2) (by decide)
  have k3 := ep_K hG (i := 3) (by decide)
  have hFO : ep_le (ep_forced (ep_fr c ow E 0) fun v => v < c) fun v => v < c := ep_reach_al hF (fun v x => x.elim)
  have hSA : ep_le (ep_safe (ep_fr c ow E 0) fun v => v < c) fun v => v < c := ep_stay_al hF (fun v x => x.elim)
  have i0 : vp_in 0 4 := vp_in_iff.mpr (by decide)
  have i1 : vp_in 1 4 := vp_in_iff.mpr (by decide)
  have i2 : vp_in 2 4 := vp_in_iff.mpr (by decide)
  have i3 : vp_in 3 4 := vp_in_iff.mpr (by decide)
  have g6 : upd (upd gr 0 (K (1 : Int32).toNatClampNeg)) 1 (K (3 : Int32).toNatClampNeg) 0 = ep_I (fun v => bt (K 1) v = true) ∧ upd (upd rd 0 (K (0 : Int32).toNatClampNeg)) 1 (K (2 : Int32).toNatClampNeg) 0 = ep_I (fun v => bt (K 0) v = true) ∧
      upd (upd gr 0 (K (1 : Int32).toNatClampNeg)) 1 (K (3 : Int32).toNatClampNeg) 1 = ep_I (fun v => bt (K 3) v = true) ∧ upd (upd rd 0 (K (0 : Int32).toNatClampNeg)) 1 (K (2 : Int32).toNatClampNeg) 1 = ep_I (fun v => bt (K 2) v = true) := by
    rw [ep_un (by decide), ep_us, ep_un (by decide), ep_us, ep_us, ep_us, ep_cl0, ep_cl1, ep_cl2, ep_cl3]
    exact ⟨k1, k0, k3, k2⟩
  have g7 : upd (upd gr 0 (K (0 : Int32).toNatClampNeg)) 1 (K (2 : Int32).toNatClampNeg) 0 = ep_I (fun v => bt (K 0) v = true) ∧ upd (upd rd 0 (K (1 : Int32).toNatClampNeg)) 1 (K (3 : Int32).toNatClampNeg) 0 = ep_I (fun v => bt (K 1) v = true) ∧
      upd (upd gr 0 (K (0 : Int32).toNatClampNeg)) 1 (K (2 : Int32).toNatClampNeg) 1 = ep_I (fun v => bt (K 2) v = true) ∧ upd (upd rd 0 (K (1 : Int32).toNatClampNeg)) 1 (K (3 : Int32).toNatClampNeg) 1 = ep_I (fun v => bt (K 3) v = true) := by
    rw [ep_un (by decide), ep_us, ep_un (by decide), ep_us, ep_us, ep_us, ep_cl0, ep_cl1, ep_cl2, ep_cl3]
    exact ⟨k0, k1, k2, k3⟩
  unfold wpY_solve
  dsimp only
  refine ep_yall hc ?_
  refine ep_yreach hG ep_I_0.symm rfl (fun v x => x.elim) ?_
  refine nm_r k0 ?_
  refine ep_yall hc ?_
  refine ep_ystay hG rfl ep_I_0.symm (fun v x => x.elim) ?_
  match g, hg, h with
  | 0, _, h => exact br_f (by decide) (br_t (by decide) (ep_yall hc (ep_yreach hG (P := fun v => (bt (K 0) v = true ∧ ep_safe (ep_fr c ow E 0) (fun v => v < c) v) ∨ ep_forced (ep_fr c ow E 0) (fun v => v < c) v)
      (by rw [ep_I_and, ep_I_or]; rfl) rfl (fun v x => x.elim (fun y => hSA v y.2) (hFO v)) (h _ _ _))))
  | 1, _, h => exact br_f (by decide) (br_f (by decide) (ep_ystay hG rfl rfl hFO (h _ _ _)))
  | 2, _, h => exact br_t (by decide) (br_f (by decide) (br_t (by decide) (ep_yagain hG rfl (h _ _ _))))
  | 3, _, h => exact br_t (by decide) (br_f (by decide) (br_f (by decide) (ep_yend hG rfl (h _ _ _))))
  | 4, _, h => exact br_t (by decide) (br_t (by decide) (br_f (by decide) (br_t (by decide) (ep_yboth hG rfl k1 (h _ _ _)))))
  | 5, _, h => exact br_t (by decide) (br_t (by decide) (br_f (by decide) (br_f (by decide) (ep_yifb hG k0 k1 k2 k3 (h _ _ _)))))
  | 6, _, h => exact br_t (by decide) (br_t (by decide) (br_t (by decide) (br_t (by decide) ⟨i1, nm_e ⟨i0, nm_e ⟨i3, nm_e ⟨i2, nm_e (ep_yone hG 0 g6.1 g6.2.1 g6.2.2.1 g6.2.2.2 (h _ _ _))⟩⟩⟩⟩)))
  | 7, _, h => exact br_t (by decide) (br_t (by decide) (br_t (by decide) (br_f (by decide) (br_t (by decide) ⟨i0, nm_e ⟨i1, nm_e ⟨i2, nm_e ⟨i3, nm_e (ep_yall hc (ep_yone hG 1 g7.1 g7.2.1 g7.2.2.1 g7.2.2.2 (ep_p2 (ep_I_diff _ _) (h _ _ _))))⟩⟩⟩⟩))))
  | 8, _, h => exact br_t (by decide) (br_t (by decide) (br_t (by decide) (br_f (by decide) (br_f (by decide) (ep_yreach hG (P := fun v => (bt (K 1) v = true ∧ ep_safe (ep_fr c ow E 0) (fun v => v < c) v) ∨ ep_forced (ep_fr c ow E 0) (fun v => v < c) v)
      (by rw [k1, ep_I_and, ep_I_or, ← k1]; rfl) rfl (fun v x => x.elim (fun y => hSA v y.2) (hFO v)) (h _ _ _))))))
