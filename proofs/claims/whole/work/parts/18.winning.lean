/-! winning, wins, goodMoves -/
theorem i_vc_winning {k : Nat} {u : SX} {v : SY} (I : i_Rel k u v) (hk : k + 3 ≤ 1536) (v1 : Int32) : wpX_winning (fun r u' => wpY_winning (fun r' v' => r' = r ∧ i_Rel (k + 3) u' v') v v1) u v1 := by
  obtain ⟨c, fm, ow, E, K, ma, sr, ff, gr, rd, hG, rfl, rfl, _⟩ := I
  unfold wpX_winning wpY_winning
  dsimp only
  refine ep_no (x := v1) (n := 9) (by omega) (fun h => ?_) (fun g hg e => ?_)
  · exact ep_xg_no h (br_t rfl (ep_yg_no h (br_t rfl ⟨rfl, ep_rel hG⟩)))
  · subst e
    refine ep_xg_yes hg (br_f (by decide) (ep_xgoal hG hg fun fm' ma' sr' => ?_))
    refine ep_yg_yes hg (br_f (by decide) (ep_ysolve hG hg fun ff' gr' rd' => ?_))
    exact ⟨rfl, ep_rel hG⟩
theorem i_vc_wins {k : Nat} {u : SX} {v : SY} (I : i_Rel k u v) (hk : k + 3 ≤ 1536) (v1 : Int32) (v2 : Int32) : wpX_wins (fun r u' => wpY_wins (fun r' v' => r' = r ∧ i_Rel (k + 3) u' v') v v1 v2) u v1 v2 := by
  obtain ⟨c, fm, ow, E, K, ma, sr, ff, gr, rd, hG, rfl, rfl, _⟩ := I
  have hc := hG.1
  unfold wpX_wins wpY_wins
  dsimp only
  refine ep_no (x := v1) (n := 9) (by omega) (fun h => ?_) (fun g hg e => ?_)
  · exact ep_xg_no h (br_t rfl (ep_yg_no h (br_t rfl ⟨rfl, ep_rel hG⟩)))
  · subst e
    refine ep_xg_yes hg (br_f (by decide) ?_)
    refine ep_no (x := v2) (n := c) (by omega) (fun h => ?_) (fun w hw e => ?_)
    · exact ep_xp_no h (br_t rfl (ep_yg_yes hg (br_f (by decide) (ep_yp_no h (br_t rfl ⟨rfl, ep_rel hG⟩)))))
    · subst e
      refine ep_xp_yes hc hw (br_f (by decide) (ep_xgoal hG hg fun fm' ma' sr' => ?_))
      refine br_c (fun hb => ?_) (fun hb => ?_)
      · exact ep_yg_yes hg (br_f (by decide) (ep_yp_yes hc hw (br_f (by decide) (ep_ysolve hG hg fun ff' gr' rd' => br_t hb ⟨rfl, ep_rel hG⟩))))
      · exact ep_yg_yes hg (br_f (by decide) (ep_yp_yes hc hw (br_f (by decide) (ep_ysolve hG hg fun ff' gr' rd' => br_f hb ⟨rfl, ep_rel hG⟩))))
theorem i_vc_goodMoves {k : Nat} {u : SX} {v : SY} (I : i_Rel k u v) (hk : k + 3 ≤ 1536) (v1 : Int32) (v2 : Int32) : wpX_goodMoves (fun r u' => wpY_goodMoves (fun r' v' => r' = r ∧ i_Rel (k + 3) u' v') v v1 v2) u v1 v2 := by
  obtain ⟨c, fm, ow, E, K, ma, sr, ff, gr, rd, hG, rfl, rfl, _⟩ := I
  have hc := hG.1
  unfold wpX_goodMoves wpY_goodMoves
  dsimp only
  refine ep_no (x := v1) (n := 9) (by omega) (fun h => ?_) (fun g hg e => ?_)
  · exact ep_xg_no h (br_t rfl (ep_yg_no h (br_t rfl ⟨rfl, ep_rel hG⟩)))
  · subst e
    refine ep_xg_yes hg (br_f (by decide) ?_)
    refine ep_no (x := v2) (n := c) (by omega) (fun h => ?_) (fun w hw e => ?_)
    · exact ep_xp_no h (br_t rfl (ep_yg_yes hg (br_f (by decide) (ep_yp_no h (br_t rfl ⟨rfl, ep_rel hG⟩)))))
    · subst e
      have hin : vp_in (nI w) 10 := vp_in_nI (by omega) (by omega)
      refine ep_xp_yes hc hw (br_f (by decide) (ep_xgoal hG hg fun fm' ma' sr' => ⟨hin, ?_⟩))
      refine br_c (fun hb => ⟨hin, ?_⟩) (fun hb => ⟨hin, ?_⟩)
      · exact ep_yg_yes hg (br_f (by decide) (ep_yp_yes hc hw (br_f (by decide) (ep_ysolve hG hg fun ff' gr' rd' => ⟨hin, hin, br_t hb ⟨rfl, ep_rel hG⟩⟩))))
      · exact ep_yg_yes hg (br_f (by decide) (ep_yp_yes hc hw (br_f (by decide) (ep_ysolve hG hg fun ff' gr' rd' => ⟨hin, hin, br_f hb ⟨rfl, ep_rel hG⟩⟩))))
