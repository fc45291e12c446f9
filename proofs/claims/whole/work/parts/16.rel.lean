/-! the relation; the calls that change nothing but the searches' own arrays -/
def i_Rel (_ : Nat) (u : SX) (v : SY) : Prop :=
  ∃ (x n : Nat) (pc fd tc tb : Int32) (K kD kS se qu mv ts lv : Nat → Int32),
    u = (nI x, pc, nI n, fd, K, kD, kS, se, qu) ∧ v = (nI (bp_nd x / 16), nI (x % 16), nI n, pc, tc, tb, K, mv, ts, lv) ∧
    bp_V x ∧ bp_op K (x % 16) ∧ n ≤ 20 ∧ bz_Kp K kS kD mv n x ∧ (∀ i, i < 137 → ts i = nI (bp_tab i)) ∧ (∀ c, c < 16 → K c = 0 ∨ K c = 1 ∨ K c = 2)
theorem iz_mk {k x n : Nat} {pc fd tc tb : Int32} {K kD kS se qu mv ts lv : Nat → Int32} (h1 : bp_V x) (h2 : bp_op K (x % 16)) (h3 : n ≤ 20) (h4 : bz_Kp K kS kD mv n x) (h5 : ∀ i, i < 137 → ts i = nI (bp_tab i)) (h6 : ∀ c, c < 16 → K c = 0 ∨ K c = 1 ∨ K c = 2) :
    i_Rel k (nI x, pc, nI n, fd, K, kD, kS, se, qu) (nI (bp_nd x / 16), nI (x % 16), nI n, pc, tc, tb, K, mv, ts, lv) :=
  ⟨x, n, pc, fd, tc, tb, K, kD, kS, se, qu, mv, ts, lv, rfl, rfl, h1, h2, h3, h4, h5, h6⟩
theorem i_up {k : Nat} {u : SX} {v : SY} (h : i_Rel k u v) : i_Rel (k + 3) u v := h
theorem bp_ndL {x : Nat} (h : bp_V x) : bp_nd x / 16 < 65536 := by
  obtain ⟨hp, ha, hb, hab, _⟩ := h.2
  rw [(bp_ndD h).2]
  exact bp_bmL _ ha _ hb hab
theorem bp_ndB {x : Nat} (h : bp_V x) : bp_nd x / 16 * 16 + x % 16 = bp_nd x := by
  have := (bp_ndD h).1
  omega
theorem iz_e0 : bp_V (bp_enc 0 16 16) ∧ bp_nd (bp_enc 0 16 16) / 16 = 0 ∧ bp_enc 0 16 16 % 16 = 0 :=
  ⟨bp_VE ⟨by decide, by decide, by decide, by decide, by decide, by decide⟩, by decide, by decide⟩
theorem i_vc0 : wpX_init (fun u => wpY_init (fun v => i_Rel 0 u v)) := by
  unfold wpX_init
  refine wx_stateOf (p := 0) (a := 16) (b := 16) ?_
  refine wy_init (fun ts' hts => ?_)
  obtain ⟨e1, e2, e3⟩ := iz_e0
  refine ⟨bp_enc 0 16 16, 0, 0, 0, 0, 0, _, _, _, _, _, fun _ => 0, ts', fun _ => 0, rfl, ?_, e1, ?_, by omega, bz_K0, hts, fun c _ => Or.inl rfl⟩
  · rw [e2, e3]; rfl
  · rw [e3]; exact ⟨by decide, by decide⟩
theorem i_vc_done {k : Nat} {u : SX} {v : SY} (I : i_Rel k u v) (hk : k + 3 ≤ 1536) : wpX_done (fun r => wpY_done (fun r' => r' = r ∧ i_Rel (k + 3) u v) v) u := by
  have I' : i_Rel (k + 3) u v := I
  obtain ⟨x, n, pc, fd, tc, tb, K, kD, kS, se, qu, mv, ts, lv, rfl, rfl, hV, ho, hn, hKp, hts, hK⟩ := I
  unfold wpX_done
  dsimp only
  refine wx_isDone hV (fun hD => ⟨rfl, ?_⟩) (fun hD => ⟨rfl, ?_⟩)
  · unfold wpY_done
    dsimp only
    exact wy_isDone (bp_ndL hV) (fun _ => ⟨rfl, rfl, I'⟩) (fun z => absurd hD z)
  · unfold wpY_done
    dsimp only
    exact wy_isDone (bp_ndL hV) (fun z => absurd z hD) (fun _ => ⟨rfl, rfl, I'⟩)
theorem i_vc_leastMoves {k : Nat} {u : SX} {v : SY} (I : i_Rel k u v) (hk : k + 3 ≤ 1536) : wpX_leastMoves (fun r u' => wpY_leastMoves (fun r' v' => r' = r ∧ i_Rel (k + 3) u' v') v) u := by
  obtain ⟨x, n, pc, fd, tc, tb, K, kD, kS, se, qu, mv, ts, lv, rfl, rfl, hV, ho, hn, hKp, hts, hK⟩ := I
  refine wx_leastMoves hV (fun r fd' se' qu' hA => ?_)
  unfold wpY_leastMoves
  dsimp only
  exact wy_least (qb := false) hts hV (fun r' tc' tb' lv' hA' => ⟨bp_Au hA hA', iz_mk hV ho hn hKp hts hK⟩)
theorem i_vc_leastPushes {k : Nat} {u : SX} {v : SY} (I : i_Rel k u v) (hk : k + 3 ≤ 1536) : wpX_leastPushes (fun r u' => wpY_leastPushes (fun r' v' => r' = r ∧ i_Rel (k + 3) u' v') v) u := by
  obtain ⟨x, n, pc, fd, tc, tb, K, kD, kS, se, qu, mv, ts, lv, rfl, rfl, hV, ho, hn, hKp, hts, hK⟩ := I
  refine wx_leastPushes hV (fun r fd' se' qu' hA => ?_)
  unfold wpY_leastPushes
  dsimp only
  exact wy_least (qb := true) hts hV (fun r' tc' tb' lv' hA' => ⟨bp_Au hA hA', iz_mk hV ho hn hKp hts hK⟩)
theorem i_vc_bestMove {k : Nat} {u : SX} {v : SY} (I : i_Rel k u v) (hk : k + 3 ≤ 1536) : wpX_bestMove (fun r u' => wpY_bestMove (fun r' v' => r' = r ∧ i_Rel (k + 3) u' v') v) u := by
  obtain ⟨x, n, pc, fd, tc, tb, K, kD, kS, se, qu, mv, ts, lv, rfl, rfl, hV, ho, hn, hKp, hts, hK⟩ := I
  refine wx_bestMove hV (fun r fd' se' qu' hA => ?_)
  exact wy_bestMove hts hV (fun r' tc' tb' lv' hA' => ⟨bp_BMu hA hA', iz_mk hV ho hn hKp hts hK⟩)
theorem i_vc_region {k : Nat} {u : SX} {v : SY} (I : i_Rel k u v) (hk : k + 3 ≤ 1536) : wpX_region (fun r u' => wpY_region (fun r' => r' = r ∧ i_Rel (k + 3) u' v) v) u := by
  obtain ⟨x, n, pc, fd, tc, tb, K, kD, kS, se, qu, mv, ts, lv, rfl, rfl, hV, ho, hn, hKp, hts, hK⟩ := I
  have hs : x < 4624 := hV.1
  refine wx_region hV (fun r se' qu' hA => ?_)
  rw [← bp_ndB hV] at hA
  exact wy_region (bp_ndL hV) (by omega) ⟨x, hV, (bp_ndB hV).symm⟩ (fun r' hA' => ⟨congrArg nI (bp_Rgu hA hA'), iz_mk hV ho hn hKp hts hK⟩)
theorem i_vc_dead {k : Nat} {u : SX} {v : SY} (I : i_Rel k u v) (hk : k + 3 ≤ 1536) (v1 : Int32) : wpX_dead (fun r u' => wpY_dead (fun r' v' => r' = r ∧ i_Rel (k + 3) u' v') v v1) u v1 := by
  have I' : i_Rel (k + 3) u v := I
  obtain ⟨x, n, pc, fd, tc, tb, K, kD, kS, se, qu, mv, ts, lv, rfl, rfl, hV, ho, hn, hKp, hts, hK⟩ := I
  have out : (v1 < 0 ∨ nI 16 ≤ v1) → wpX_dead (fun r u' => wpY_dead (fun r' v' => r' = r ∧ i_Rel (k + 3) u' v') (nI (bp_nd x / 16), nI (x % 16), nI n, pc, tc, tb, K, mv, ts, lv) v1) (nI x, pc, nI n, fd, K, kD, kS, se, qu) v1 := by
    intro z
    unfold wpX_dead
    dsimp only
    refine wx_isCellN z (br_t rfl ?_)
    unfold wpY_dead
    dsimp only
    exact wy_badN z (br_f (by decide) ⟨rfl, I'⟩)
  rcases pk_ix v1 (n := 16) (by decide) with z | z | ⟨c, hc, rfl⟩
  · exact out (Or.inl z)
  · exact out (Or.inr z)
  · by_cases h0 : K c = 0
    · refine wx_dead hc h0 (fun r fd' se' qu' hA => ⟨fun z => ?_, fun z => ?_⟩)
      · refine wy_dead hts hc (by rw [h0]; decide) (by rw [h0]; decide) (fun r' tc' tb' lv' hA' => ⟨fun y => ⟨rfl, iz_mk hV ho hn hKp hts hK⟩, fun y => absurd ((bp_Anq hA hA').mp z) y⟩)
      · refine wy_dead hts hc (by rw [h0]; decide) (by rw [h0]; decide) (fun r' tc' tb' lv' hA' => ⟨fun y => absurd ((bp_Anq hA hA').mpr y) z, fun y => ⟨rfl, iz_mk hV ho hn hKp hts hK⟩⟩)
    · unfold wpX_dead
      dsimp only
      refine wx_isCell (by omega) (fun _ => br_f (by decide) ⟨vp_in_nI hc (by decide), ?_⟩) (fun z => absurd hc (by omega))
      rw [nI_clamp (by omega)]
      refine br_f h0 ?_
      unfold wpY_dead
      dsimp only
      refine wy_bad (by omega) (fun _ => br_t rfl ⟨vp_in_nI hc (by decide), ?_⟩) (fun z => absurd hc (by omega))
      rw [nI_clamp (by omega)]
      refine br_c (fun _ => ⟨rfl, I'⟩) (fun z => ⟨vp_in_nI hc (by decide), br_t ?_ ⟨rfl, I'⟩⟩)
      rcases hK c hc with y | y | y
      · exact absurd y h0
      · exact absurd y z
      · exact y
theorem i_vc_hasBox {k : Nat} {u : SX} {v : SY} (I : i_Rel k u v) (hk : k + 3 ≤ 1536) (v1 : Int32) : wpX_hasBox (fun r => wpY_hasBox (fun r' => r' = r ∧ i_Rel (k + 3) u v) v v1) u v1 := by
  have I' : i_Rel (k + 3) u v := I
  obtain ⟨x, n, pc, fd, tc, tb, K, kD, kS, se, qu, mv, ts, lv, rfl, rfl, hV, ho, hn, hKp, hts, hK⟩ := I
  unfold wpX_hasBox wpY_hasBox
  dsimp only
  rcases pk_ix v1 (n := 16) (by decide) with z | z | ⟨c, hc, rfl⟩
  · exact wx_isCellN (Or.inl z) (br_t rfl (wy_badN (Or.inl z) (br_f (by decide) ⟨rfl, I'⟩)))
  · exact wx_isCellN (Or.inr z) (br_t rfl (wy_badN (Or.inr z) (br_f (by decide) ⟨rfl, I'⟩)))
  · obtain ⟨hp, ha, hb, hab, _⟩ := hV.2
    have hH := bp_bmH _ ha _ hb c hc hab
    rw [← (bp_ndD hV).2] at hH
    refine wx_isCell (by omega) (fun _ => br_f (by decide) ?_) (fun z => absurd hc (by omega))
    refine wx_isBoxOn hV.1 (by omega) (fun z => br_f (by decide) ?_) (fun z => br_t rfl ?_)
    · exact wy_bad (by omega) (fun _ => br_t rfl (wy_has (bp_ndL hV) hc (fun _ => br_f (by decide) ⟨rfl, I'⟩) (fun y => absurd (hH.mpr z) y))) (fun y => absurd hc (by omega))
    · exact wy_bad (by omega) (fun _ => br_t rfl (wy_has (bp_ndL hV) hc (fun y => absurd (hH.mp y) z) (fun _ => br_t rfl ⟨rfl, I'⟩))) (fun y => absurd hc (by omega))
theorem i_vc_pusher {k : Nat} {u : SX} {v : SY} (I : i_Rel k u v) (hk : k + 3 ≤ 1536) : wpX_pusher (fun r => wpY_pusher (fun r' => r' = r ∧ i_Rel (k + 3) u v) v) u := by
  have I' : i_Rel (k + 3) u v := I
  obtain ⟨x, n, pc, fd, tc, tb, K, kD, kS, se, qu, mv, ts, lv, rfl, rfl, hV, ho, hn, hKp, hts, hK⟩ := I
  have hs : x < 4624 := hV.1
  unfold wpX_pusher
  dsimp only
  exact wx_pusherOf (by omega) ⟨rfl, I'⟩
theorem i_vc_pushes {k : Nat} {u : SX} {v : SY} (I : i_Rel k u v) (hk : k + 3 ≤ 1536) : wpX_pushes (fun r => wpY_pushes (fun r' => r' = r ∧ i_Rel (k + 3) u v) v) u := by
  have I' : i_Rel (k + 3) u v := I
  obtain ⟨x, n, pc, fd, tc, tb, K, kD, kS, se, qu, mv, ts, lv, rfl, rfl, hV, ho, hn, hKp, hts, hK⟩ := I
  exact ⟨rfl, I'⟩
