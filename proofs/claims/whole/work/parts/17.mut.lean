/-! the calls that change the store -/
theorem bz_size : ∀ a, a < 17 → ∀ b, b < 17 → (a = b → a = 16) → bp_cnt (fun c => decide (bp_has (bp_bm a b) c)) 16 = (if a = 16 then 0 else 1) + (if b = 16 then 0 else 1) := by decide +kernel
theorem bz_put : ∀ b, b < 17 → ∀ c, c < 16 → c ≠ b → nI (bp_bm 16 b) ||| ((1 : Int32) <<< (nI c &&& 31)) = nI (bp_bm c b) := by decide +kernel
theorem bz_op {K : Nat → Int32} {c p : Nat} {k : Int32} (h : bp_op K p) (hk : k = 1 → p ≠ c) : bp_op (upd K c k) p := by
  refine ⟨h.1, ?_⟩
  by_cases z : p = c
  · rw [z, pk_us]
    exact fun y => hk y z
  · rw [pk_un z]; exact h.2
theorem bz_kinds {K : Nat → Int32} {c : Nat} {k : Int32} (h : ∀ c, c < 16 → K c = 0 ∨ K c = 1 ∨ K c = 2) (hk : k = 0 ∨ k = 1 ∨ k = 2) : ∀ e, e < 16 → upd K c k e = 0 ∨ upd K c k e = 1 ∨ upd K c k e = 2 := by
  intro e he
  by_cases z : e = c
  · rw [z, pk_us]; exact hk
  · rw [pk_un z]; exact h e he
section
variable {st pc kp fd : Int32} {K kD kS se qu : Nat → Int32}
theorem wx_cell48 {post : Int32 → SX → Prop} {c : Nat} {k : Int32} (hc : c < 16) (h : post (K c) (st, 0, 0, fd, upd K c k, kD, kS, se, qu)) : wX_cell_48 post (nI c) k st pc kp fd K kD kS se qu := by
  unfold wX_cell_48
  rw [nI_clamp (by omega)]
  exact ⟨vp_in_nI hc (by decide), nm_e ⟨vp_in_nI hc (by decide), nm_e h⟩⟩
theorem wx_boxCount {post : Int32 → Prop} {s : Nat} (hs : s < 4624) (h : post (nI ((if s / 16 / 17 = 16 then 0 else 1) + (if s / 16 % 17 = 16 then 0 else 1)))) : wpX_boxCount post (nI s, pc, kp, fd, K, kD, kS, se, qu) := by
  unfold wpX_boxCount
  dsimp only
  refine wx_first (by omega) ?_
  refine pk_eq (s / 16 / 17) 16 (fun z => ?_) (fun z => nm_e ?_)
  · rw [if_pos z] at h
    unfold wX_boxCount_17
    refine wx_second (by omega) ?_
    refine pk_eq (s / 16 % 17) 16 (fun y => ?_) (fun y => nm_e ?_)
    · rw [if_pos y] at h; exact h
    · rw [if_neg y] at h; exact h
  · rw [if_neg z] at h
    unfold wX_boxCount_17
    refine wx_second (by omega) ?_
    refine pk_eq (s / 16 % 17) 16 (fun y => ?_) (fun y => nm_e ?_)
    · rw [if_pos y] at h; exact h
    · rw [if_neg y] at h; exact h
end
section
variable {bo pu kp ps tc tb : Int32} {K mv ts lv : Nat → Int32}
theorem wy_cell50 {post : Int32 → SY → Prop} {c : Nat} {k : Int32} (hc : c < 16) (h : post (K c) (bo, pu, 0, 0, tc, tb, upd K c k, mv, ts, lv)) : wY_cell_50 post (nI c) k bo pu kp ps tc tb K mv ts lv := by
  unfold wY_cell_50
  rw [nI_clamp (by omega)]
  exact ⟨vp_in_nI hc (by decide), nm_e ⟨vp_in_nI hc (by decide), nm_e h⟩⟩
end
theorem i_vc_cell {k : Nat} {u : SX} {v : SY} (I : i_Rel k u v) (hk : k + 3 ≤ 1536) (v1 : Int32) (v2 : Int32) : wpX_cell (fun r u' => wpY_cell (fun r' v' => r' = r ∧ i_Rel (k + 3) u' v') v v1 v2) u v1 v2 := by
  have I' : i_Rel (k + 3) u v := I
  obtain ⟨x, n, pc, fd, tc, tb, K, kD, kS, se, qu, mv, ts, lv, rfl, rfl, hV, ho, hn, hKp, hts, hK⟩ := I
  have hs : x < 4624 := hV.1
  unfold wpX_cell wpY_cell
  dsimp only
  rcases pk_ix v1 (n := 16) (by decide) with z | z | ⟨c, hc, rfl⟩
  · exact wx_isCellN (Or.inl z) (br_t rfl (wy_badN (Or.inl z) (br_f (by decide) ⟨rfl, I'⟩)))
  · exact wx_isCellN (Or.inr z) (br_t rfl (wy_badN (Or.inr z) (br_f (by decide) ⟨rfl, I'⟩)))
  · obtain ⟨hp, ha, hb, hab, _⟩ := hV.2
    have hH := bp_bmH _ ha _ hb c hc hab
    rw [← (bp_ndD hV).2] at hH
    refine wx_isCell (by omega) (fun _ => br_f (by decide) ?_) (fun z => absurd hc (by omega))
    refine br_c (fun z => wy_bad (by omega) (fun _ => br_t rfl (br_t z ⟨rfl, I'⟩)) (fun y => absurd hc (by omega))) (fun z => ?_)
    refine br_c (fun y => ?_) (fun y => wy_bad (by omega) (fun _ => br_t rfl (br_f z (br_f y ⟨rfl, I'⟩))) (fun y => absurd hc (by omega)))
    obtain ⟨j, hj, ej⟩ := nI_of2 (M := 2) (n := 2) (by decide) z y
    have hk2 : v2 = 0 ∨ v2 = 1 ∨ v2 = 2 := by
      rcases (show j = 0 ∨ j = 1 ∨ j = 2 by omega) with e | e | e
      · exact Or.inl (by rw [ej, e]; rfl)
      · exact Or.inr (Or.inl (by rw [ej, e]; rfl))
      · exact Or.inr (Or.inr (by rw [ej, e]; rfl))
    have fin : (v2 = 1 → x % 16 ≠ c) → ∀ {kp1 : Int32}, i_Rel (k + 3) (nI x, 0, nI 0, fd, upd K c v2, kD, kS, se, qu) (nI (bp_nd x / 16), nI (x % 16), nI 0, 0, tc, tb, upd K c v2, mv, ts, lv) :=
      fun hne {_} => iz_mk hV (bz_op ho hne) (by omega) bz_K0 hts (bz_kinds hK hk2)
    refine br_c (fun w => ?_) (fun w => ?_)
    · refine wx_isBoxOn hs (by omega) (fun hbx => br_f (by decide) ?_) (fun hbx => br_t rfl ?_)
      · exact wy_bad (by omega) (fun _ => br_t rfl (br_f z (br_t y (br_t w (wy_has (bp_ndL hV) hc (fun _ => br_f (by decide) ⟨rfl, I'⟩) (fun q => absurd (hH.mpr hbx) q)))))) (fun y => absurd hc (by omega))
      · refine wx_pusherOf (by omega) ?_
        refine pk_eq (x % 16) c (fun e => ?_) (fun e => wx_cell48 hc ?_)
        · exact wy_bad (by omega) (fun _ => br_t rfl (br_f z (br_t y (br_t w (wy_has (bp_ndL hV) hc (fun q => absurd (hH.mp q) hbx) (fun _ => br_t rfl (br_t (congrArg nI e.symm) ⟨rfl, I'⟩))))))) (fun y => absurd hc (by omega))
        · refine wy_bad (by omega) (fun _ => br_t rfl (br_f z (br_t y (br_t w (wy_has (bp_ndL hV) hc (fun q => absurd (hH.mp q) hbx) (fun _ => br_t rfl (br_f (fun q => ?_) (wy_cell50 hc ⟨rfl, fin (fun _ => e) (kp1 := 0)⟩)))))))) (fun y => absurd hc (by omega))
          exact e ((nI_eq (by omega) (by omega)).mp q).symm
    · refine wx_cell48 hc ?_
      exact wy_bad (by omega) (fun _ => br_t rfl (br_f z (br_t y (br_f w (wy_cell50 hc ⟨rfl, fin (fun q => absurd q w) (kp1 := 0)⟩))))) (fun y => absurd hc (by omega))
theorem i_vc_place {k : Nat} {u : SX} {v : SY} (I : i_Rel k u v) (hk : k + 3 ≤ 1536) (v1 : Int32) : wpX_place (fun r u' => wpY_place (fun r' v' => r' = r ∧ i_Rel (k + 3) u' v') v v1) u v1 := by
  have I' : i_Rel (k + 3) u v := I
  obtain ⟨x, n, pc, fd, tc, tb, K, kD, kS, se, qu, mv, ts, lv, rfl, rfl, hV, ho, hn, hKp, hts, hK⟩ := I
  have hs : x < 4624 := hV.1
  unfold wpX_place wpY_place
  dsimp only
  rcases pk_ix v1 (n := 16) (by decide) with z | z | ⟨c, hc, rfl⟩
  · exact wx_isCellN (Or.inl z) (br_t rfl (wy_badN (Or.inl z) (br_f (by decide) ⟨rfl, I'⟩)))
  · exact wx_isCellN (Or.inr z) (br_t rfl (wy_badN (Or.inr z) (br_f (by decide) ⟨rfl, I'⟩)))
  · obtain ⟨hp, ha, hb, hab, _⟩ := hV.2
    have hH := bp_bmH _ ha _ hb c hc hab
    rw [← (bp_ndD hV).2] at hH
    refine wx_isCell (by omega) (fun _ => br_f (by decide) ⟨vp_in_nI hc (by decide), ?_⟩) (fun z => absurd hc (by omega))
    rw [nI_clamp (by omega)]
    refine br_c (fun z => wy_bad (by omega) (fun _ => br_t rfl ⟨vp_in_nI hc (by decide), br_t z ⟨rfl, I'⟩⟩) (fun y => absurd hc (by omega))) (fun z => ?_)
    refine wx_isBoxOn hs (by omega) (fun hbx => br_f (by decide) ?_) (fun hbx => br_t rfl ?_)
    · exact wy_bad (by omega) (fun _ => br_t rfl ⟨vp_in_nI hc (by decide), br_f z (wy_has (bp_ndL hV) hc (fun _ => br_f (by decide) ⟨rfl, I'⟩) (fun q => absurd (hH.mpr hbx) q))⟩) (fun y => absurd hc (by omega))
    · refine wx_pusherOf (by omega) ?_
      refine wx_first (by omega) ?_
      refine wx_second (by omega) ?_
      refine wx_stateOf ?_
      have hok : bp_ok c (x / 16 / 17) (x / 16 % 17) := ⟨hc, ha, hb, hab, by omega, by omega⟩
      have hVe := bp_VE hok
      have h1 := (bp_dec (a := x / 16 / 17) hc hb).1
      have h2 : bp_nd (bp_enc c (x / 16 / 17) (x / 16 % 17)) / 16 = bp_nd x / 16 := by
        rw [bp_ndE hc hb, (bp_ndD hV).2]
        omega
      unfold wpX_forgetMoves
      dsimp only
      refine wy_bad (by omega) (fun _ => br_t rfl ⟨vp_in_nI hc (by decide), ?_⟩) (fun y => absurd hc (by omega))
      refine br_f z (wy_has (bp_ndL hV) hc (fun q => absurd (hH.mp q) hbx) (fun _ => br_t rfl ⟨rfl, ?_⟩))
      have hR := iz_mk (k := k + 3) (n := 0) (pc := 0) (fd := fd) (tc := tc) (tb := tb) (K := K) (kD := kD) (kS := kS) (se := se) (qu := qu) (mv := mv) (ts := ts) (lv := lv) hVe (by rw [h1]; exact ⟨hc, z⟩) (by omega) bz_K0 hts hK
      rw [h1, h2] at hR
      exact hR
def bz_n (a b : Nat) : Nat := (if a = 16 then 0 else 1) + (if b = 16 then 0 else 1)
section
variable {pc kp fd : Int32} {K kD kS se qu : Nat → Int32}
theorem wx_take {post : Int32 → SX → Prop} {s c : Nat} (hs : s < 4624) (hc : c < 16) (hN : ¬ (c = s / 16 / 17 ∨ c = s / 16 % 17) → post (-6) (nI s, pc, kp, fd, K, kD, kS, se, qu))
    (hY : ∀ a' b', a' < 17 → b' < 17 → ((c = s / 16 / 17 ∧ a' = 16 ∧ b' = s / 16 % 17) ∨ (c ≠ s / 16 / 17 ∧ c = s / 16 % 17 ∧ a' = s / 16 / 17 ∧ b' = 16)) → post (nI (bz_n a' b')) (nI (bp_enc (s % 16) a' b'), 0, 0, fd, K, kD, kS, se, qu)) :
    wpX_takeBox post (nI s, pc, kp, fd, K, kD, kS, se, qu) (nI c) := by
  have t54 : ∀ a' b', a' < 17 → b' < 17 → post (nI (bz_n a' b')) (nI (bp_enc (s % 16) a' b'), 0, 0, fd, K, kD, kS, se, qu) → wX_takeBox_54 post (nI (s % 16)) (nI a') (nI b') (nI s) pc kp fd K kD kS se qu := by
    intro a' b' ha hb h
    obtain ⟨d1, d2, d3, d4⟩ := bp_dec (p := s % 16) (a := a') (b := b') (by omega) hb
    unfold wX_takeBox_54
    refine wx_stateOf ?_
    unfold wpX_forgetMoves
    dsimp only
    refine wx_boxCount (by unfold bp_enc; omega) ?_
    rw [d3, d4]
    exact h
  unfold wpX_takeBox
  dsimp only
  refine wx_pusherOf (by omega) ?_
  refine wx_first (by omega) ?_
  refine wx_second (by omega) ?_
  refine pk_eq (s / 16 / 17) c (fun z => ?_) (fun z => pk_eq (s / 16 % 17) c (fun y => ?_) (fun y => hN (by omega)))
  · unfold wX_takeBox_39
    exact br_t (congrArg nI z) (t54 16 _ (by omega) (by omega) (hY _ _ (by omega) (by omega) (Or.inl ⟨z.symm, rfl, rfl⟩)))
  · unfold wX_takeBox_39
    exact br_f (fun w => z ((nI_eq (by omega) (by omega)).mp w)) (t54 _ 16 (by omega) (by omega) (hY _ _ (by omega) (by omega) (Or.inr ⟨fun w => z w.symm, y.symm, rfl, rfl⟩)))
theorem wx_put {post : Int32 → SX → Prop} {s c : Nat} (hs : s < 4624) (hc : c < 16)
    (hT : (K c = 1 ∨ c = s % 16 ∨ c = s / 16 / 17 ∨ c = s / 16 % 17) → post (-3) (nI s, pc, kp, fd, K, kD, kS, se, qu))
    (hF : ¬ (K c = 1 ∨ c = s % 16 ∨ c = s / 16 / 17 ∨ c = s / 16 % 17) → s / 16 / 17 ≠ 16 → s / 16 % 17 ≠ 16 → post (-4) (nI s, pc, kp, fd, K, kD, kS, se, qu))
    (hY : ∀ a' b', a' < 17 → b' < 17 → ¬ (K c = 1 ∨ c = s % 16 ∨ c = s / 16 / 17 ∨ c = s / 16 % 17) → ((s / 16 / 17 = 16 ∧ a' = c ∧ b' = s / 16 % 17) ∨ (s / 16 / 17 ≠ 16 ∧ s / 16 % 17 = 16 ∧ a' = s / 16 / 17 ∧ b' = c)) → post (nI (bz_n a' b')) (nI (bp_enc (s % 16) a' b'), 0, 0, fd, K, kD, kS, se, qu)) :
    wpX_putBox post (nI s, pc, kp, fd, K, kD, kS, se, qu) (nI c) := by
  have t84 : ∀ a' b', a' < 17 → b' < 17 → post (nI (bz_n a' b')) (nI (bp_enc (s % 16) a' b'), 0, 0, fd, K, kD, kS, se, qu) → wX_putBox_84 post (nI (s % 16)) (nI a') (nI b') (nI s) pc kp fd K kD kS se qu := by
    intro a' b' ha hb h
    obtain ⟨d1, d2, d3, d4⟩ := bp_dec (p := s % 16) (a := a') (b := b') (by omega) hb
    unfold wX_putBox_84
    refine wx_stateOf ?_
    unfold wpX_forgetMoves
    dsimp only
    refine wx_boxCount (by unfold bp_enc; omega) ?_
    rw [d3, d4]
    exact h
  unfold wpX_putBox
  dsimp only
  refine wx_pusherOf (by omega) ?_
  refine wx_first (by omega) ?_
  refine wx_second (by omega) ?_
  refine ⟨vp_in_nI hc (by decide), ?_⟩
  rw [nI_clamp (by omega)]
  refine br_c (fun z => hT (Or.inl z)) (fun z => ?_)
  refine pk_eq (s % 16) c (fun y => hT (Or.inr (Or.inl y.symm))) (fun y => ?_)
  refine pk_eq (s / 16 / 17) c (fun w => hT (Or.inr (Or.inr (Or.inl w.symm)))) (fun w => ?_)
  refine pk_eq (s / 16 % 17) c (fun q => hT (Or.inr (Or.inr (Or.inr q.symm)))) (fun q => ?_)
  have hno : ¬ (K c = 1 ∨ c = s % 16 ∨ c = s / 16 / 17 ∨ c = s / 16 % 17) := by
    rintro (h | h | h | h)
    · exact z h
    · exact y h.symm
    · exact w h.symm
    · exact q h.symm
  refine pk_eq (s / 16 / 17) 16 (fun e => ?_) (fun e => pk_eq (s / 16 % 17) 16 (fun e2 => ?_) (fun e2 => hF hno e e2))
  · unfold wX_putBox_70
    exact br_t (congrArg nI e) (t84 _ _ (by omega) (by omega) (hY _ _ (by omega) (by omega) hno (Or.inl ⟨e, rfl, rfl⟩)))
  · unfold wX_putBox_70
    exact br_f (fun x => e ((nI_eq (b := 16) (by omega) (by decide)).mp x)) (t84 _ _ (by omega) (by omega) (hY _ _ (by omega) (by omega) hno (Or.inr ⟨e, e2, rfl, rfl⟩)))
end
section
variable {kp ps tc tb : Int32} {K mv ts lv : Nat → Int32}
theorem wy_box111 {post : Int32 → SY → Prop} {bo pu : Int32} {m' : Nat} (hl : m' < 65536) (h : post (nI (bp_cnt (fun c => decide (bp_has m' c)) 16)) (nI m', pu, 0, 0, tc, tb, K, mv, ts, lv)) : wY_box_111 post (nI m') bo pu kp ps tc tb K mv ts lv := by
  unfold wY_box_111 wpY_forget
  dsimp only
  exact wy_size hl h
theorem wy_box0 {post : Int32 → SY → Prop} {m p c m' : Nat} (hm : m < 65536) (hc : c < 16) (hN : ¬ bp_has m c → post (-6) (nI m, nI p, kp, ps, tc, tb, K, mv, ts, lv))
    (hb : bp_has m c → nI m &&& (((1 : Int32) <<< (nI c &&& 31)) ^^^ (-1)) = nI m' ∧ m' < 65536)
    (hY : bp_has m c → post (nI (bp_cnt (fun c => decide (bp_has m' c)) 16)) (nI m', nI p, 0, 0, tc, tb, K, mv, ts, lv)) : wpY_box post (nI m, nI p, kp, ps, tc, tb, K, mv, ts, lv) (nI c) 0 := by
  unfold wpY_box
  dsimp only
  refine wy_bad (by omega) (fun _ => br_t rfl (br_t rfl ?_)) (fun y => absurd hc (by omega))
  unfold wY_box_47
  refine br_t rfl ?_
  unfold wY_box_66
  refine br_t rfl (wy_has hm hc (fun hh => br_f (by decide) ?_) (fun hh => br_t rfl (hN hh)))
  unfold wY_box_85
  refine br_t rfl ?_
  rw [(hb hh).1]
  exact wy_box111 (hb hh).2 (hY hh)
theorem wy_box1 {post : Int32 → SY → Prop} {m p c m' : Nat} (hm : m < 65536) (hp : p < 16) (hc : c < 16)
    (hT : (K c = 1 ∨ c = p ∨ bp_has m c) → post (-3) (nI m, nI p, kp, ps, tc, tb, K, mv, ts, lv))
    (hF : ¬ (K c = 1 ∨ c = p ∨ bp_has m c) → bp_cnt (fun c => decide (bp_has m c)) 16 = 2 → post (-4) (nI m, nI p, kp, ps, tc, tb, K, mv, ts, lv))
    (hb : ¬ (K c = 1 ∨ c = p ∨ bp_has m c) → bp_cnt (fun c => decide (bp_has m c)) 16 ≠ 2 → nI m ||| ((1 : Int32) <<< (nI c &&& 31)) = nI m' ∧ m' < 65536)
    (hY : ¬ (K c = 1 ∨ c = p ∨ bp_has m c) → bp_cnt (fun c => decide (bp_has m c)) 16 ≠ 2 → post (nI (bp_cnt (fun c => decide (bp_has m' c)) 16)) (nI m', nI p, 0, 0, tc, tb, K, mv, ts, lv)) : wpY_box post (nI m, nI p, kp, ps, tc, tb, K, mv, ts, lv) (nI c) 1 := by
  unfold wpY_box
  dsimp only
  refine wy_bad (by omega) (fun _ => br_t rfl (br_f (by decide) ⟨vp_in_nI hc (by decide), ?_⟩)) (fun y => absurd hc (by omega))
  rw [nI_clamp (by omega)]
  refine br_c (fun z => hT (Or.inl z)) (fun z => ?_)
  refine pk_eq c p (fun y => hT (Or.inr (Or.inl y))) (fun y => ?_)
  refine wy_has hm hc (fun hh => br_f (by decide) (hT (Or.inr (Or.inr hh)))) (fun hh => br_t rfl ?_)
  have hno : ¬ (K c = 1 ∨ c = p ∨ bp_has m c) := by
    rintro (h | h | h)
    · exact z h
    · exact y h
    · exact hh h
  unfold wY_box_47
  refine br_f (by decide) ?_
  have hle := bp_cle (fun c => decide (bp_has m c)) 16
  refine wy_size hm ?_
  refine pk_eq (bp_cnt (fun c => decide (bp_has m c)) 16) 2 (fun e => hF hno e) (fun e => ?_)
  unfold wY_box_66
  refine br_f (by decide) ?_
  unfold wY_box_85
  refine br_f (by decide) ?_
  rw [(hb hno e).1]
  exact wy_box111 (hb hno e).2 (hY hno e)
end
theorem i_vc_box {k : Nat} {u : SX} {v : SY} (I : i_Rel k u v) (hk : k + 3 ≤ 1536) (v1 : Int32) (v2 : Int32) : wpX_box (fun r u' => wpY_box (fun r' v' => r' = r ∧ i_Rel (k + 3) u' v') v v1 (lw_bz v2)) u v1 (lw_bz v2) := by
  have I' : i_Rel (k + 3) u v := I
  obtain ⟨x, n, pc, fd, tc, tb, K, kD, kS, se, qu, mv, ts, lv, rfl, rfl, hV, ho, hn, hKp, hts, hK⟩ := I
  have hs : x < 4624 := hV.1
  have out : (v1 < 0 ∨ nI 16 ≤ v1) → wpX_box (fun r u' => wpY_box (fun r' v' => r' = r ∧ i_Rel (k + 3) u' v') (nI (bp_nd x / 16), nI (x % 16), nI n, pc, tc, tb, K, mv, ts, lv) v1 (lw_bz v2)) (nI x, pc, nI n, fd, K, kD, kS, se, qu) v1 (lw_bz v2) := by
    intro z
    unfold wpX_box
    dsimp only
    refine wx_isCellN z (br_t rfl ?_)
    unfold wpY_box
    dsimp only
    exact wy_badN z (br_f (by decide) ⟨rfl, I'⟩)
  rcases pk_ix v1 (n := 16) (by decide) with z | z | ⟨c, hc, rfl⟩
  · exact out (Or.inl z)
  · exact out (Or.inr z)
  · clear out
    obtain ⟨hp, ha, hb, hab, hpa, hpb⟩ := hV.2
    have hH := bp_bmH _ ha _ hb c hc hab
    have e16 := (bp_ndD hV).2
    have hsz := bz_size _ ha _ hb hab
    rw [← e16] at hH hsz
    have hmL := bp_ndL hV
    have fin : ∀ a' b', bp_ok (x % 16) a' b' → i_Rel (k + 3) (nI (bp_enc (x % 16) a' b'), 0, 0, fd, K, kD, kS, se, qu) (nI (bp_bm a' b'), nI (x % 16), 0, 0, tc, tb, K, mv, ts, lv) := by
      intro a' b' hok
      have h1 := (bp_dec (a := a') hp hok.2.2.1).1
      have h2 : bp_nd (bp_enc (x % 16) a' b') / 16 = bp_bm a' b' := by
        rw [bp_ndE hp hok.2.2.1]
        omega
      have hR := iz_mk (k := k + 3) (n := 0) (pc := 0) (fd := fd) (tc := tc) (tb := tb) (K := K) (kD := kD) (kS := kS) (se := se) (qu := qu) (mv := mv) (ts := ts) (lv := lv) (bp_VE hok) (by rw [h1]; exact ho) (by omega) bz_K0 hts hK
      rw [h1, h2] at hR
      exact hR
    have cntE : ∀ a' b', bp_ok (x % 16) a' b' → bp_cnt (fun c => decide (bp_has (bp_bm a' b') c)) 16 = bz_n a' b' := fun a' b' hok => bz_size a' hok.2.1 b' hok.2.2.1 hok.2.2.2.1
    unfold wpX_box
    dsimp only
    refine wx_isCell (by omega) (fun _ => br_f (by decide) ?_) (fun z => absurd hc (by omega))
    rcases lw_bz_01 v2 with e | e
    · rw [e]
      refine br_t rfl (wx_take hs hc (fun hno => ?_) (fun a' b' ha' hb' hin => ?_))
      · exact wy_box0 (m' := 0) hmL hc (fun _ => ⟨rfl, I'⟩) (fun z => absurd (hH.mp z) hno) (fun z => absurd (hH.mp z) hno)
      · have hok : bp_ok (x % 16) a' b' := ⟨hp, ha', hb', by omega, by omega, by omega⟩
        refine wy_box0 (m' := bp_bm a' b') hmL hc (fun z => absurd (hH.mpr (by omega)) z) (fun _ => ⟨?_, bp_bmL a' ha' b' hb' hok.2.2.2.1⟩) (fun _ => ⟨congrArg nI (cntE a' b' hok), fin a' b' hok⟩)
        rw [e16]
        rcases hin with ⟨i1, i2, i3⟩ | ⟨i1, i2, i3, i4⟩
        · rw [i2, i3, ← i1]
          exact bi_take c hc _ hb (by omega)
        · rw [i3, i4, ← i2, bp_bmC _ c, bp_bmC _ 16]
          exact bi_take c hc _ ha (by omega)
    · rw [e]
      refine br_f (by decide) (wx_put hs hc (fun hin => ?_) (fun hno n1 n2 => ?_) (fun a' b' ha' hb' hno hin => ?_))
      · have hin' : K c = 1 ∨ c = x % 16 ∨ bp_has (bp_nd x / 16) c := by
          rcases hin with h | h | h
          · exact Or.inl h
          · exact Or.inr (Or.inl h)
          · exact Or.inr (Or.inr (hH.mpr h))
        exact wy_box1 (m' := 0) hmL hp hc (fun _ => ⟨rfl, I'⟩) (fun h => absurd hin' h) (fun h => absurd hin' h) (fun h => absurd hin' h)
      · have hno' : ¬ (K c = 1 ∨ c = x % 16 ∨ bp_has (bp_nd x / 16) c) := by
          rintro (h | h | h)
          · exact hno (Or.inl h)
          · exact hno (Or.inr (Or.inl h))
          · exact hno (Or.inr (Or.inr (hH.mp h)))
        rw [if_neg n1, if_neg n2] at hsz
        exact wy_box1 (m' := 0) hmL hp hc (fun h => absurd h hno') (fun _ _ => ⟨rfl, I'⟩) (fun _ h => absurd hsz h) (fun _ h => absurd hsz h)
      · have hno' : ¬ (K c = 1 ∨ c = x % 16 ∨ bp_has (bp_nd x / 16) c) := by
          rintro (h | h | h)
          · exact hno (Or.inl h)
          · exact hno (Or.inr (Or.inl h))
          · exact hno (Or.inr (Or.inr (hH.mp h)))
        have hcc : c ≠ x % 16 ∧ c ≠ x / 16 / 17 ∧ c ≠ x / 16 % 17 := ⟨fun h => hno (Or.inr (Or.inl h)), fun h => hno (Or.inr (Or.inr (Or.inl h))), fun h => hno (Or.inr (Or.inr (Or.inr h)))⟩
        have hok : bp_ok (x % 16) a' b' := ⟨hp, ha', hb', by omega, by omega, by omega⟩
        have hn2 : bp_cnt (fun c => decide (bp_has (bp_nd x / 16) c)) 16 ≠ 2 := by
          rw [hsz]
          rcases hin with ⟨i1, _⟩ | ⟨_, i1, _⟩
          · rw [if_pos i1]
            split <;> omega
          · rw [if_pos i1]
            split <;> omega
        refine wy_box1 (m' := bp_bm a' b') hmL hp hc (fun h => absurd h hno') (fun _ h => absurd h hn2) (fun _ _ => ⟨?_, bp_bmL a' ha' b' hb' hok.2.2.2.1⟩) (fun _ _ => ⟨congrArg nI (cntE a' b' hok), fin a' b' hok⟩)
        rw [e16]
        rcases hin with ⟨i1, i2, i3⟩ | ⟨i1, i2, i3, i4⟩
        · rw [i1, i2, i3]
          exact bz_put _ hb c hc hcc.2.2
        · rw [i2, i3, i4, bp_bmC _ 16, bp_bmC _ c]
          exact bz_put _ ha c hc hcc.2.1
