/-! move and undo -/
/-- a row of moves before a new one is kept: as it is, or its oldest dropped -/
def bz_Dr (n : Nat) (a a1 : Nat → Int32) (n1 : Nat) : Prop := (n < 20 ∧ a1 = a ∧ n1 = n) ∨ (n = 20 ∧ n1 = 19 ∧ ∀ j, j < 19 → a1 j = a (j + 1))
theorem bz_Kdr {K kS kD mv kS1 kD1 mv1 : Nat → Int32} {n n1 n2 n3 x : Nat} (h : bz_Kp K kS kD mv n x) (h1 : bz_Dr n kS kS1 n1) (h2 : bz_Dr n kD kD1 n2) (h3 : bz_Dr n mv mv1 n3) : n1 < 20 ∧ n2 = n1 ∧ n3 = n1 ∧ bz_Kp K kS1 kD1 mv1 n1 x := by
  rcases h1 with ⟨a1, a2, a3⟩ | ⟨a1, a2, a3⟩
  · rcases h2 with ⟨b1, b2, b3⟩ | ⟨b1, _⟩
    · rcases h3 with ⟨c1, c2, c3⟩ | ⟨c1, _⟩
      · refine ⟨by omega, by omega, by omega, ?_⟩
        rw [a2, b2, c2, a3]
        exact h
      · omega
    · omega
  · rcases h2 with ⟨b1, _⟩ | ⟨b1, b2, b3⟩
    · omega
    · rcases h3 with ⟨c1, _⟩ | ⟨c1, c2, c3⟩
      · omega
      · refine ⟨by omega, by omega, by omega, ?_⟩
        rw [a1] at h
        rw [a2]
        exact bz_Kshift (n := 19) h a3 b3 c3
section
variable {st pc kp fd : Int32} {K kD kS se qu : Nat → Int32}
theorem wx_drop {post : SX → Prop} (h : ∀ kD1 kS1, (∀ j, j < 19 → kD1 j = kD (j + 1)) → (∀ j, j < 19 → kS1 j = kS (j + 1)) → post (st, pc, 19, fd, K, kD1, kS1, se, qu)) : wpX_dropOldestMove post (st, pc, kp, fd, K, kD, kS, se, qu) := by
  unfold wpX_dropOldestMove
  dsimp only
  refine pk_loop (σ := (Nat → Int32) × (Nat → Int32)) (fun n i t => wX_dropOldestMove_2 post st pc kp fd n (nI i) K t.1 t.2 se qu)
    (fun i t => 1 ≤ i ∧ (∀ j, t.1 j = if j + 1 < i then kD (j + 1) else kD j) ∧ (∀ j, t.2 j = if j + 1 < i then kS (j + 1) else kS j)) 20 1 (kD, kS) (by omega) ⟨by omega, fun j => (if_neg (by omega)).symm, fun j => (if_neg (by omega)).symm⟩ ?_ ?_
  · intro n ⟨d1, s1⟩ ⟨_, e1, e2⟩
    dsimp only at e1 e2 ⊢
    refine br_t (nI_le (b := 20) (Nat.le_refl _) (by decide)) (h d1 s1 (fun j hj => ?_) (fun j hj => ?_))
    · rw [e1 j, if_pos (by omega)]
    · rw [e2 j, if_pos (by omega)]
  · intro n i ⟨d1, s1⟩ hi ⟨h0, e1, e2⟩ hk
    dsimp only at e1 e2 ⊢
    have em : nI i - 1 = nI (i - 1) := pk_sub (b := 1) h0
    refine br_f (nI_ge (b := 20) hi (by decide)) ?_
    rw [em, nI_clamp (by omega), nI_clamp (by omega)]
    refine ⟨vp_in_nI hi (by decide), vp_in_nI (by omega) (by decide), nm_e ⟨vp_in_nI hi (by decide), vp_in_nI (by omega) (by decide), nm_e (nm_r (nI_1 i) (hk (_, _) ⟨by omega, fun j => ?_, fun j => ?_⟩))⟩⟩
    · show upd d1 (i - 1) (d1 i) j = _
      by_cases z : j = i - 1
      · rw [z, pk_us, e1 i, if_neg (by omega), if_pos (by omega)]
        exact congrArg kD (by omega)
      · rw [pk_un z, e1 j]
        by_cases y : j + 1 < i
        · rw [if_pos y, if_pos (by omega)]
        · rw [if_neg y, if_neg (by omega)]
    · show upd s1 (i - 1) (s1 i) j = _
      by_cases z : j = i - 1
      · rw [z, pk_us, e2 i, if_neg (by omega), if_pos (by omega)]
        exact congrArg kS (by omega)
      · rw [pk_un z, e2 j]
        by_cases y : j + 1 < i
        · rw [if_pos y, if_pos (by omega)]
        · rw [if_neg y, if_neg (by omega)]
theorem wx_keep13 {post : SX → Prop} {n : Nat} {d : Int32} (hn : n < 20) (h : post (st, pc, nI (n + 1), fd, K, upd kD n d, upd kS n st, se, qu)) : wX_keepMove_13 post d st pc (nI n) fd K kD kS se qu := by
  unfold wX_keepMove_13
  rw [nI_clamp (by omega)]
  exact ⟨vp_in_nI hn (by decide), nm_e ⟨vp_in_nI hn (by decide), nm_e (nm_r (nI_1 n) h)⟩⟩
theorem wx_keep {post : SX → Prop} {n : Nat} {d : Int32} (hn : n ≤ 20)
    (h : ∀ kD1 kS1 n1, n1 < 20 → bz_Dr n kD kD1 n1 → bz_Dr n kS kS1 n1 → post (st, pc, nI (n1 + 1), fd, K, upd kD1 n1 d, upd kS1 n1 st, se, qu)) : wpX_keepMove post (st, pc, nI n, fd, K, kD, kS, se, qu) d := by
  unfold wpX_keepMove
  dsimp only
  refine pk_lt n 20 (fun z => wx_keep13 z (h kD kS n z (Or.inl ⟨z, rfl, rfl⟩) (Or.inl ⟨z, rfl, rfl⟩))) (fun z => ?_)
  refine wx_drop (fun kD1 kS1 e1 e2 => ?_)
  exact wx_keep13 (n := 19) (by decide) (h kD1 kS1 19 (by decide) (Or.inr ⟨by omega, rfl, e1⟩) (Or.inr ⟨by omega, rfl, e2⟩))
/-- move on the class's side, the direction being one -/
theorem wx_move {post : Int32 → SX → Prop} {s n d : Nat} (hV : bp_V s) (hd : d < 4) (hn : n ≤ 20) (h0 : bp_step K s d = none → post (-5) (nI s, pc, nI n, fd, K, kD, kS, se, qu))
    (h1 : ∀ t kD1 kS1 n1, bp_step K s d = some t → n1 < 20 → bz_Dr n kD kD1 n1 → bz_Dr n kS kS1 n1 → post (nI (bz_ps s t)) (nI t, pc + nI (bz_ps s t), nI (n1 + 1), fd, K, upd kD1 n1 (nI d), upd kS1 n1 (nI s), se, qu)) :
    wpX_move post (nI s, pc, nI n, fd, K, kD, kS, se, qu) (nI d) := by
  have hs : s < 4624 := hV.1
  unfold wpX_move
  dsimp only
  refine br_f (nI_pos (by omega)) (br_t (nI_lt (b := 4) hd (by decide)) ?_)
  refine wx_stateAfter hV hd (fun hno => br_t rfl (h0 hno)) (fun t ht => ?_)
  obtain ⟨vt, _⟩ := bp_stV hV hd ht
  have ht4 : t < 4624 := vt.1
  have hneg : ¬ nI t = -1 := by
    intro z
    have h1 : ¬ nI t < 0 := nI_pos (by omega)
    rw [z] at h1
    exact h1 (by decide)
  refine br_f hneg ?_
  refine wx_isPush (by omega) (by omega) (fun z => br_t rfl ?_) (fun z => br_f (by decide) ?_)
  · have e : bz_ps s t = 0 := if_pos z
    unfold wX_move_46
    refine wx_keep hn (fun kD1 kS1 n1 l1 l2 l3 => nm_e ?_)
    have := h1 t kD1 kS1 n1 ht l1 l2 l3
    rw [e] at this
    exact this
  · have e : bz_ps s t = 1 := if_neg z
    unfold wX_move_46
    refine wx_keep hn (fun kD1 kS1 n1 l1 l2 l3 => nm_e ?_)
    have := h1 t kD1 kS1 n1 ht l1 l2 l3
    rw [e] at this
    exact this
end
section
variable {bo pu kp ps tc tb : Int32} {K mv ts lv : Nat → Int32}
theorem wy_m104 {post : Int32 → SY → Prop} {n d w : Nat} (hn : n < 20) (h : post (nI w) (bo, pu, nI (n + 1), ps, tc, tb, K, upd mv n (nI (d + 4 * w)), ts, lv)) : wY_move_104 post (nI d) (nI (w + 1)) bo pu (nI n) ps tc tb K mv ts lv := by
  unfold wY_move_104
  rw [nI_clamp (by omega), nI_pred w, show (4 : Int32) * nI w = nI (4 * w) from pk_mul 4 w, nI_add]
  exact ⟨vp_in_nI hn (by decide), nm_e (nm_r (nI_1 n) h)⟩
theorem wy_drop {post : Int32 → SY → Prop} {x1 x2 : Int32} (h : ∀ mv1, (∀ j, j < 19 → mv1 j = mv (j + 1)) → wY_move_104 post x1 x2 bo pu 19 ps tc tb K mv1 ts lv) : ∃ n, wY_move_72 post x1 x2 bo pu kp ps tc tb n 0 K mv ts lv := by
  refine loop_0 (fun n i t => wY_move_72 post x1 x2 bo pu kp ps tc tb n (nI i) K t ts lv) (fun i t => ∀ j, t j = if j < i then mv (j + 1) else mv j) 19 mv (fun j => (if_neg (by omega)).symm) ?_ ?_
  · intro n t hI
    exact br_t (nI_le (b := 19) (Nat.le_refl _) (by decide)) (h t (fun j hj => by rw [hI j, if_pos hj]))
  · intro n i t hi hI hk
    refine br_f (nI_ge (b := 19) hi (by decide)) ?_
    rw [nI_1 i, nI_clamp (by omega), nI_clamp (by omega)]
    refine ⟨vp_in_nI (by omega) (by decide), vp_in_nI (by omega) (by decide), nm_e (nm_e (hk _ (fun j => ?_)))⟩
    by_cases z : j = i
    · rw [z, pk_us, hI (i + 1), if_neg (by omega), if_pos (by omega)]
    · rw [pk_un z, hI j]
      by_cases y : j < i
      · rw [if_pos y, if_pos (by omega)]
      · rw [if_neg y, if_neg (by omega)]
/-- move on the reference's side -/
theorem wy_move {post : Int32 → SY → Prop} {x n d : Nat} (hV : bp_V x) (hd : d < 4) (hn : n ≤ 20) (h0 : bp_ns K (bp_nd x) d = none → ∀ tc' tb', post (-5) (nI (bp_nd x / 16), nI (x % 16), nI n, ps, tc', tb', K, mv, ts, lv))
    (h1 : ∀ M mv1 n1 w, bp_ns K (bp_nd x) d = some M → w = (if bp_nd x / 16 = M / 16 then 0 else 1) → n1 < 20 → bz_Dr n mv mv1 n1 → post (nI w) (nI (M / 16), nI (M % 16), nI (n1 + 1), ps + nI w, nI (M % 16), nI (M / 16), K, upd mv1 n1 (nI (d + 4 * w)), ts, lv)) :
    wpY_move post (nI (bp_nd x / 16), nI (x % 16), nI n, ps, tc, tb, K, mv, ts, lv) (nI d) := by
  unfold wpY_move
  dsimp only
  refine br_f (nI_pos (by omega)) (br_t (nI_le (b := 3) (by omega) (by decide)) ?_)
  refine wy_step hV hd (fun hno tc' tb' => br_t rfl (h0 hno tc' tb')) (fun M hM => ?_)
  have key : ∀ w, w = (if bp_nd x / 16 = M / 16 then 0 else 1) → w ≤ 1 → (if bp_nd x / 16 = M / 16 then (1 : Int32) else 2) = nI (w + 1) := by
    intro w hw _
    rw [hw]
    by_cases z : bp_nd x / 16 = M / 16
    · rw [if_pos z, if_pos z]; rfl
    · rw [if_neg z, if_neg z]; rfl
  obtain ⟨w, hw⟩ : ∃ w, w = (if bp_nd x / 16 = M / 16 then 0 else 1) := ⟨_, rfl⟩
  have hw1 : w ≤ 1 := by rw [hw]; split <;> omega
  rw [key w hw hw1]
  refine br_f (nI_ne0 (by omega) (by omega)) ?_
  have ep : ps + nI (w + 1) - 1 = ps + nI w := by
    rw [← nI_1 w, ← Int32.add_assoc, Int32.add_sub_cancel]
  refine nm_r ep ?_
  refine pk_eq n 20 (fun z => ?_) (fun z => ?_)
  · refine wy_drop (fun mv1 hm => ?_)
    exact wy_m104 (n := 19) (by decide) (h1 M mv1 19 w hM hw (by decide) (Or.inr ⟨z, rfl, hm⟩))
  · exact wy_m104 (by omega) (h1 M mv n w hM hw (by omega) (Or.inl ⟨by omega, rfl, rfl⟩))
end
theorem i_vc_move {k : Nat} {u : SX} {v : SY} (I : i_Rel k u v) (hk : k + 3 ≤ 1536) (v1 : Int32) : wpX_move (fun r u' => wpY_move (fun r' v' => r' = r ∧ i_Rel (k + 3) u' v') v v1) u v1 := by
  have I' : i_Rel (k + 3) u v := I
  obtain ⟨x, n, pc, fd, tc, tb, K, kD, kS, se, qu, mv, ts, lv, rfl, rfl, hV, ho, hn, hKp, hts, hK⟩ := I
  have hs : x < 4624 := hV.1
  rcases pk_ix v1 (n := 4) (by decide) with z | z | ⟨d, hd, rfl⟩
  · unfold wpX_move wpY_move
    dsimp only
    exact br_t z (br_t z ⟨rfl, I'⟩)
  · have z0 : ¬ v1 < 0 := Int32.not_lt.mpr (Int32.le_trans (show (0 : Int32) ≤ nI 4 by decide) z)
    have z4 : ¬ v1 < 4 := Int32.not_lt.mpr z
    have z3 : ¬ v1 ≤ 3 := by
      intro y
      have := Int32.le_trans z y
      exact absurd this (by decide)
    unfold wpX_move wpY_move
    dsimp only
    exact br_f z0 (br_f z4 (br_f z0 (br_f z3 ⟨rfl, I'⟩)))
  · refine wx_move hV hd hn (fun hno => ?_) (fun t kD1 kS1 n1 ht l1 l2 l3 => ?_)
    · refine wy_move hV hd hn (fun _ tc' tb' => ⟨rfl, iz_mk hV ho hn hKp hts hK⟩) (fun M mv1 n1 w hM => ?_)
      rcases bp_comm K hV hd with ⟨_, c2⟩ | ⟨t, c1, _⟩
      · rw [hM] at c2; cases c2
      · rw [hno] at c1; cases c1
    · obtain ⟨vt, hns, hiff⟩ := bp_stV hV hd ht
      refine wy_move hV hd hn (fun hno => ?_) (fun M mv1 n2 w hM hw m1 m2 => ?_)
      · rw [hns] at hno; cases hno
      · rw [hns] at hM
        have e := Option.some.inj hM
        subst e
        have ew : w = bz_ps x t := by
          rw [hw]
          unfold bz_ps
          by_cases z : x / 16 = t / 16
          · rw [if_pos z, if_pos (hiff.mp z)]
          · rw [if_neg z, if_neg (fun y => z (hiff.mpr y))]
        obtain ⟨q1, q2, q3, q4⟩ := bz_Kdr hKp l3 l2 m2
        have e2 : n2 = n1 := q3
        subst e2
        subst ew
        refine ⟨rfl, ?_⟩
        rw [(bp_ndD vt).1]
        have hot : bp_op K (t % 16) := by
          rcases bp_comm K hV hd with ⟨c1, _⟩ | ⟨t', c1, _, _, _, c5, _⟩
          · rw [ht] at c1; cases c1
          · rw [ht] at c1
            cases Option.some.inj c1
            exact c5
        exact iz_mk vt hot (by omega) (bz_Kpush q4 hd hV ho ht) hts hK
theorem i_vc_undo {k : Nat} {u : SX} {v : SY} (I : i_Rel k u v) (hk : k + 3 ≤ 1536) : wpX_undo (fun r u' => wpY_undo (fun r' v' => r' = r ∧ i_Rel (k + 3) u' v') v) u := by
  have I' : i_Rel (k + 3) u v := I
  obtain ⟨x, n, pc, fd, tc, tb, K, kD, kS, se, qu, mv, ts, lv, rfl, rfl, hV, ho, hn, hKp, hts, hK⟩ := I
  have hs : x < 4624 := hV.1
  unfold wpX_undo wpY_undo
  dsimp only
  cases n with
  | zero => exact br_t (by decide) (br_t rfl ⟨rfl, I'⟩)
  | succ n =>
    obtain ⟨y, d, hd, hVy, hoy, hst, e1, e2, e3, hKp'⟩ := bz_Kpop hKp
    have hy : y < 4624 := hVy.1
    obtain ⟨_, hot, hnb, hd1, halt⟩ := bp_back hVy hd hoy hst
    have hx16 : x % 16 < 16 := by omega
    obtain ⟨gp, ga, gb, gab, _⟩ := hV.2
    have hrem : (d + 4 * bz_ps y x) % 4 = d := by omega
    have hps : bz_ps y x = 0 ∨ bz_ps y x = 1 := by unfold bz_ps; split; exact Or.inl rfl; exact Or.inr rfl
    have hxor : nI d ^^^ 1 = nI (d ^^^ 1) := nx_xor d 1
    have und : ∀ (r : Int32) (bo' ps' : Int32) (su : SX), r = nI d → i_Rel (k + 3) su (bo', nI (y % 16), nI n, ps', tc, tb, K, mv, ts, lv) → wY_undo_86 (fun r' v' => r' = r ∧ i_Rel (k + 3) su v') (nI d) bo' (nI (x % 16)) (nI n) ps' tc tb K mv ts lv := by
      intro r bo' ps' su hr hR
      unfold wY_undo_86
      rw [hxor]
      refine wy_next hx16 hd1 (fun _ => ?_) (fun q => ?_)
      · rw [hnb]
        exact ⟨hr.symm, hR⟩
      · rw [hnb] at q
        exact absurd hoy q
    refine br_f (nI_nle (by omega) (by omega)) (br_t (nI_le (b := 20) hn (by decide)) (nm_r (nI_pred n) ?_))
    rw [nI_clamp (by omega)]
    refine ⟨vp_in_nI (by omega) (by decide), nm_r e1 ?_⟩
    refine wx_isPush (by omega) (by omega) (fun z => br_t rfl ?_) (fun z => br_f (by decide) (nm_e ?_))
    · have ep : bz_ps y x = 0 := if_pos z
      unfold wX_undo_60
      rw [nI_clamp (by omega), e2]
      refine ⟨vp_in_nI (by omega) (by decide), ?_⟩
      refine br_f (nI_ne0 (by omega) (by omega)) (nm_r (nI_pred n) ?_)
      rw [nI_clamp (by omega), e3, bi_p4 (by omega), hrem, ep]
      refine ⟨vp_in_nI (by omega) (by decide), by decide, nm_e ⟨vp_in_nI (by omega) (by decide), br_t (nI_le (b := 3) (by omega) (by decide)) ?_⟩⟩
      refine und _ _ _ _ rfl ?_
      rcases halt with ⟨_, h2⟩ | ⟨h2, _⟩
      · rw [← h2]
        exact iz_mk hVy hoy (by omega) hKp' hts hK
      · exact absurd z h2
    · have ep : bz_ps y x = 1 := if_neg z
      unfold wX_undo_60
      rw [nI_clamp (by omega), e2]
      refine ⟨vp_in_nI (by omega) (by decide), ?_⟩
      refine br_f (nI_ne0 (by omega) (by omega)) (nm_r (nI_pred n) ?_)
      rw [nI_clamp (by omega), e3, bi_p4 (by omega), hrem, ep]
      refine ⟨vp_in_nI (by omega) (by decide), by decide, nm_e ⟨vp_in_nI (by omega) (by decide), br_f (nI_ge (a := 3) (by omega) (by omega)) ?_⟩⟩
      rcases halt with ⟨h2, _⟩ | ⟨_, h3, h4, h5, h6⟩
      · exact absurd h2 z
      · refine wy_next hx16 hd (fun _ => ?_) (fun q => absurd h3 q)
        rw [(bp_ndD hV).2] at h4 h5 h6 ⊢
        refine nm_r (bi_mvN ga gb gab h3.1 hx16 h4 h5) (nm_e ?_)
        rw [← h6]
        refine und _ _ _ _ rfl ?_
        exact iz_mk hVy hoy (by omega) hKp' hts hK
