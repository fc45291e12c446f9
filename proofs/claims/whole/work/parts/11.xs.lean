/-! the class's searches -/
section
variable {st pc kp fd : Int32} {K kD kS se qu : Nat → Int32}
theorem wx_nb0 : vp_nar .boolean 0 = 0 := rfl
theorem wx_nb1 : vp_nar .boolean 1 = 1 := rfl
theorem wx_reach {post : SX → Prop} {q : Nat → Nat} {f s : Nat} (hR : bp_Rep se qu q f) (hV : bp_V s)
    (h : ∀ se' qu' q' f', bp_Rep se' qu' q' f' → bp_G q f q' f' (fun x => x = s) → post (st, pc, kp, nI f', K, kD, kS, se', qu')) :
    wpX_reach post (st, pc, kp, nI f, K, kD, kS, se, qu) (nI s) := by
  have hs : s < 4624 := hV.1
  have hf := bp_RepLe hR
  unfold wpX_reach
  dsimp only
  refine br_f (nI_pos (by omega)) (br_f (nI_ge (b := 4624) hs (by decide)) ?_)
  by_cases e : se s = 1
  · have hk := h se qu q f hR (bp_Rin hR hs e)
    refine pk_lt f 4624 (fun z => ⟨vp_in_nI hs (by decide), ?_⟩) (fun _ => hk)
    rw [nI_clamp (by omega)]
    exact br_f (by rw [e]; decide) hk
  · obtain ⟨hlt, hR', hG⟩ := bp_Rnew hR hV e
    have e0 : se s = 0 := by
      rcases hR.2.1 s hs with z | z
      · exact absurd z.1 e
      · exact z.1
    refine pk_lt f 4624 (fun z => ⟨vp_in_nI hs (by decide), ?_⟩) (fun z => absurd hlt (by omega))
    rw [nI_clamp (by omega)]
    refine br_t e0 ⟨vp_in_nI hs (by decide), nm_e ⟨vp_in_nI hlt (by decide), nm_e (nm_r (nI_1 f) ?_)⟩⟩
    rw [nI_clamp (by omega), wx_nb1]
    exact h _ _ _ _ hR' hG
theorem wx_clear {post : SX → Prop} (h : ∀ se', (∀ s, s < 4624 → se' s = 0) → post (st, pc, kp, nI 0, K, kD, kS, se', qu)) : wpX_clearSearch post (st, pc, kp, fd, K, kD, kS, se, qu) := by
  unfold wpX_clearSearch
  dsimp only
  refine loop_0 (fun n i s => wX_clearSearch_2 post st pc kp fd n (nI i) K kD kS s qu) (fun i s => ∀ j, j < i → s j = 0) 4624 se (fun j hj => by omega) ?_ ?_
  · intro n s hI
    exact br_t (nI_le (b := 4624) (Nat.le_refl _) (by decide)) (h s hI)
  · intro n i s hi hI hk
    refine br_f (nI_ge (b := 4624) hi (by decide)) ⟨vp_in_nI hi (by decide), nm_e (nm_r (nI_1 i) (hk _ ?_))⟩
    intro j hj
    rw [nI_clamp (by omega), wx_nb0]
    by_cases z : j = i
    · rw [z]; exact pk_us
    · rw [pk_un z]; exact hI j (by omega)
theorem wx_searchFrom {post : SX → Prop} {s : Nat} (hV : bp_V s)
    (h : ∀ se' qu' q' f', bp_Rep se' qu' q' f' → (∀ i, i < f' → q' i = s) → (∃ i, i < f' ∧ q' i = s) → post (st, pc, kp, nI f', K, kD, kS, se', qu')) :
    wpX_searchFrom post (st, pc, kp, fd, K, kD, kS, se, qu) (nI s) := by
  unfold wpX_searchFrom
  dsimp only
  refine wx_clear (fun se' h0 => ?_)
  refine wx_reach (q := fun _ => 0) (bp_Rep0 h0) hV (fun se'' qu'' q' f' hR hG => ?_)
  exact h se'' qu'' q' f' hR (fun i hi => hG.2.2.1 i (Nat.zero_le i) hi) (hG.2.2.2 s rfl)
def wx_pf (s x : Nat) : Int32 := if s / 16 = x / 16 then 0 else 1
theorem wx_reachByMoves {post : SX → Prop} {q : Nat → Nat} {f s : Nat} {pf : Int32} (hR : bp_Rep se qu q f) (hV : bp_V s)
    (h : ∀ se' qu' q' f', bp_Rep se' qu' q' f' → bp_G q f q' f' (fun x => ∃ d, d < 4 ∧ bp_step K s d = some x ∧ wx_pf s x = pf) → post (st, pc, kp, nI f', K, kD, kS, se', qu')) :
    wpX_reachByMoves post (st, pc, kp, nI f, K, kD, kS, se, qu) (nI s) pf := by
  have hs : s < 4624 := hV.1
  unfold wpX_reachByMoves
  dsimp only
  refine loop_0 (σ := (Nat → Int32) × (Nat → Int32) × Int32) (fun n i s3 => wX_reachByMoves_2 post (nI s) pf n (nI i) st pc kp s3.2.2 K kD kS s3.1 s3.2.1)
    (fun i s3 => ∃ q' f', s3.2.2 = nI f' ∧ bp_Rep s3.1 s3.2.1 q' f' ∧ bp_G q f q' f' (fun x => ∃ d, d < i ∧ bp_step K s d = some x ∧ wx_pf s x = pf)) 4 (se, qu, nI f) ?_ ?_ ?_
  · exact ⟨q, f, rfl, hR, bp_Gr (fun x ⟨d, hd, _⟩ => by omega)⟩
  · intro n ⟨se1, qu1, fd1⟩ ⟨q', f', e1, e2, e3⟩
    dsimp only at e1 e2 e3 ⊢
    subst e1
    exact br_t (nI_le (b := 4) (Nat.le_refl _) (by decide)) (h _ _ _ _ e2 e3)
  · intro n i ⟨se1, qu1, fd1⟩ hi ⟨q', f', e1, e2, e3⟩ hk
    dsimp only at e1 e2 e3 ⊢
    subst e1
    refine br_f (nI_ge (b := 4) hi (by decide)) ?_
    have skip : (∀ x, (∃ d, d < i + 1 ∧ bp_step K s d = some x ∧ wx_pf s x = pf) → ∃ d, d < i ∧ bp_step K s d = some x ∧ wx_pf s x = pf) → wX_reachByMoves_2 post (nI s) pf n (nI (i + 1)) st pc kp (nI f') K kD kS se1 qu1 := by
      intro hsk
      exact hk (se1, qu1, nI f') ⟨q', f', rfl, e2, bp_Gi e3 (fun x => ⟨fun ⟨d, hd, y⟩ => ⟨d, by omega, y⟩, hsk x⟩)⟩
    refine wx_stateAfter hV hi (fun hn => ?_) (fun t ht => ?_)
    · refine br_t rfl (nm_r (nI_1 i) (skip ?_))
      intro x ⟨d, hd, y1, y2⟩
      by_cases z : d = i
      · rw [z, hn] at y1; cases y1
      · exact ⟨d, by omega, y1, y2⟩
    · obtain ⟨vt, _⟩ := bp_stV hV hi ht
      have ht4 : t < 4624 := vt.1
      have hne : ¬ nI t = -1 := by
        intro z
        have h1 : ¬ nI t < 0 := nI_pos (by omega)
        rw [z] at h1
        exact h1 (by decide)
      refine br_f hne ?_
      have yes : wx_pf s t = pf → wpX_reach (fun u => match u with | (f_state_18, f_pushCount_19, f_kept_20, f_found_21, a_kinds_22, a_keptDirections_23, a_keptStates_24, a_seen_25, a_queue_26) => ∀ x3_27 : Int32, x3_27 = nI i + 1 → wX_reachByMoves_2 post (nI s) pf n x3_27 f_state_18 f_pushCount_19 f_kept_20 f_found_21 a_kinds_22 a_keptDirections_23 a_keptStates_24 a_seen_25 a_queue_26) (st, pc, kp, nI f', K, kD, kS, se1, qu1) (nI t) := by
        intro hp
        refine wx_reach e2 vt (fun se2 qu2 q2 f2 r2 g2 => nm_r (nI_1 i) ?_)
        refine hk (se2, qu2, nI f2) ⟨q2, f2, rfl, r2, bp_Gi (bp_Gt e3 g2) (fun x => ⟨?_, ?_⟩)⟩
        · rintro (⟨d, hd, y⟩ | y)
          · exact ⟨d, by omega, y⟩
          · exact ⟨i, by omega, by rw [y]; exact ht, by rw [y]; exact hp⟩
        · rintro ⟨d, hd, y1, y2⟩
          by_cases z : d = i
          · rw [z, ht] at y1
            exact Or.inr (Option.some.inj y1).symm
          · exact Or.inl ⟨d, by omega, y1, y2⟩
      have no : ¬ wx_pf s t = pf → wX_reachByMoves_2 post (nI s) pf n (nI (i + 1)) st pc kp (nI f') K kD kS se1 qu1 := by
        intro hp
        refine skip ?_
        intro x ⟨d, hd, y1, y2⟩
        by_cases z : d = i
        · rw [z, ht] at y1
          have := Option.some.inj y1
          rw [← this] at y2
          exact absurd y2 hp
        · exact ⟨d, by omega, y1, y2⟩
      refine wx_isPush (by omega) (by omega) (fun z => ?_) (fun z => ?_)
      · have e : wx_pf s t = 0 := if_pos z
        rw [e] at yes no
        exact br_c (fun y => yes y) (fun y => nm_r (nI_1 i) (no y))
      · have e : wx_pf s t = 1 := if_neg z
        rw [e] at yes no
        exact br_c (fun y => yes y) (fun y => nm_r (nI_1 i) (no y))
theorem wx_pf01 (s x : Nat) : wx_pf s x = 0 ∨ wx_pf s x = 1 := by
  unfold wx_pf
  split
  · exact Or.inl rfl
  · exact Or.inr rfl
theorem wx_pfw {K : Nat → Int32} {x d t : Nat} (hx : bp_V x) (hd : d < 4) (hs : bp_step K x d = some t) : (wx_pf x t = 1 ↔ bp_w true (bp_nd x) (bp_nd t) = 1) ∧ (wx_pf x t = 0 ↔ bp_w true (bp_nd x) (bp_nd t) = 0) := by
  rw [bp_wst hx hd hs]
  unfold wx_pf
  by_cases z : x / 16 = t / 16
  · rw [if_pos z, if_pos ⟨rfl, z⟩]
    exact ⟨⟨fun y => absurd y (by decide), fun y => absurd y (by decide)⟩, ⟨fun _ => rfl, fun _ => rfl⟩⟩
  · rw [if_neg z, if_neg (fun y => z y.2)]
    exact ⟨⟨fun _ => rfl, fun _ => rfl⟩, ⟨fun y => absurd y (by decide), fun y => absurd y (by decide)⟩⟩
/-- a level of movesUntilDone, then all of them -/
theorem wx_mud {post : Int32 → SX → Prop} {Sd : Nat → Prop} (h : ∀ r fd' se' qu', bp_A K false Sd r → post r (st, pc, kp, fd', K, kD, kS, se', qu')) :
    ∀ n m q f ls se qu, 4624 < n + m → m ≤ 4624 → bp_Rep se qu q f → bp_T K false Sd m q f ls → wX_movesUntilDone_4 post n (nI ls) (nI m) st pc kp (nI f) K kD kS se qu := by
  intro n
  induction n with
  | zero => intro m q f ls se qu h1 h2; omega
  | succ n ih =>
    intro m q f ls se qu hn hm hR hT
    have hf := bp_RepLe hR
    have hV : ∀ i, i < f → bp_V (q i) := fun i hi => (hR.1 i hi).1
    have hls := hT.2.2.2.2.1
    have hle := hT.2.2.2.2.2
    rw [wX_movesUntilDone_4]
    refine pk_le 4624 m (fun z => h _ _ _ _ (bp_Tno hV hT (by omega))) (fun z => ?_)
    refine pk_le f ls (fun y => h _ _ _ _ (bp_Tno hV hT y)) (fun y => ?_)
    refine pk_loop (σ := (Nat → Int32) × (Nat → Int32) × Int32) (fun k i s3 => wX_movesUntilDone_27 post (wX_movesUntilDone_4 post n) (nI m) (nI f) k (nI i) st pc kp s3.2.2 K kD kS s3.1 s3.2.1)
      (fun i s3 => ls ≤ i ∧ (∃ q' f', s3.2.2 = nI f' ∧ bp_Rep s3.1 s3.2.1 q' f' ∧ bp_G q f q' f' (fun x => ∃ j, ls ≤ j ∧ j < i ∧ ∃ d, d < 4 ∧ bp_step K (q j) d = some x)) ∧ ∀ j, ls ≤ j → j < i → ¬ bp_D K (bp_nd (q j) / 16)) f ls (se, qu, nI f) (by omega) ?_ ?_ ?_
    · exact ⟨Nat.le_refl _, ⟨q, f, rfl, hR, bp_Gr (fun x ⟨j, j1, j2, _⟩ => by omega)⟩, fun j j1 j2 => by omega⟩
    · intro k ⟨se1, qu1, fd1⟩ ⟨_, ⟨q', f', e1, e2, e3⟩, e4⟩
      dsimp only at e1 e2 e3 ⊢
      subst e1
      refine br_t (nI_le (Nat.le_refl _) (by omega)) (nm_r (nI_1 m) ?_)
      refine ih (m + 1) q' f' f se1 qu1 (by omega) (by omega) e2 (bp_Tnext hV hT bp_Clf (by omega) e4 (bp_Gi e3 (fun x => ⟨?_, ?_⟩)))
      · rintro ⟨j, j1, j2, d, hd, hs⟩
        exact ⟨j, j1, j2, d, hd, hs, bp_wf _ _⟩
      · rintro ⟨j, j1, j2, d, hd, hs, _⟩
        exact ⟨j, j1, j2, d, hd, hs⟩
    · intro k i ⟨se1, qu1, fd1⟩ hi ⟨h0, ⟨q', f', e1, e2, e3⟩, e4⟩ hk
      dsimp only at e1 e2 e3 ⊢
      subst e1
      have hqi : qu1 i = nI (q i) := by
        rw [(e2.1 i (Nat.lt_of_lt_of_le hi e3.1)).2, e3.2.1 i hi]
      have hf' := bp_RepLe e2
      refine br_f (nI_ge hi (by omega)) ⟨vp_in_nI (by omega) (by decide), ?_⟩
      rw [nI_clamp (by omega), hqi]
      refine wx_isDone (hV i hi) (fun hD => br_f (by decide) (h _ _ _ _ (bp_Tyes hT h0 hi hm hD))) (fun hD => br_t rfl ⟨vp_in_nI (by omega) (by decide), ?_⟩)
      refine wx_reachByMoves e2 (hV i hi) (fun se2 qu2 q2 f2 r2 g2 => ?_)
      have hf2 := bp_RepLe r2
      have hqi2 : qu2 i = nI (q i) := by
        rw [(r2.1 i (Nat.lt_of_lt_of_le (Nat.lt_of_lt_of_le hi e3.1) g2.1)).2, g2.2.1 i (Nat.lt_of_lt_of_le hi e3.1), e3.2.1 i hi]
      refine ⟨vp_in_nI (by omega) (by decide), ?_⟩
      rw [hqi2]
      refine wx_reachByMoves r2 (hV i hi) (fun se3 qu3 q3 f3 r3 g3 => nm_r (nI_1 i) ?_)
      refine hk (se3, qu3, nI f3) ⟨by omega, ⟨q3, f3, rfl, r3, bp_Gi (bp_Gt (bp_Gt e3 g2) g3) (fun x => ⟨?_, ?_⟩)⟩, fun j j1 j2 => ?_⟩
      · rintro ((⟨j, j1, j2, y⟩ | ⟨d, hd, y, _⟩) | ⟨d, hd, y, _⟩)
        · exact ⟨j, j1, by omega, y⟩
        · exact ⟨i, h0, by omega, d, hd, y⟩
        · exact ⟨i, h0, by omega, d, hd, y⟩
      · rintro ⟨j, j1, j2, d, hd, y⟩
        by_cases z : j = i
        · rw [z] at y
          rcases wx_pf01 (q i) x with w | w
          · exact Or.inl (Or.inr ⟨d, hd, y, w⟩)
          · exact Or.inr ⟨d, hd, y, w⟩
        · exact Or.inl (Or.inl ⟨j, j1, by omega, d, hd, y⟩)
      · by_cases z : j = i
        · rw [z]; exact hD
        · exact e4 j j1 (by omega)
theorem wx_movesUntilDone {post : Int32 → SX → Prop} {Sd : Nat → Prop} {q : Nat → Nat} {f : Nat} (hR : bp_Rep se qu q f) (h1 : ∀ N, Sd N → ∃ i, i < f ∧ bp_nd (q i) = N) (h2 : ∀ i, i < f → Sd (bp_nd (q i)))
    (h : ∀ r fd' se' qu', bp_A K false Sd r → post r (st, pc, kp, fd', K, kD, kS, se', qu')) : wpX_movesUntilDone post (st, pc, kp, nI f, K, kD, kS, se, qu) :=
  ⟨4625, wx_mud h 4625 0 q f 0 se qu (by omega) (by omega) hR (bp_T0 h1 h2)⟩
theorem wx_leastMoves {post : Int32 → SX → Prop} {s : Nat} (hV : bp_V s)
    (h : ∀ r fd' se' qu', bp_A K false (bp_S1 (bp_nd s)) r → post r (nI s, pc, kp, fd', K, kD, kS, se', qu')) : wpX_leastMoves post (nI s, pc, kp, fd, K, kD, kS, se, qu) := by
  unfold wpX_leastMoves
  dsimp only
  refine wx_searchFrom hV (fun se1 qu1 q1 f1 r1 a1 a2 => ?_)
  refine wx_movesUntilDone (Sd := bp_S1 (bp_nd s)) r1 ?_ ?_ (fun r fd' se' qu' hA => h r fd' se' qu' hA)
  · intro N hN
    obtain ⟨i, hi, e⟩ := a2
    exact ⟨i, hi, by rw [e]; exact Eq.symm hN⟩
  · intro i hi
    rw [a1 i hi]
    exact rfl
end
