/-! the class: walking, leastPushes, region, bestMove, dead -/
def bp_Bq (K : Nat → Int32) (N : Nat) (r : Int32) (d : Nat) : Prop := ∃ M, bp_ns K N d = some M ∧ bp_A K false (bp_S1 M) (r - 1)
def bp_B (K : Nat → Int32) (N : Nat) (r ans : Int32) : Prop :=
  (∃ d, d < 4 ∧ ans = nI d ∧ bp_Bq K N r d ∧ ∀ e, e < d → ¬ bp_Bq K N r e) ∨ (ans = -6 ∧ ∀ d, d < 4 → ¬ bp_Bq K N r d)
def bp_BM (K : Nat → Int32) (N : Nat) (ans : Int32) : Prop :=
  ∃ r, bp_A K false (bp_S1 N) r ∧ (((r = -6 ∨ r = 0) ∧ ans = -6) ∨ (¬ (r = -6 ∨ r = 0) ∧ bp_B K N r ans))
theorem bp_Bu {K : Nat → Int32} {N : Nat} {r a b : Int32} (h : bp_B K N r a) (h' : bp_B K N r b) : b = a := by
  rcases h with ⟨d, d1, d2, d3, d4⟩ | ⟨e, d4⟩
  · rcases h' with ⟨d', d1', d2', d3', d4'⟩ | ⟨e', d4'⟩
    · have : d' = d := by
        rcases Nat.lt_trichotomy d d' with z | z | z
        · exact absurd d3 (d4' d z)
        · exact z.symm
        · exact absurd d3' (d4 d' z)
      rw [d2, d2', this]
    · exact absurd d3 (d4' d d1)
  · rcases h' with ⟨d', d1', d2', d3', d4'⟩ | ⟨e', d4'⟩
    · exact absurd d3' (d4 d' d1')
    · rw [e, e']
theorem bp_BMu {K : Nat → Int32} {N : Nat} {a b : Int32} (h : bp_BM K N a) (h' : bp_BM K N b) : b = a := by
  obtain ⟨r, h1, h2⟩ := h
  obtain ⟨r', h1', h2'⟩ := h'
  have e := bp_Au h1 h1'
  subst e
  rcases h2 with ⟨z, e⟩ | ⟨z, e⟩
  · rcases h2' with ⟨z', e'⟩ | ⟨z', e'⟩
    · rw [e, e']
    · exact absurd z z'
  · rcases h2' with ⟨z', e'⟩ | ⟨z', e'⟩
    · exact absurd z' z
    · exact bp_Bu e e'
def bp_Sc (K : Nat → Int32) (c : Nat) : Nat → Prop := fun N => ∃ p, p < 16 ∧ p ≠ c ∧ ¬ K p = 1 ∧ N = 2 ^ c * 16 + p
theorem bp_bm16 : ∀ c, c < 16 → bp_bm c 16 = 2 ^ c := by decide +kernel
theorem bp_encC {p c : Nat} (hp : p < 16) (hc : c < 16) (hne : p ≠ c) : bp_V (bp_enc p c 16) ∧ bp_nd (bp_enc p c 16) = 2 ^ c * 16 + p :=
  ⟨bp_VE ⟨hp, by omega, by omega, by omega, hne, by omega⟩, by rw [bp_ndE hp (by omega), bp_bm16 c hc]⟩
theorem bp_ScV {K : Nat → Int32} {c : Nat} (hc : c < 16) : ∀ N, bp_Sc K c N → bp_VN N := by
  intro N ⟨p, p1, p2, p3, p4⟩
  exact ⟨bp_enc p c 16, (bp_encC p1 hc p2).1, by rw [p4]; exact (bp_encC p1 hc p2).2⟩
def bp_Rg (K : Nat → Int32) (N r : Nat) : Prop := ∃ P : Nat → Bool, r = bp_cnt P 16 ∧ ∀ c, c < 16 → (P c = true ↔ bp_R K true (bp_S1 N) 0 (N / 16 * 16 + c))
theorem bp_Rgu {K : Nat → Int32} {N r r' : Nat} (h : bp_Rg K N r) (h' : bp_Rg K N r') : r' = r := by
  obtain ⟨P, e, h⟩ := h
  obtain ⟨P', e', h'⟩ := h'
  rw [e, e']
  apply bp_ccong
  intro c hc
  have h1 := (h c hc).trans (h' c hc).symm
  cases hP : P c with
  | true => exact h1.mp hP
  | false =>
    cases hP' : P' c with
    | true => rw [h1.mpr hP'] at hP; exact Bool.noConfusion hP
    | false => rfl
section
variable {st pc kp fd : Int32} {K kD kS se qu : Nat → Int32}
theorem wx_walkL {post : SX → Prop} {I : Nat → Prop} {q : Nat → Nat} {f ls : Nat} (hI : ∀ s d t, bp_V s → I s → d < 4 → bp_step K s d = some t → wx_pf s t = 0 → I t)
    (h : ∀ se' qu' q' f', bp_Rep se' qu' q' f' → f ≤ f' → (∀ i, i < f → q' i = q i) → (∀ i, ls ≤ i → i < f' → I (q' i)) → (∀ i, ls ≤ i → i < f' → ∀ d t, d < 4 → bp_step K (q' i) d = some t → wx_pf (q' i) t = 0 → ∃ j, j < f' ∧ q' j = t) → post (st, pc, kp, nI f', K, kD, kS, se', qu')) :
    ∀ n i q' f' se qu, 4624 < n + i → ls ≤ i → i ≤ f' → bp_Rep se qu q' f' → f ≤ f' → (∀ j, j < f → q' j = q j) → (∀ j, ls ≤ j → j < f' → I (q' j)) →
      (∀ j, ls ≤ j → j < i → ∀ d t, d < 4 → bp_step K (q' j) d = some t → wx_pf (q' j) t = 0 → ∃ l, l < f' ∧ q' l = t) → wX_reachByWalkingSince_2 post n (nI i) st pc kp (nI f') K kD kS se qu := by
  intro n
  induction n with
  | zero =>
    intro i q' f' se qu h1 h2 h3 hR
    have := bp_RepLe hR
    omega
  | succ n ih =>
    intro i q' f' se qu h1 h2 h3 hR h4 h5 h6 h7
    have hf := bp_RepLe hR
    rw [wX_reachByWalkingSince_2]
    refine pk_le f' i (fun z => h se qu q' f' hR h4 h5 h6 (fun j j1 j2 => h7 j j1 (by omega))) (fun z => ?_)
    refine br_f (nI_ge (b := 4624) (by omega) (by decide)) ⟨vp_in_nI (by omega) (by decide), ?_⟩
    rw [nI_clamp (by omega), (hR.1 i z).2]
    refine wx_reachByMoves hR (hR.1 i z).1 (fun se2 qu2 q2 f2 r2 g2 => nm_r (nI_1 i) ?_)
    obtain ⟨g1, g3, g4, g5⟩ := g2
    refine ih (i + 1) q2 f2 se2 qu2 (by omega) (by omega) (by omega) r2 (by omega) (fun j hj => by rw [g3 j (by omega)]; exact h5 j hj) ?_ ?_
    · intro j j1 j2
      rcases Nat.lt_or_ge j f' with y | y
      · rw [g3 j y]; exact h6 j j1 y
      · obtain ⟨d, hd, hs, hw⟩ := g4 j y j2
        exact hI _ d _ (hR.1 i z).1 (h6 i h2 z) hd hs hw
    · intro j j1 j2 d t hd hs hw
      rw [g3 j (by omega)] at hs hw
      by_cases y : j = i
      · rw [y] at hs hw
        exact g5 t ⟨d, hd, hs, hw⟩
      · obtain ⟨l, l1, l2⟩ := h7 j j1 (by omega) d t hd hs hw
        exact ⟨l, by omega, by rw [g3 l l1]; exact l2⟩
theorem wx_walk {post : SX → Prop} {I : Nat → Prop} {q : Nat → Nat} {f ls : Nat} (hR : bp_Rep se qu q f) (hls : ls ≤ f) (hI : ∀ s d t, bp_V s → I s → d < 4 → bp_step K s d = some t → wx_pf s t = 0 → I t) (h0 : ∀ i, ls ≤ i → i < f → I (q i))
    (h : ∀ se' qu' q' f', bp_Rep se' qu' q' f' → f ≤ f' → (∀ i, i < f → q' i = q i) → (∀ i, ls ≤ i → i < f' → I (q' i)) → (∀ i, ls ≤ i → i < f' → ∀ d t, d < 4 → bp_step K (q' i) d = some t → wx_pf (q' i) t = 0 → ∃ j, j < f' ∧ q' j = t) → post (st, pc, kp, nI f', K, kD, kS, se', qu')) :
    wpX_reachByWalkingSince post (st, pc, kp, nI f, K, kD, kS, se, qu) (nI ls) :=
  ⟨4625, wx_walkL hI h 4625 ls q f se qu (by omega) (Nat.le_refl _) hls hR (Nat.le_refl _) (fun _ _ => rfl) h0 (fun j j1 j2 => by omega)⟩
theorem wx_lp {post : Int32 → SX → Prop} {Sd : Nat → Prop} (h : ∀ r fd' se' qu', bp_A K true Sd r → post r (st, pc, kp, fd', K, kD, kS, se', qu')) :
    ∀ n m q f ls se qu, 4624 < n + m → m ≤ 4624 → bp_Rep se qu q f → bp_T K true Sd m q f ls → wX_leastPushes_12 post n (nI ls) (nI m) st pc kp (nI f) K kD kS se qu := by
  intro n
  induction n with
  | zero => intro m q f ls se qu h1 h2; omega
  | succ n ih =>
    intro m q0 f0 ls se qu hn hm hR0 hT0
    have hf0 := bp_RepLe hR0
    have hls := hT0.2.2.2.2.1
    have hle0 := hT0.2.2.2.2.2
    rw [wX_leastPushes_12]
    refine pk_le 4624 m (fun z => h _ _ _ _ (bp_Tno (fun i hi => (hR0.1 i hi).1) hT0 (by omega))) (fun z => ?_)
    refine pk_le f0 ls (fun y => h _ _ _ _ (bp_Tno (fun i hi => (hR0.1 i hi).1) hT0 y)) (fun y => ?_)
    refine wx_walk (I := fun s => bp_R K true Sd m (bp_nd s)) hR0 hle0 ?_ hT0.2.2.2.1 (fun se1 qu1 q f hR w1 w2 w3 w4 => ?_)
    · intro s d t vs hs hd hst hw
      have hR1 := bp_R1 hs hd (bp_stV vs hd hst).2.1
      rw [((wx_pfw vs hd hst).2).mp hw] at hR1
      exact hR1
    have hT := bp_Tw hT0 w1 w2 w3
    have hf := bp_RepLe hR
    have hV : ∀ i, i < f → bp_V (q i) := fun i hi => (hR.1 i hi).1
    have hCl : bp_Cl K true q f ls := fun i i1 i2 d t hd hst hw => w4 i i1 i2 d t hd hst (((wx_pfw (hV i i2) hd hst).2).mpr hw)
    refine pk_loop (σ := (Nat → Int32) × (Nat → Int32) × Int32) (fun k i s3 => wX_leastPushes_40 post (wX_leastPushes_12 post n) (nI m) (nI f) k (nI i) st pc kp s3.2.2 K kD kS s3.1 s3.2.1)
      (fun i s3 => ls ≤ i ∧ (∃ q' f', s3.2.2 = nI f' ∧ bp_Rep s3.1 s3.2.1 q' f' ∧ bp_G q f q' f' (fun x => ∃ j, ls ≤ j ∧ j < i ∧ ∃ d, d < 4 ∧ bp_step K (q j) d = some x ∧ wx_pf (q j) x = 1)) ∧ ∀ j, ls ≤ j → j < i → ¬ bp_D K (bp_nd (q j) / 16)) f ls (se1, qu1, nI f) (by omega) ?_ ?_ ?_
    · exact ⟨Nat.le_refl _, ⟨q, f, rfl, hR, bp_Gr (fun x ⟨j, j1, j2, _⟩ => by omega)⟩, fun j j1 j2 => by omega⟩
    · intro k ⟨se2, qu2, fd2⟩ ⟨_, ⟨q', f', e1, e2, e3⟩, e4⟩
      dsimp only at e1 e2 e3 ⊢
      subst e1
      refine br_t (nI_le (Nat.le_refl _) (by omega)) (nm_r (nI_1 m) ?_)
      refine ih (m + 1) q' f' f se2 qu2 (by omega) (by omega) e2 (bp_Tnext hV hT hCl (by omega) e4 (bp_Gi e3 (fun x => ⟨?_, ?_⟩)))
      · rintro ⟨j, j1, j2, d, hd, hs, hw⟩
        exact ⟨j, j1, j2, d, hd, hs, ((wx_pfw (hV j j2) hd hs).1).mp hw⟩
      · rintro ⟨j, j1, j2, d, hd, hs, hw⟩
        exact ⟨j, j1, j2, d, hd, hs, ((wx_pfw (hV j j2) hd hs).1).mpr hw⟩
    · intro k i ⟨se2, qu2, fd2⟩ hi ⟨h0, ⟨q', f', e1, e2, e3⟩, e4⟩ hk
      dsimp only at e1 e2 e3 ⊢
      subst e1
      have hqi : qu2 i = nI (q i) := by
        rw [(e2.1 i (Nat.lt_of_lt_of_le hi e3.1)).2, e3.2.1 i hi]
      have hf' := bp_RepLe e2
      refine br_f (nI_ge hi (by omega)) ⟨vp_in_nI (by omega) (by decide), ?_⟩
      rw [nI_clamp (by omega), hqi]
      refine wx_isDone (hV i hi) (fun hD => br_f (by decide) (h _ _ _ _ (bp_Tyes hT h0 hi hm hD))) (fun hD => br_t rfl ⟨vp_in_nI (by omega) (by decide), ?_⟩)
      refine wx_reachByMoves e2 (hV i hi) (fun se3 qu3 q3 f3 r3 g3 => nm_r (nI_1 i) ?_)
      refine hk (se3, qu3, nI f3) ⟨by omega, ⟨q3, f3, rfl, r3, bp_Gi (bp_Gt e3 g3) (fun x => ⟨?_, ?_⟩)⟩, fun j j1 j2 => ?_⟩
      · rintro (⟨j, j1, j2, y⟩ | ⟨d, hd, y, w⟩)
        · exact ⟨j, j1, by omega, y⟩
        · exact ⟨i, h0, by omega, d, hd, y, w⟩
      · rintro ⟨j, j1, j2, d, hd, y, w⟩
        by_cases z : j = i
        · rw [z] at y w
          exact Or.inr ⟨d, hd, y, w⟩
        · exact Or.inl ⟨j, j1, by omega, d, hd, y, w⟩
      · by_cases z : j = i
        · rw [z]; exact hD
        · exact e4 j j1 (by omega)
theorem wx_leastPushes {post : Int32 → SX → Prop} {s : Nat} (hV : bp_V s)
    (h : ∀ r fd' se' qu', bp_A K true (bp_S1 (bp_nd s)) r → post r (nI s, pc, kp, fd', K, kD, kS, se', qu')) : wpX_leastPushes post (nI s, pc, kp, fd, K, kD, kS, se, qu) := by
  unfold wpX_leastPushes
  dsimp only
  refine wx_searchFrom hV (fun se1 qu1 q1 f1 r1 a1 a2 => ?_)
  refine ⟨4625, wx_lp (Sd := bp_S1 (bp_nd s)) h 4625 0 q1 f1 0 se1 qu1 (by omega) (by omega) r1 (bp_T0 ?_ ?_)⟩
  · intro N hN
    obtain ⟨i, hi, e⟩ := a2
    exact ⟨i, hi, by rw [e]; exact Eq.symm hN⟩
  · intro i hi
    rw [a1 i hi]
    exact rfl
theorem wx_region {post : Int32 → SX → Prop} {s : Nat} (hV : bp_V s)
    (h : ∀ r se' qu', bp_Rg K (bp_nd s) r → post (nI r) (nI s, pc, kp, nI r, K, kD, kS, se', qu')) : wpX_region post (nI s, pc, kp, fd, K, kD, kS, se, qu) := by
  have hs : s < 4624 := hV.1
  unfold wpX_region
  dsimp only
  refine wx_searchFrom hV (fun se1 qu1 q1 f1 r1 a1 a2 => ?_)
  have hT0 : bp_T K true (bp_S1 (bp_nd s)) 0 q1 f1 0 := by
    apply bp_T0
    · intro N hN
      obtain ⟨i, hi, e⟩ := a2
      exact ⟨i, hi, by rw [e]; exact Eq.symm hN⟩
    · intro i hi
      rw [a1 i hi]
      exact rfl
  refine wx_walk (ls := 0) (I := fun x => x / 16 = s / 16 ∧ bp_R K true (bp_S1 (bp_nd s)) 0 (bp_nd x)) r1 (Nat.zero_le _) ?_ ?_ (fun se' qu' q f hR w1 w2 w3 w4 => h f se' qu' ?_)
  · intro x d t vx hx hd hst hw
    have hw0 : x / 16 = t / 16 := by
      unfold wx_pf at hw
      split at hw
      · assumption
      · exact absurd hw (by decide)
    have hR1 := bp_R1 hx.2 hd (bp_stV vx hd hst).2.1
    rw [((wx_pfw vx hd hst).2).mp hw] at hR1
    exact ⟨by omega, hR1⟩
  · intro i _ hi
    rw [a1 i hi]
    exact ⟨rfl, bp_R0 rfl⟩
  · have hVq : ∀ i, i < f → bp_V (q i) := fun i hi => (hR.1 i hi).1
    have hT := bp_Tw hT0 w1 w2 (fun i i1 i2 => (w3 i i1 i2).2)
    have hCl : bp_Cl K true q f 0 := fun i i1 i2 d t hd hst hw => w4 i i1 i2 d t hd hst (((wx_pfw (hVq i i2) hd hst).2).mpr hw)
    have hF := bp_Tfull hVq hT hCl
    have hnd : ∀ x, bp_V x → x / 16 = s / 16 → bp_nd x = bp_nd s / 16 * 16 + x % 16 := by
      intro x vx hx
      have h1 := (bp_ndD vx).1
      have h2 := (bp_ndD vx).2
      have h3 := (bp_ndD hV).2
      rw [hx] at h2
      omega
    refine ⟨fun c => decide (se' (s / 16 * 16 + c) = 1), bp_regX hR (fun i hi => (w3 i (Nat.zero_le i) hi).1) (by omega), fun c hc => ⟨fun hp => ?_, fun hp => ?_⟩⟩
    · have hp1 : se' (s / 16 * 16 + c) = 1 := of_decide_eq_true hp
      rcases hR.2.1 (s / 16 * 16 + c) (by omega) with ⟨_, i, hi, e⟩ | ⟨e0, _⟩
      · have hR0 := (w3 i (Nat.zero_le i) hi).2
        rw [hnd (q i) (hVq i hi) (w3 i (Nat.zero_le i) hi).1, e, show (s / 16 * 16 + c) % 16 = c by omega] at hR0
        exact hR0
      · rw [e0] at hp1; exact absurd hp1 (by decide)
    · apply decide_eq_true
      obtain ⟨i, hi, e⟩ := hF 0 _ hp (Nat.le_refl 0)
      have e1 := (w3 i (Nat.zero_le i) hi).1
      rw [hnd (q i) (hVq i hi) e1] at e
      have e2 : q i = s / 16 * 16 + c := by omega
      rcases hR.2.1 (s / 16 * 16 + c) (by omega) with ⟨y, _⟩ | ⟨_, y⟩
      · exact y
      · exact absurd e2 (y i hi)
theorem wx_bestMove {post : Int32 → SX → Prop} {s : Nat} (hV : bp_V s)
    (h : ∀ r fd' se' qu', bp_BM K (bp_nd s) r → post r (nI s, pc, kp, fd', K, kD, kS, se', qu')) : wpX_bestMove post (nI s, pc, kp, fd, K, kD, kS, se, qu) := by
  unfold wpX_bestMove
  dsimp only
  refine wx_searchFrom hV (fun se1 qu1 q1 f1 r1 a1 a2 => ?_)
  refine wx_movesUntilDone (Sd := bp_S1 (bp_nd s)) r1 ?_ ?_ (fun r fd2 se2 qu2 hA => ?_)
  · intro N hN
    obtain ⟨i, hi, e⟩ := a2
    exact ⟨i, hi, by rw [e]; exact Eq.symm hN⟩
  · intro i hi
    rw [a1 i hi]
    exact rfl
  · refine br_c (fun z => h _ _ _ _ ⟨r, hA, Or.inl ⟨Or.inl z, rfl⟩⟩) (fun z => br_c (fun y => h _ _ _ _ ⟨r, hA, Or.inl ⟨Or.inr y, rfl⟩⟩) (fun y => ?_))
    have hne : ¬ (r = -6 ∨ r = 0) := fun x => x.elim z y
    refine loop_0 (σ := (Nat → Int32) × (Nat → Int32) × Int32) (fun n i s3 => wX_bestMove_28 post r n (nI i) (nI s) pc kp s3.2.2 K kD kS s3.1 s3.2.1) (fun i _ => ∀ e, e < i → ¬ bp_Bq K (bp_nd s) r e) 4 (se2, qu2, fd2) (fun e he => by omega) ?_ ?_
    · intro n ⟨se3, qu3, fd3⟩ hI
      exact br_t (nI_le (b := 4) (Nat.le_refl _) (by decide)) (h _ _ _ _ ⟨r, hA, Or.inr ⟨hne, Or.inr ⟨rfl, hI⟩⟩⟩)
    · intro n i ⟨se3, qu3, fd3⟩ hi hI hk
      refine br_f (nI_ge (b := 4) hi (by decide)) ?_
      dsimp only at hI ⊢
      have next : ∀ se4 qu4 fd4, ¬ bp_Bq K (bp_nd s) r i → ∀ x2_35 : Int32, x2_35 = nI i + 1 → wX_bestMove_28 post r n x2_35 (nI s) pc kp fd4 K kD kS se4 qu4 := by
        intro se4 qu4 fd4 hn
        refine nm_r (nI_1 i) (hk (se4, qu4, fd4) (fun e he => ?_))
        by_cases w : e = i
        · rw [w]; exact hn
        · exact hI e (by omega)
      refine wx_stateAfter hV hi (fun hn => ?_) (fun t ht => ?_)
      · refine br_t rfl (next _ _ _ ?_)
        rintro ⟨M, m1, _⟩
        rcases bp_comm K hV hi with ⟨_, c2⟩ | ⟨t, c1, _⟩
        · rw [m1] at c2; cases c2
        · rw [hn] at c1; cases c1
      · obtain ⟨vt, hns, _⟩ := bp_stV hV hi ht
        have ht4 : t < 4624 := vt.1
        have hneg : ¬ nI t = -1 := by
          intro z
          have h1 : ¬ nI t < 0 := nI_pos (by omega)
          rw [z] at h1
          exact h1 (by decide)
        refine br_f hneg ?_
        refine wx_searchFrom vt (fun se4 qu4 q4 f4 r4 b1 b2 => ?_)
        refine wx_movesUntilDone (Sd := bp_S1 (bp_nd t)) r4 ?_ ?_ (fun r' fd5 se5 qu5 hA' => ?_)
        · intro N hN
          obtain ⟨i, hi, e⟩ := b2
          exact ⟨i, hi, by rw [e]; exact Eq.symm hN⟩
        · intro i hi
          rw [b1 i hi]
          exact rfl
        · refine br_c (fun w => ?_) (fun w => next _ _ _ ?_)
          · refine h _ _ _ _ ⟨r, hA, Or.inr ⟨hne, Or.inl ⟨i, hi, rfl, ⟨bp_nd t, hns, ?_⟩, hI⟩⟩⟩
            rw [← w]; exact hA'
          · rintro ⟨M, m1, m2⟩
            rw [hns] at m1
            cases Option.some.inj m1
            exact w (bp_Au m2 hA')
theorem wx_dead {post : Int32 → SX → Prop} {c : Nat} (hc : c < 16) (hK : K c = 0)
    (h : ∀ r fd' se' qu', bp_A K false (bp_Sc K c) r → ((r = -6 → post 1 (st, pc, kp, fd', K, kD, kS, se', qu')) ∧ (¬ r = -6 → post 0 (st, pc, kp, fd', K, kD, kS, se', qu')))) : wpX_dead post (st, pc, kp, fd, K, kD, kS, se, qu) (nI c) := by
  unfold wpX_dead
  dsimp only
  refine wx_isCell (by omega) (fun _ => br_f (by decide) ⟨vp_in_nI hc (by decide), ?_⟩) (fun z => absurd hc (by omega))
  rw [nI_clamp (by omega)]
  refine br_t hK (wx_clear (fun se1 h1 => ?_))
  refine loop_0 (σ := (Nat → Int32) × (Nat → Int32) × Int32) (fun n i s3 => wX_dead_24 post (nI c) n (nI i) st pc kp s3.2.2 K kD kS s3.1 s3.2.1)
    (fun i s3 => ∃ q f, s3.2.2 = nI f ∧ bp_Rep s3.1 s3.2.1 q f ∧ (∀ j, j < f → ∃ p, p < 16 ∧ p ≠ c ∧ ¬ K p = 1 ∧ q j = bp_enc p c 16) ∧ (∀ p, p < i → p ≠ c → ¬ K p = 1 → ∃ j, j < f ∧ q j = bp_enc p c 16)) 16 (se1, qu, nI 0) ?_ ?_ ?_
  · exact ⟨fun _ => 0, 0, rfl, bp_Rep0 h1, fun j hj => by omega, fun p hp => by omega⟩
  · intro n ⟨se2, qu2, fd2⟩ ⟨q, f, e1, e2, e3, e4⟩
    dsimp only at e1 e2 ⊢
    subst e1
    refine br_t (nI_le (b := 16) (Nat.le_refl _) (by decide)) ?_
    refine wx_movesUntilDone (Sd := bp_Sc K c) e2 ?_ ?_ (fun r fd5 se5 qu5 hA => h r fd5 se5 qu5 hA)
    · intro N ⟨p, p1, p2, p3, p4⟩
      obtain ⟨j, hj, ej⟩ := e4 p p1 p2 p3
      exact ⟨j, hj, by rw [ej, (bp_encC p1 hc p2).2, p4]⟩
    · intro i hi
      obtain ⟨p, p1, p2, p3, p4⟩ := e3 i hi
      rw [p4, (bp_encC p1 hc p2).2]
      exact ⟨p, p1, p2, p3, rfl⟩
  · intro n i ⟨se2, qu2, fd2⟩ hi ⟨q, f, e1, e2, e3, e4⟩ hk
    dsimp only at e1 e2 ⊢
    subst e1
    refine br_f (nI_ge (b := 16) hi (by decide)) ?_
    refine pk_eq i c (fun z => nm_r (nI_1 i) (hk (se2, qu2, nI f) ⟨q, f, rfl, e2, e3, fun p hp hpc => ?_⟩)) (fun z => ⟨vp_in_nI hi (by decide), ?_⟩)
    · exact e4 p (by omega) hpc
    · rw [nI_clamp (by omega)]
      refine br_c (fun y => nm_r (nI_1 i) (hk (se2, qu2, nI f) ⟨q, f, rfl, e2, e3, fun p hp hpc hpK => ?_⟩)) (fun y => ?_)
      · by_cases w : p = i
        · rw [w] at hpK; exact absurd y hpK
        · exact e4 p (by omega) hpc hpK
      · refine wx_stateOf (b := 16) ?_
        refine wx_reach e2 (bp_encC hi hc z).1 (fun se3 qu3 q3 f3 r3 g3 => nm_r (nI_1 i) (hk (se3, qu3, nI f3) ⟨q3, f3, rfl, r3, fun j hj => ?_, fun p hp hpc hpK => ?_⟩))
        · rcases Nat.lt_or_ge j f with w | w
          · rw [g3.2.1 j w]; exact e3 j w
          · exact ⟨i, hi, z, y, g3.2.2.1 j w hj⟩
        · by_cases w : p = i
          · rw [w]; exact g3.2.2.2 _ rfl
          · exact bp_Gm g3 (e4 p (by omega) hpc hpK)
end
