/-! the reference's searches -/
section
variable {bo pu kp ps tc tb : Int32} {K mv ts lv : Nat → Int32}
/-- the end of a try: label z with level m + w, unless it has one that is no greater -/
theorem wy_r80 {post : Int32 → SY → Prop} {qb : Bool} {g : Nat → Nat} {m y d z w : Nat} (hL : bp_Lev lv g) (hm : m ≤ 1920) (hz : z < 2192) (hns : bp_ns K (bp_ga y) d = some (bp_ga z)) (hw : bp_w qb (bp_ga y) (bp_ga z) = w)
    (h : ∀ lv' g' r, bp_St K qb m g g' y d r → bp_Lev lv' g' → post (bi_b r) (bo, pu, kp, ps, tc, tb, K, mv, ts, lv')) : wY_reach_80 post (nI m) (nI z) (nI (m + w)) bo pu kp ps tc tb K mv ts lv := by
  obtain ⟨e1, e2⟩ := hL z hz
  have hw01 := bp_w01 qb (bp_ga y) (bp_ga z)
  have hnew : ¬ (0 < g z ∧ g z ≤ m + 1 + w) → wY_reach_106 post (nI m) (nI z) (nI (m + w)) bo pu kp ps tc tb K mv ts lv := by
    intro hn
    have hL' : bp_Lev (upd lv z (nI (m + w))) (fun i => if i = z then m + 1 + w else g i) := by
      intro i hi
      show upd lv z (nI (m + w)) i = bi_lv (if i = z then m + 1 + w else g i) ∧ (if i = z then m + 1 + w else g i) ≤ 4000
      by_cases e : i = z
      · rw [e, if_pos rfl, pk_us]
        refine ⟨?_, by omega⟩
        rw [show m + 1 + w = (m + w) + 1 by omega, bi_lvS]
      · rw [if_neg e, pk_un e]
        exact hL i hi
    refine ⟨vp_in_nI hz (by decide), nm_e ?_⟩
    rw [nI_clamp (by omega)]
    refine pk_eq (m + w) m (fun e => ?_) (fun e => ?_)
    · exact h _ _ true (Or.inr ⟨z, hz, hns, by rw [hw]; exact hn, by rw [hw], ⟨fun _ => by omega, fun _ => rfl⟩⟩) hL'
    · exact h _ _ false (Or.inr ⟨z, hz, hns, by rw [hw]; exact hn, by rw [hw], ⟨fun x => Bool.noConfusion x, fun x => by omega⟩⟩) hL'
  refine ⟨vp_in_nI hz (by decide), ?_⟩
  rw [nI_clamp (by omega), e1]
  refine br_c (fun x => hnew ?_) (fun x => ⟨vp_in_nI hz (by decide), br_c (fun v => hnew ?_) (fun v => ?_)⟩)
  · rw [bi_lvN (by omega)] at x
    omega
  · rw [← Int32.not_le, bi_lvL (by omega) (by omega)] at v
    omega
  · rw [Int32.not_lt, bi_lvL (by omega) (by omega)] at v
    rw [bi_lvN (by omega)] at x
    refine h lv g false (Or.inl ⟨rfl, ?_, rfl⟩) hL
    intro z' hz' hns'
    rw [hns] at hns'
    have := bp_gaI hz hz' (Option.some.inj hns')
    subst this
    rw [hw]
    omega
theorem wy_r48 {post : Int32 → SY → Prop} {qb : Bool} {g : Nat → Nat} {m y d z : Nat} {how : Int32} (hL : bp_Lev lv g) (hm : m ≤ 1920) (hz : z < 2192) (hns : bp_ns K (bp_ga y) d = some (bp_ga z)) (hh : (how = 1 ∧ bp_ga y / 16 = bp_ga z / 16) ∨ (how = 2 ∧ bp_ga y / 16 ≠ bp_ga z / 16))
    (h : ∀ lv' g' r, bp_St K qb m g g' y d r → bp_Lev lv' g' → post (bi_b r) (bo, pu, kp, ps, nI (z % 16), tb, K, mv, ts, lv')) : wY_reach_48 post (nI m) (bi_b qb) how (nI (z / 16)) bo pu kp ps (nI (z % 16)) tb K mv ts lv := by
  unfold wY_reach_48
  refine nm_r (e' := nI z) ?_ ?_
  · rw [show nI (z / 16) * 16 = nI (z / 16 * 16) from pk_mul (z / 16) 16, nI_add]
    exact congrArg nI (by omega)
  · refine br_c (fun x => ?_) (fun x => ?_)
    · have hq := bi_b0.mp x
      unfold wY_reach_77
      rw [nI_1 m]
      refine wy_r80 (w := 1) hL hm hz hns ?_ h
      rw [hq]
      exact bp_wf _ _
    · have hq : qb = true := by
        cases qb with
        | true => rfl
        | false => exact absurd rfl x
      rcases hh with ⟨e, e2⟩ | ⟨e, e2⟩
      · refine br_t e ?_
        refine wy_r80 (w := 0) hL hm hz hns ?_ h
        rw [hq]
        exact bp_wt0 e2
      · refine br_f (by rw [e]; decide) ?_
        unfold wY_reach_77
        rw [nI_1 m]
        refine wy_r80 (w := 1) hL hm hz hns ?_ h
        rw [hq]
        exact bp_wt1 e2
theorem wy_reach {post : Int32 → SY → Prop} {qb : Bool} {g : Nat → Nat} {m y d : Nat} (hts : ∀ i, i < 137 → ts i = nI (bp_tab i)) (hL : bp_Lev lv g) (hm : m ≤ 1920) (hy : y < 2192) (hd : d < 4) (hVN : bp_VN (bp_ga y))
    (h : ∀ tc' tb' lv' g' r, bp_St K qb m g g' y d r → bp_Lev lv' g' → post (bi_b r) (bo, pu, kp, ps, tc', tb', K, mv, ts, lv')) : wpY_reach post (bo, pu, kp, ps, tc, tb, K, mv, ts, lv) (nI y) (nI d) (nI m) (bi_b qb) := by
  have hVN' := hVN
  obtain ⟨x, hx, ex⟩ := hVN
  obtain ⟨a1, a2⟩ := bp_gaD y
  obtain ⟨b1, b2⟩ := bp_ndD hx
  have e1 : y % 16 = x % 16 := by rw [← a2, ← ex, b1]
  unfold wpY_reach
  dsimp only
  refine ⟨by decide, by decide, ?_⟩
  rw [bi_d16 (by omega), nI_clamp (by omega)]
  refine ⟨vp_in_nI (by omega) (by decide), ?_⟩
  rw [hts _ (by omega), ← bi_d16 (by omega), bi_p16 (by omega), e1, ← a1, ← ex]
  refine wy_step hx hd (fun hn tc' tb' => br_t rfl (h tc' tb' lv g false (Or.inl ⟨rfl, ?_, rfl⟩) hL)) (fun M hM => ?_)
  · intro z hz hns
    rw [← ex, hn] at hns
    cases hns
  · obtain ⟨z, hz, ez⟩ := bp_gaS (bp_VNs ⟨x, hx, rfl⟩ hd hM)
    subst ez
    obtain ⟨c1, c2⟩ := bp_gaD z
    rw [ex] at hM ⊢
    rw [c2]
    by_cases e : bp_ga y / 16 = bp_ga z / 16
    · rw [if_pos e]
      refine br_f (by decide) (br_t rfl ⟨by decide, ?_⟩)
      have e2 : y / 16 = z / 16 := by
        rw [a1, c1] at e
        exact bp_tabI (by omega) (by omega) e
      rw [bi_d16 (by omega), e2]
      exact wy_r48 hL hm hz hM (Or.inl ⟨rfl, e⟩) (fun lv' g' r s1 s2 => h _ _ lv' g' r s1 s2)
    · rw [if_neg e]
      refine br_f (by decide) (br_f (by decide) ?_)
      rw [c1]
      exact wy_number (by omega) hts (wy_r48 hL hm hz hM (Or.inr ⟨rfl, e⟩) (fun lv' g' r s1 s2 => h _ _ lv' g' r s1 s2))
theorem wy_s51 {post : Int32 → SY → Prop} {J5 J16 : Int32 → Int32 → Int32 → Int32 → Int32 → Int32 → Int32 → Int32 → (Nat → Int32) → (Nat → Int32) → (Nat → Int32) → (Nat → Int32) → Prop} {x1 x2 x4 : Int32} {i : Nat} {more r : Bool}
    (h : J16 (bi_b (more || r)) (nI (i + 1)) bo pu kp ps tc tb K mv ts lv) : wY_spread_51 post J5 J16 x1 x2 (bi_b more) x4 (nI i) (bi_b r) bo pu kp ps tc tb K mv ts lv := by
  unfold wY_spread_51
  cases more with
  | true => exact br_f (by decide) (nm_r (nI_1 i) h)
  | false =>
    refine br_t rfl ?_
    cases r with
    | true => exact br_f (by decide) (nm_r (nI_1 i) h)
    | false => exact br_t rfl (nm_r (nI_1 i) h)
theorem wy_spread {post : Int32 → SY → Prop} {qb : Bool} {Sd : Nat → Prop} {g0 : Nat → Nat} {m : Nat} (hts : ∀ i, i < 137 → ts i = nI (bp_tab i)) (hS : ∀ N, Sd N → bp_VN N) (hL : bp_Lev lv g0) (hm : m ≤ 1920) (hSo : bp_So K qb Sd m g0)
    (h : ∀ tc' tb' lv' g' more, bp_Sw K qb Sd m g0 g' more → bp_Lev lv' g' → post (bi_b more) (bo, pu, kp, ps, tc', tb', K, mv, ts, lv')) : wpY_spread post (bo, pu, kp, ps, tc, tb, K, mv, ts, lv) (nI m) (bi_b qb) := by
  unfold wpY_spread
  dsimp only
  refine loop_0 (σ := Int32 × Int32 × Int32 × (Nat → Int32)) (fun n s t => wY_spread_5 post (nI m) (bi_b qb) n t.1 (nI s) bo pu kp ps t.2.1 t.2.2.1 K mv ts t.2.2.2)
    (fun s t => ∃ g more, t.1 = bi_b more ∧ bp_Lev t.2.2.2 g ∧ bp_J K qb Sd m g0 g s 0 more) 2192 (0, tc, tb, lv) ⟨g0, false, rfl, hL, bp_J0 hSo⟩ ?_ ?_
  · intro n ⟨mo, tc1, tb1, lv1⟩ ⟨g, more, e1, e2, e3⟩
    dsimp only at e1 e2 ⊢
    subst e1
    exact br_t (nI_le (b := 2192) (Nat.le_refl _) (by decide)) ⟨bi_bn more, h _ _ _ _ _ (bp_J4 e3) e2⟩
  · intro n s ⟨mo, tc1, tb1, lv1⟩ hs ⟨g, more, e1, e2, e3⟩ hk
    dsimp only at e1 e2 ⊢
    subst e1
    refine br_f (nI_ge (b := 2192) hs (by decide)) ?_
    refine loop_0 (σ := Int32 × Int32 × Int32 × (Nat → Int32)) (fun k i t => wY_spread_16 post (wY_spread_5 post (nI m) (bi_b qb) n) (nI m) (bi_b qb) (nI s) k t.1 (nI i) bo pu kp ps t.2.1 t.2.2.1 K mv ts t.2.2.2)
      (fun i t => ∃ g more, t.1 = bi_b more ∧ bp_Lev t.2.2.2 g ∧ bp_J K qb Sd m g0 g s i more) 4 (bi_b more, tc1, tb1, lv1) ⟨g, more, rfl, e2, e3⟩ ?_ ?_
    · intro k ⟨mo, tc2, tb2, lv2⟩ ⟨g, more, e1, e2, e3⟩
      dsimp only at e1 e2 ⊢
      subst e1
      exact br_t (nI_le (b := 4) (Nat.le_refl _) (by decide)) (nm_r (nI_1 s) (hk (_, _, _, _) ⟨g, more, rfl, e2, bp_J1 e3⟩))
    · intro k i ⟨mo, tc2, tb2, lv2⟩ hi ⟨g, more, e1, e2, e3⟩ hk2
      dsimp only at e1 e2 ⊢
      subst e1
      refine br_f (nI_ge (b := 4) hi (by decide)) ⟨vp_in_nI hs (by decide), ?_⟩
      rw [nI_clamp (by omega), (e2 s hs).1]
      have hg4 := (e2 s hs).2
      refine br_c (fun x => ?_) (fun x => ?_)
      · rw [bi_lvE (by omega) (by omega)] at x
        have hVN : bp_VN (bp_ga s) := bp_RV hS (e3.2.1 s hs (by omega)).2
        refine wy_reach hts e2 hm hs hi hVN (fun tc3 tb3 lv3 g3 r s1 s2 => ?_)
        have hJ := bp_J3 hs hi e3 x s1
        refine br_c (fun z => ?_) (fun z => ?_)
        · have hr := bi_b0.mp z
          subst hr
          exact wy_s51 (r := false) (hk2 (_, _, _, _) ⟨g3, _, rfl, s2, hJ⟩)
        · have hr : r = true := by
            cases r with
            | true => rfl
            | false => exact absurd rfl z
          subst hr
          exact wy_s51 (r := true) (hk2 (_, _, _, _) ⟨g3, _, rfl, s2, hJ⟩)
      · rw [bi_lvE (by omega) (by omega)] at x
        have hk3 := hk2 (bi_b more, tc2, tb2, lv2) ⟨g, more, rfl, e2, bp_J2 hs e3 x⟩
        refine wy_s51 (r := false) ?_
        rw [Bool.or_false]
        exact hk3
theorem wy_spreadAll {post : SY → Prop} {qb : Bool} {Sd : Nat → Prop} {gt : Nat → Nat} {m : Nat} (hts : ∀ i, i < 137 → ts i = nI (bp_tab i)) (hS : ∀ N, Sd N → bp_VN N) (hL : bp_Lev lv gt) (hm : m ≤ 1920) (hSo : bp_So K qb Sd m gt)
    (h : ∀ tc' tb' lv' g, bp_Lev lv' g → bp_Chg m gt g → bp_So K qb Sd m g → (∀ y, y < 2192 → g y = m + 1 → ∀ e, e < 4 → bp_Ex K qb m g y e) → post (bo, pu, kp, ps, tc', tb', K, mv, ts, lv')) : wpY_spreadAll post (bo, pu, kp, ps, tc, tb, K, mv, ts, lv) (nI m) (bi_b qb) := by
  unfold wpY_spreadAll
  dsimp only
  refine loop_0 (σ := Int32 × Int32 × Int32 × (Nat → Int32)) (fun n k t => wY_spreadAll_5 post (nI m) (bi_b qb) n t.1 (nI k) bo pu kp ps t.2.1 t.2.2.1 K mv ts t.2.2.2)
    (fun k t => ∃ g more, t.1 = bi_b more ∧ bp_Lev t.2.2.2 g ∧ bp_L K qb Sd m gt g k more) 17 (1, tc, tb, lv) ⟨gt, true, rfl, hL, bp_L0 hSo⟩ ?_ ?_
  · intro n ⟨mo, tc1, tb1, lv1⟩ ⟨g, more, e1, e2, e3⟩
    dsimp only at e1 e2 ⊢
    obtain ⟨l1, l2, l3⟩ := bp_L2 e3 (Or.inl (Nat.le_refl _))
    exact br_t (nI_le (b := 17) (Nat.le_refl _) (by decide)) (h _ _ _ g e2 l1 l2 l3)
  · intro n k ⟨mo, tc1, tb1, lv1⟩ hk ⟨g, more, e1, e2, e3⟩ hn
    dsimp only at e1 e2 ⊢
    subst e1
    refine br_f (nI_ge (b := 17) hk (by decide)) (br_c (fun z => ?_) (fun z => ?_))
    · obtain ⟨l1, l2, l3⟩ := bp_L2 e3 (Or.inr (bi_b0.mp z))
      exact h _ _ _ g e2 l1 l2 l3
    · have hmo : more = true := by
        cases more with
        | true => rfl
        | false => exact absurd rfl z
      subst hmo
      refine wy_spread hts hS e2 hm e3.2.1 (fun tc2 tb2 lv2 g2 more2 s1 s2 => nm_r (nI_1 k) ?_)
      exact hn (_, _, _, _) ⟨g2, more2, rfl, s2, bp_L1 e3 s1⟩
theorem wy_doneAt {post : Int32 → Prop} {g : Nat → Nat} {m : Nat} (hts : ∀ i, i < 137 → ts i = nI (bp_tab i)) (hL : bp_Lev lv g) (hm : m ≤ 1921)
    (h1 : ∀ y, y < 2192 → g y = m + 1 → bp_D K (bp_tab (y / 16)) → post 1) (h0 : (∀ y, y < 2192 → g y = m + 1 → ¬ bp_D K (bp_tab (y / 16))) → post 0) : wpY_doneAt post (bo, pu, kp, ps, tc, tb, K, mv, ts, lv) (nI m) := by
  unfold wpY_doneAt
  dsimp only
  refine loop_0 (σ := Unit) (fun n i _ => wY_doneAt_2 post (nI m) bo pu kp ps tc tb K mv ts lv n (nI i)) (fun i _ => ∀ y, y < 2192 → y < i → g y = m + 1 → ¬ bp_D K (bp_tab (y / 16))) 2192 () (fun y _ hy => by omega) ?_ ?_
  · intro n _ hI
    exact br_t (nI_le (b := 2192) (Nat.le_refl _) (by decide)) (h0 (fun y hy => hI y hy hy))
  · intro n i _ hi hI hk
    have next : (g i = m + 1 → ¬ bp_D K (bp_tab (i / 16))) → ∀ x : Int32, x = nI i + 1 → wY_doneAt_2 post (nI m) bo pu kp ps tc tb K mv ts lv n x := by
      intro hz
      refine nm_r (nI_1 i) (hk () (fun y hy hyi hg => ?_))
      by_cases e : y = i
      · rw [e] at hg ⊢; exact hz hg
      · exact hI y hy (by omega) hg
    obtain ⟨l1, l2⟩ := hL i hi
    refine br_f (nI_ge (b := 2192) hi (by decide)) ⟨vp_in_nI hi (by decide), ?_⟩
    rw [nI_clamp (by omega), l1]
    refine br_c (fun x => ⟨by decide, ?_⟩) (fun x => next (fun z => absurd ((bi_lvE (by omega) (by omega)).mpr z) x))
    rw [bi_lvE (by omega) (by omega)] at x
    rw [bi_d16 (by omega), nI_clamp (by omega), hts _ (by omega)]
    refine ⟨vp_in_nI (by omega) (by decide), ?_⟩
    exact wy_isDone (bp_tabL _ (by omega)) (fun hD => br_f (by decide) (h1 i hi x hD)) (fun hD => br_t rfl (next (fun _ => hD)))
theorem wy_some {post : Int32 → Prop} {g : Nat → Nat} {m : Nat} (hL : bp_Lev lv g) (hm : m ≤ 1922)
    (h1 : (∃ y, y < 2192 ∧ g y = m + 1) → post 1) (h0 : (∀ y, y < 2192 → g y ≠ m + 1) → post 0) : wpY_some post (bo, pu, kp, ps, tc, tb, K, mv, ts, lv) (nI m) := by
  unfold wpY_some
  dsimp only
  refine loop_0 (σ := Unit) (fun n i _ => wY_some_2 post (nI m) bo pu kp ps tc tb K mv ts lv n (nI i)) (fun i _ => ∀ y, y < 2192 → y < i → g y ≠ m + 1) 2192 () (fun y _ hy => by omega) ?_ ?_
  · intro n _ hI
    exact br_t (nI_le (b := 2192) (Nat.le_refl _) (by decide)) (h0 (fun y hy => hI y hy hy))
  · intro n i _ hi hI hk
    obtain ⟨l1, l2⟩ := hL i hi
    refine br_f (nI_ge (b := 2192) hi (by decide)) ⟨vp_in_nI hi (by decide), ?_⟩
    rw [nI_clamp (by omega), l1]
    refine br_c (fun x => h1 ⟨i, hi, (bi_lvE (by omega) (by omega)).mp x⟩) (fun x => nm_r (nI_1 i) (hk () (fun y hy hyi hg => ?_)))
    by_cases e : y = i
    · rw [e] at hg; exact x ((bi_lvE (by omega) (by omega)).mpr hg)
    · exact hI y hy (by omega) hg
theorem wy_searchL {post : Int32 → SY → Prop} {qb : Bool} {Sd : Nat → Prop} (hts : ∀ i, i < 137 → ts i = nI (bp_tab i)) (hS : ∀ N, Sd N → bp_VN N)
    (h : ∀ r tc' tb' lv', bp_A K qb Sd r → post r (bo, pu, kp, ps, tc', tb', K, mv, ts, lv')) :
    ∀ n m g tc tb lv, 1921 < n + m → bp_U K qb Sd m g → bp_Lev lv g → wY_search_2 post (bi_b qb) n (nI m) bo pu kp ps tc tb K mv ts lv := by
  intro n
  induction n with
  | zero =>
    intro m g tc tb lv h1 hU
    have := bp_Ubig hS hU
    omega
  | succ n ih =>
    intro m g tc tb lv h1 hU hL
    have hm := bp_Ubig hS hU
    rw [wY_search_2]
    refine br_f (nI_ge (b := 1921) (by omega) (by decide)) ?_
    refine wy_spreadAll hts hS hL hm (bp_USo hU) (fun tc1 tb1 lv1 g1 l1 c1 c2 c3 => ?_)
    refine wy_doneAt hts l1 (by omega) (fun y hy hg hD => ?_) (fun hD => ?_)
    · exact br_f (by decide) (h _ _ _ _ (bp_Uyes hS (by omega) hU c1 c2 c3 hy hg hD))
    · refine br_t rfl ?_
      rw [nI_1 m]
      refine wy_some l1 (by omega) (fun hE => br_f (by decide) (nm_e ?_)) (fun hE => br_t rfl (h _ _ _ _ (bp_Uno hS hU c1 c2 c3 hD hE)))
      exact ih (m + 1) g1 tc1 tb1 lv1 (by omega) (bp_Unext hU c1 c2 c3 hD hE) l1
theorem wy_search {post : Int32 → SY → Prop} {qb : Bool} {Sd : Nat → Prop} {g : Nat → Nat} (hts : ∀ i, i < 137 → ts i = nI (bp_tab i)) (hS : ∀ N, Sd N → bp_VN N) (hL : bp_Lev lv g) (h1 : ∀ N, Sd N → ∃ y, y < 2192 ∧ bp_ga y = N ∧ g y = 1) (h2 : ∀ y, y < 2192 → g y = 0 ∨ (g y = 1 ∧ Sd (bp_ga y)))
    (h : ∀ r tc' tb' lv', bp_A K qb Sd r → post r (bo, pu, kp, ps, tc', tb', K, mv, ts, lv')) : wpY_search post (bo, pu, kp, ps, tc, tb, K, mv, ts, lv) (bi_b qb) :=
  ⟨1922, wy_searchL hts hS h 1922 0 g tc tb lv (by omega) (bp_U0 h1 h2) hL⟩
theorem wy_least {post : Int32 → SY → Prop} {qb : Bool} {x : Nat} (hts : ∀ i, i < 137 → ts i = nI (bp_tab i)) (hx : bp_V x)
    (h : ∀ r tc' tb' lv', bp_A K qb (bp_S1 (bp_nd x)) r → post r (bo, pu, kp, ps, tc', tb', K, mv, ts, lv')) : wpY_least post (bo, pu, kp, ps, tc, tb, K, mv, ts, lv) (nI (x % 16)) (nI (bp_nd x / 16)) (bi_b qb) := by
  obtain ⟨y, hy, ey⟩ := bp_gaS ⟨x, hx, rfl⟩
  obtain ⟨a1, a2⟩ := bp_gaD y
  obtain ⟨b1, b2⟩ := bp_ndD hx
  unfold wpY_least
  dsimp only
  refine wy_clear (fun lv1 hL1 => ?_)
  rw [← ey, a1, ← b1, ← ey, a2]
  refine wy_number (by omega) hts ?_
  have e : nI (y / 16) * 16 + nI (y % 16) = nI y := by
    rw [show nI (y / 16) * 16 = nI (y / 16 * 16) from pk_mul (y / 16) 16, nI_add]
    exact congrArg nI (by omega)
  rw [e]
  refine ⟨vp_in_nI hy (by decide), nm_e ?_⟩
  rw [nI_clamp (by omega)]
  refine wy_search (g := fun i => if i = y then 1 else 0) hts (bp_S1V hx) ?_ ?_ ?_ (fun r tc' tb' lv' hA => h r tc' tb' lv' hA)
  · intro i hi
    show upd lv1 y 0 i = bi_lv (if i = y then 1 else 0) ∧ (if i = y then 1 else 0) ≤ 4000
    by_cases z : i = y
    · rw [z, if_pos rfl, pk_us]
      exact ⟨(bi_lvS 0).symm, by decide⟩
    · rw [if_neg z, pk_un z]
      exact hL1 i hi
  · intro N hN
    exact ⟨y, hy, by rw [ey]; exact Eq.symm hN, if_pos rfl⟩
  · intro i hi
    by_cases z : i = y
    · rw [z]
      exact Or.inr ⟨if_pos rfl, ey⟩
    · exact Or.inl (if_neg z)
end
