/-! the reference: bestMove, dead, region, its table -/
theorem bi_tri : ∀ a, a < 16 → (a + 1) * (a + 1 + 1) / 2 = a * (a + 1) / 2 + (a + 1) := by decide +kernel
theorem bi_ixc : ∀ c, c < 16 → bp_ix c 16 < 137 ∧ bp_tab (bp_ix c 16) = 2 ^ c := by decide +kernel
/-- a sweep of region's over the cells: w0 before it, w now, c the next cell -/
def bp_Wj (K : Nat → Int32) (m p : Nat) (w0 w c : Nat) : Prop :=
  w < 65536 ∧ (∀ e, e < 16 → bp_has w0 e → bp_has w e) ∧
  (∀ b d, b < c → b < 16 → d < 4 → bp_has w0 b → bp_op K (bp_nb b d) → ¬ bp_has m (bp_nb b d) → bp_has w (bp_nb b d)) ∧
  (∀ e, e < 16 → bp_has w e → bp_R K true (bp_S1 (m * 16 + p)) 0 (m * 16 + e)) ∧
  (bp_Wc K m w0 → ∀ e, e < 16 → bp_has w e → bp_has w0 e)
theorem bp_Wj1 {K : Nat → Int32} {m p w0 w c : Nat} (h : bp_Wj K m p w0 w c) (hn : ¬ bp_has w c) : bp_Wj K m p w0 w (c + 1) := by
  obtain ⟨a1, a2, a3, a4, a5⟩ := h
  refine ⟨a1, a2, fun b d hb hb16 hd hw ho hm => ?_, a4, a5⟩
  by_cases e : b = c
  · rw [e] at hw hb16; exact absurd (a2 c hb16 hw) hn
  · exact a3 b d (by omega) hb16 hd hw ho hm
theorem bp_Wj2 {K : Nat → Int32} {m p w0 w c a : Nat} (hc : c < 16) (h : bp_Wj K m p w0 w c) (hw : bp_has w c) (ha : a < 65536) (hA : ∀ e, e < 16 → (bp_has a e ↔ ∃ d, d < 4 ∧ bp_nb c d = e ∧ bp_op K e ∧ ¬ bp_has m e)) : bp_Wj K m p w0 (w ||| a) (c + 1) := by
  obtain ⟨a1, a2, a3, a4, a5⟩ := h
  refine ⟨Nat.or_lt_two_pow (n := 16) a1 ha, fun e he hw0 => (bp_hasOr _ _ _).mpr (Or.inl (a2 e he hw0)), fun b d hb hb16 hd hw0 ho hm => ?_, fun e he hh => ?_, fun hcl e he hh => ?_⟩
  · by_cases e : b = c
    · rw [e] at ho hm ⊢
      exact (bp_hasOr _ _ _).mpr (Or.inr ((hA _ ho.1).mpr ⟨d, hd, rfl, ho, hm⟩))
    · exact (bp_hasOr _ _ _).mpr (Or.inl (a3 b d (by omega) hb16 hd hw0 ho hm))
  · rcases (bp_hasOr _ _ _).mp hh with z | z
    · exact a4 e he z
    · obtain ⟨d, hd, rfl, ho, hm⟩ := (hA e he).mp z
      obtain ⟨s1, s2⟩ := bp_walkI hc ho hm
      have hR := bp_R1 (a4 c hc hw) hd s1
      rw [s2] at hR
      exact hR
  · rcases (bp_hasOr _ _ _).mp hh with z | z
    · exact a5 hcl e he z
    · obtain ⟨d, hd, rfl, ho, hm⟩ := (hA e he).mp z
      exact hcl c d hc hd (a5 hcl c hc hw) ho hm
def bp_Wk (K : Nat → Int32) (m p k w : Nat) : Prop :=
  w < 65536 ∧ bp_has w p ∧ (∀ e, e < 16 → bp_has w e → bp_R K true (bp_S1 (m * 16 + p)) 0 (m * 16 + e)) ∧
  (bp_Wc K m w ∨ k + 1 ≤ bp_cnt (fun c => decide (bp_has w c)) 16)
theorem bp_Wk0 {K : Nat → Int32} {m p : Nat} (hp : p < 16) : bp_Wk K m p 0 (2 ^ p) := by
  have h1 : bp_has (2 ^ p) p := (bp_hasP p hp p hp).mpr rfl
  refine ⟨Nat.pow_lt_pow_right (a := 2) (by decide) hp, h1, fun e he hh => ?_, Or.inr ?_⟩
  · rw [(bp_hasP p hp e he).mp hh]
    exact bp_R0 rfl
  · have := bp_cstr (f := fun _ => false) (g := fun c => decide (bp_has (2 ^ p) c)) (n := 16) (fun _ _ z => Bool.noConfusion z) ⟨p, hp, rfl, decide_eq_true h1⟩
    omega
theorem bp_WkJ {K : Nat → Int32} {m p k w : Nat} (h : bp_Wk K m p k w) : bp_Wj K m p w w 0 :=
  ⟨h.1, fun _ _ z => z, fun b d hb => absurd hb (Nat.not_lt_zero _), h.2.2.1, fun _ _ _ z => z⟩
theorem bp_Wk1 {K : Nat → Int32} {m p k w0 w : Nat} (hp : p < 16) (h : bp_Wk K m p k w0) (hj : bp_Wj K m p w0 w 16) : bp_Wk K m p (k + 1) w := by
  obtain ⟨b1, b2, b3, b4⟩ := h
  obtain ⟨a1, a2, a3, a4, a5⟩ := hj
  refine ⟨a1, a2 p hp b2, a4, ?_⟩
  have same : (∀ e, e < 16 → bp_has w e → bp_has w0 e) → bp_Wc K m w := by
    intro hs c d hc hd hw ho hm
    exact a3 c d hc hc hd (hs c hc hw) ho hm
  rcases b4 with z | z
  · exact Or.inl (same (a5 z))
  · by_cases hn : ∃ e, e < 16 ∧ ¬ bp_has w0 e ∧ bp_has w e
    · obtain ⟨e, e1, e2, e3⟩ := hn
      refine Or.inr (Nat.le_trans (Nat.succ_le_succ z) (bp_cstr (fun i hi hgi => ?_) ⟨e, e1, decide_eq_false e2, decide_eq_true e3⟩))
      exact decide_eq_true (a2 i hi (of_decide_eq_true hgi))
    · refine Or.inl (same (fun e he hw => ?_))
      apply Classical.byContradiction
      intro hne
      exact hn ⟨e, he, hne, hw⟩
theorem bp_WkE {K : Nat → Int32} {m p w : Nat} (hp : p < 16) (hV : bp_VN (m * 16 + p)) (h : bp_Wk K m p 16 w) : bp_Rg K (m * 16 + p) (bp_cnt (fun c => decide (bp_has w c)) 16) := by
  obtain ⟨b1, b2, b3, b4⟩ := h
  have hcl : bp_Wc K m w := by
    rcases b4 with z | z
    · exact z
    · have := bp_cle (fun c => decide (bp_has w c)) 16
      omega
  refine ⟨fun c => decide (bp_has w c), rfl, fun c hc => ?_⟩
  rw [show (m * 16 + p) / 16 = m by omega]
  constructor
  · intro z
    exact b3 c hc (of_decide_eq_true z)
  · intro z
    exact decide_eq_true (bp_Wfull hp hV b2 hcl c hc z)
section
variable {bo pu kp ps tc tb : Int32} {K mv ts lv : Nat → Int32}
theorem wy_bestMove {post : Int32 → SY → Prop} {x : Nat} (hts : ∀ i, i < 137 → ts i = nI (bp_tab i)) (hx : bp_V x)
    (h : ∀ r tc' tb' lv', bp_BM K (bp_nd x) r → post r (nI (bp_nd x / 16), nI (x % 16), kp, ps, tc', tb', K, mv, ts, lv')) : wpY_bestMove post (nI (bp_nd x / 16), nI (x % 16), kp, ps, tc, tb, K, mv, ts, lv) := by
  unfold wpY_bestMove wpY_leastMoves
  dsimp only
  refine wy_least (qb := false) hts hx (fun r tc1 tb1 lv1 hA => ?_)
  rcases bp_Aval hA with e | ⟨k, hk, e⟩
  · subst e
    exact br_f (by decide) (h _ _ _ _ ⟨_, hA, Or.inl ⟨Or.inl rfl, rfl⟩⟩)
  · subst e
    refine pk_le 1 k (fun y => ?_) (fun y => h _ _ _ _ ⟨_, hA, Or.inl ⟨Or.inr ?_, rfl⟩⟩)
    · have hne : ¬ (nI k = -6 ∨ nI k = 0) := by
        rintro (z | z)
        · exact bp_m6 hk z
        · exact nI_ne0 (by omega) (by omega) z
      refine loop_0 (σ := Int32 × Int32 × (Nat → Int32)) (fun n i t => wY_bestMove_15 post (nI k) n (nI i) (nI (bp_nd x / 16)) (nI (x % 16)) kp ps t.1 t.2.1 K mv ts t.2.2) (fun i _ => ∀ e, e < i → ¬ bp_Bq K (bp_nd x) (nI k) e) 4 (tc1, tb1, lv1) (fun e he => by omega) ?_ ?_
      · intro n ⟨tc2, tb2, lv2⟩ hI
        exact br_t (nI_le (b := 4) (Nat.le_refl _) (by decide)) (h _ _ _ _ ⟨_, hA, Or.inr ⟨hne, Or.inr ⟨rfl, hI⟩⟩⟩)
      · intro n i ⟨tc2, tb2, lv2⟩ hi hI hn
        refine br_f (nI_ge (b := 4) hi (by decide)) ?_
        dsimp only at hI ⊢
        have next : ∀ tc3 tb3 lv3, ¬ bp_Bq K (bp_nd x) (nI k) i → ∀ x2 : Int32, x2 = nI i + 1 → wY_bestMove_15 post (nI k) n x2 (nI (bp_nd x / 16)) (nI (x % 16)) kp ps tc3 tb3 K mv ts lv3 := by
          intro tc3 tb3 lv3 hno
          refine nm_r (nI_1 i) (hn (tc3, tb3, lv3) (fun e he => ?_))
          by_cases w : e = i
          · rw [w]; exact hno
          · exact hI e (by omega)
        refine wy_step hx hi (fun hno tc3 tb3 => br_t (by decide) (next _ _ _ ?_)) (fun M hM => ?_)
        · rintro ⟨M, m1, _⟩
          rw [hno] at m1
          cases m1
        · rcases bp_comm K hx hi with ⟨_, c2⟩ | ⟨t, c1, c2, vt, _⟩
          · rw [hM] at c2; cases c2
          · have c3 := hM
            rw [c2] at c3
            have c4 := Option.some.inj c3
            subst c4
            obtain ⟨b1, b2⟩ := bp_ndD vt
            refine br_f ?_ ?_
            · split <;> decide
            · rw [b1]
              refine wy_least (qb := false) hts vt (fun r' tc4 tb4 lv4 hA' => br_c (fun w => ?_) (fun w => next _ _ _ ?_))
              · refine h _ _ _ _ ⟨_, hA, Or.inr ⟨hne, Or.inl ⟨i, hi, rfl, ⟨bp_nd t, hM, ?_⟩, hI⟩⟩⟩
                rw [← w]; exact hA'
              · rintro ⟨M, m1, m2⟩
                rw [hM] at m1
                cases Option.some.inj m1
                exact w (bp_Au m2 hA')
    · have e0 : k = 0 := by omega
      rw [e0]; rfl
theorem wy_dead {post : Int32 → SY → Prop} {c : Nat} (hts : ∀ i, i < 137 → ts i = nI (bp_tab i)) (hc : c < 16) (hK1 : ¬ K c = 1) (hK2 : ¬ K c = 2)
    (h : ∀ r tc' tb' lv', bp_A K true (bp_Sc K c) r → ((r = -6 → post 1 (bo, pu, kp, ps, tc', tb', K, mv, ts, lv')) ∧ (¬ r = -6 → post 0 (bo, pu, kp, ps, tc', tb', K, mv, ts, lv')))) : wpY_dead post (bo, pu, kp, ps, tc, tb, K, mv, ts, lv) (nI c) := by
  obtain ⟨i1, i2⟩ := bi_ixc c hc
  unfold wpY_dead
  dsimp only
  refine wy_bad (by omega) (fun _ => br_t rfl ⟨vp_in_nI hc (by decide), ?_⟩) (fun z => absurd hc (by omega))
  rw [nI_clamp (by omega)]
  refine br_f hK1 ⟨vp_in_nI hc (by decide), br_f hK2 ?_⟩
  refine wy_clear (fun lv1 hL1 => ?_)
  rw [bi_shl c hc, ← i2]
  refine wy_number i1 hts ?_
  refine loop_0 (fun n i t => wY_dead_44 post (nI c) (nI (bp_ix c 16)) bo pu kp ps tc tb n (nI i) K mv ts t)
    (fun i t => ∃ g, bp_Lev t g ∧ (∀ y, y < 2192 → g y = 0 ∨ (g y = 1 ∧ ∃ p, p < 16 ∧ p ≠ c ∧ ¬ K p = 1 ∧ y = bp_ix c 16 * 16 + p)) ∧ (∀ p, p < i → p ≠ c → ¬ K p = 1 → g (bp_ix c 16 * 16 + p) = 1)) 16 lv1 ⟨_, hL1, fun y _ => Or.inl rfl, fun p hp => by omega⟩ ?_ ?_
  · intro n t ⟨g, g1, g2, g3⟩
    refine br_t (nI_le (b := 16) (Nat.le_refl _) (by decide)) ?_
    have hga : ∀ p, p < 16 → bp_ga (bp_ix c 16 * 16 + p) = 2 ^ c * 16 + p := by
      intro p hp
      unfold bp_ga
      rw [show (bp_ix c 16 * 16 + p) / 16 = bp_ix c 16 by omega, show (bp_ix c 16 * 16 + p) % 16 = p by omega, i2]
    refine wy_search (qb := true) (Sd := bp_Sc K c) hts (bp_ScV hc) g1 ?_ ?_ (fun r tc' tb' lv' hA => h r tc' tb' lv' hA)
    · intro N ⟨p, p1, p2, p3, p4⟩
      exact ⟨bp_ix c 16 * 16 + p, by omega, by rw [hga p p1, p4], g3 p p1 p2 p3⟩
    · intro y hy
      rcases g2 y hy with z | ⟨z, p, p1, p2, p3, p4⟩
      · exact Or.inl z
      · exact Or.inr ⟨z, p, p1, p2, p3, by rw [p4, hga p p1]⟩
  · intro n i t hi ⟨g, g1, g2, g3⟩ hk
    refine br_f (nI_ge (b := 16) hi (by decide)) ?_
    refine pk_eq i c (fun z => nm_r (nI_1 i) (hk t ⟨g, g1, g2, fun p hp hpc => g3 p (by omega) hpc⟩)) (fun z => ⟨vp_in_nI hi (by decide), ?_⟩)
    rw [nI_clamp (by omega)]
    refine br_c (fun y => nm_r (nI_1 i) (hk t ⟨g, g1, g2, fun p hp hpc hpK => ?_⟩)) (fun y => ?_)
    · by_cases w : p = i
      · rw [w] at hpK; exact absurd y hpK
      · exact g3 p (by omega) hpc hpK
    · have e : nI (bp_ix c 16) * 16 + nI i = nI (bp_ix c 16 * 16 + i) := by
        rw [show nI (bp_ix c 16) * 16 = nI (bp_ix c 16 * 16) from pk_mul (bp_ix c 16) 16, nI_add]
      rw [e]
      refine ⟨vp_in_nI (by omega) (by decide), nm_e (nm_r (nI_1 i) (hk _ ⟨fun j => if j = bp_ix c 16 * 16 + i then 1 else g j, ?_, ?_, ?_⟩))⟩
      · rw [nI_clamp (by omega)]
        intro j hj
        show upd t (bp_ix c 16 * 16 + i) 0 j = bi_lv (if j = bp_ix c 16 * 16 + i then 1 else g j) ∧ (if j = bp_ix c 16 * 16 + i then 1 else g j) ≤ 4000
        by_cases w : j = bp_ix c 16 * 16 + i
        · rw [w, if_pos rfl, pk_us]
          exact ⟨(bi_lvS 0).symm, by decide⟩
        · rw [if_neg w, pk_un w]
          exact g1 j hj
      · intro j hj
        show (if j = bp_ix c 16 * 16 + i then 1 else g j) = 0 ∨ ((if j = bp_ix c 16 * 16 + i then 1 else g j) = 1 ∧ _)
        by_cases w : j = bp_ix c 16 * 16 + i
        · rw [if_pos w]
          exact Or.inr ⟨rfl, i, hi, z, y, w⟩
        · rw [if_neg w]
          exact g2 j hj
      · intro p hp hpc hpK
        show (if bp_ix c 16 * 16 + p = bp_ix c 16 * 16 + i then 1 else g (bp_ix c 16 * 16 + p)) = 1
        by_cases w : p = i
        · rw [w]; exact if_pos rfl
        · rw [if_neg (by omega)]
          exact g3 p (by omega) hpc hpK
theorem wy_around {post : Int32 → Prop} {m c : Nat} (hm : m < 65536) (hc : c < 16)
    (h : ∀ a, a < 65536 → (∀ e, e < 16 → (bp_has a e ↔ ∃ d, d < 4 ∧ bp_nb c d = e ∧ bp_op K e ∧ ¬ bp_has m e)) → post (nI a)) : wpY_around post (nI m, pu, kp, ps, tc, tb, K, mv, ts, lv) (nI c) := by
  unfold wpY_around
  dsimp only
  refine loop_0 (fun n i s => wY_around_4 post (nI c) (nI m) pu kp ps tc tb K mv ts lv n s (nI i)) (fun i s => ∃ a, s = nI a ∧ a < 65536 ∧ ∀ e, e < 16 → (bp_has a e ↔ ∃ d, d < i ∧ bp_nb c d = e ∧ bp_op K e ∧ ¬ bp_has m e)) 4 0 ?_ ?_ ?_
  · refine ⟨0, rfl, by decide, fun e he => ⟨fun z => absurd z (bp_has0 e), ?_⟩⟩
    rintro ⟨d, hd, _⟩
    omega
  · intro n s ⟨a, e1, e2, e3⟩
    subst e1
    exact br_t (nI_le (b := 4) (Nat.le_refl _) (by decide)) (h a e2 e3)
  · intro n i s hi ⟨a, e1, e2, e3⟩ hk
    subst e1
    have skip : ¬ (bp_op K (bp_nb c i) ∧ ¬ bp_has m (bp_nb c i)) → ∀ x3 : Int32, x3 = nI i + 1 → wY_around_4 post (nI c) (nI m) pu kp ps tc tb K mv ts lv n (nI a) x3 := by
      intro hno
      refine nm_r (nI_1 i) (hk (nI a) ⟨a, rfl, e2, fun e he => ⟨fun z => ?_, fun z => (e3 e he).mpr ?_⟩⟩)
      · obtain ⟨d, hd, y⟩ := (e3 e he).mp z
        exact ⟨d, by omega, y⟩
      · obtain ⟨d, hd, y1, y2, y3⟩ := z
        by_cases w : d = i
        · subst w
          rw [← y1] at y2 y3
          exact absurd ⟨y2, y3⟩ hno
        · exact ⟨d, by omega, y1, y2, y3⟩
    refine br_f (nI_ge (b := 4) hi (by decide)) ?_
    refine wy_next hc hi (fun ho => ?_) (fun ho => br_t (by decide) (skip (fun z => ho z.1)))
    have ht : bp_nb c i < 16 := ho.1
    refine br_f (nI_pos (by omega)) ?_
    refine wy_has hm ht (fun hh => br_f (by decide) (skip (fun z => z.2 hh))) (fun hh => br_t rfl ?_)
    rw [bi_shl _ ht, bi_or]
    refine nm_e (nm_r (nI_1 i) (hk _ ⟨_, rfl, Nat.or_lt_two_pow (n := 16) e2 (Nat.pow_lt_pow_right (a := 2) (by decide) ht), fun e he => ?_⟩))
    rw [bp_hasOr, e3 e he, bp_hasP _ ht e he]
    constructor
    · rintro (⟨d, hd, y⟩ | y)
      · exact ⟨d, by omega, y⟩
      · exact ⟨i, by omega, y.symm, by rw [y]; exact ho, by rw [y]; exact hh⟩
    · rintro ⟨d, hd, y1, y2⟩
      by_cases w : d = i
      · subst w; exact Or.inr y1.symm
      · exact Or.inl ⟨d, by omega, y1, y2⟩
theorem wy_region {post : Int32 → Prop} {m p : Nat} (hm : m < 65536) (hp : p < 16) (hV : bp_VN (m * 16 + p)) (h : ∀ r, bp_Rg K (m * 16 + p) r → post (nI r)) : wpY_region post (nI m, nI p, kp, ps, tc, tb, K, mv, ts, lv) := by
  unfold wpY_region
  dsimp only
  rw [bi_shl p hp]
  refine nm_e ?_
  refine loop_0 (fun n k s => wY_region_9 post (nI m) (nI p) kp ps tc tb K mv ts lv n s (nI k)) (fun k s => ∃ w, s = nI w ∧ bp_Wk K m p k w) 16 (nI (2 ^ p)) ⟨_, rfl, bp_Wk0 hp⟩ ?_ ?_
  · intro n s ⟨w, e, hw⟩
    subst e
    exact br_t (nI_le (b := 16) (Nat.le_refl _) (by decide)) (wy_size hw.1 (h _ (bp_WkE hp hV hw)))
  · intro n k s hk ⟨w0, e, hw0⟩ hn
    subst e
    refine br_f (nI_ge (b := 16) hk (by decide)) ?_
    refine loop_0 (fun j c t => wY_region_17 post (wY_region_9 post (nI m) (nI p) kp ps tc tb K mv ts lv n) (nI k) (nI m) (nI p) kp ps tc tb K mv ts lv j t (nI c)) (fun c t => ∃ w, t = nI w ∧ bp_Wj K m p w0 w c) 16 (nI w0) ⟨w0, rfl, bp_WkJ hw0⟩ ?_ ?_
    · intro j t ⟨w, e, hw⟩
      subst e
      exact br_t (nI_le (b := 16) (Nat.le_refl _) (by decide)) (nm_r (nI_1 k) (hn _ ⟨w, rfl, bp_Wk1 hp hw0 hw⟩))
    · intro j c t hc ⟨w, e, hw⟩ hj
      subst e
      refine br_f (nI_ge (b := 16) hc (by decide)) ?_
      refine wy_has hw.1 hc (fun hh => br_f (by decide) ?_) (fun hh => br_t rfl (nm_r (nI_1 c) (hj _ ⟨w, rfl, bp_Wj1 hw hh⟩)))
      refine wy_around hm hc (fun a ha hA => nm_r (bi_or w a) (nm_r (nI_1 c) (hj _ ⟨_, rfl, bp_Wj2 hc hw hh ha hA⟩)))
theorem wy_init {post : SY → Prop} (h : ∀ ts', (∀ i, i < 137 → ts' i = nI (bp_tab i)) → post (0, 0, 0, 0, 0, 0, (fun _ => 0), (fun _ => 0), ts', (fun _ => 0))) : wpY_init post := by
  unfold wpY_init
  refine loop_0 (σ := Int32 × (Nat → Int32)) (fun n a t => wY_init_42 post 0 0 0 0 0 0 n t.1 (nI a) (fun _ => 0) (fun _ => 0) t.2 (fun _ => 0)) (fun a t => t.1 = nI (a * (a + 1) / 2) ∧ ∀ i, i < a * (a + 1) / 2 → t.2 i = nI (bp_tab i)) 16 (0, fun _ => 0) ⟨rfl, fun i hi => by omega⟩ ?_ ?_
  · intro n ⟨x1, ts1⟩ ⟨e1, e2⟩
    dsimp only at e1 e2 ⊢
    subst e1
    refine br_t (nI_le (b := 16) (Nat.le_refl _) (by decide)) ⟨vp_in_nI (by decide) (by decide), nm_e (h _ (fun i hi => ?_))⟩
    rw [nI_clamp (by decide)]
    by_cases z : i = 136
    · rw [z]
      exact pk_us
    · rw [pk_un z]
      exact e2 i (by omega)
  · intro n a ⟨x1, ts1⟩ ha ⟨e1, e2⟩ hk
    dsimp only at e1 e2 ⊢
    subst e1
    refine br_f (nI_ge (b := 16) ha (by decide)) ?_
    refine loop_0 (σ := Int32 × (Nat → Int32)) (fun j b t => wY_init_50 post (wY_init_42 post 0 0 0 0 0 0 n) (nI a) 0 0 0 0 0 0 j t.1 (nI b) (fun _ => 0) (fun _ => 0) t.2 (fun _ => 0)) (fun b t => t.1 = nI (a * (a + 1) / 2 + b) ∧ ∀ i, i < a * (a + 1) / 2 + b → t.2 i = nI (bp_tab i)) (a + 1) (nI (a * (a + 1) / 2), ts1) ⟨rfl, e2⟩ ?_ ?_
    · intro j ⟨x2, ts2⟩ ⟨f1, f2⟩
      dsimp only at f1 f2 ⊢
      subst f1
      refine br_t (nI_lt (Nat.lt_succ_self a) (by omega)) (nm_r (nI_1 a) (hk (nI (a * (a + 1) / 2 + (a + 1)), ts2) ⟨?_, ?_⟩))
      · show nI (a * (a + 1) / 2 + (a + 1)) = nI ((a + 1) * (a + 1 + 1) / 2)
        rw [bi_tri a ha]
      · rw [bi_tri a ha]
        exact f2
    · intro j b ⟨x2, ts2⟩ hb ⟨f1, f2⟩ hj
      dsimp only at f1 f2 ⊢
      subst f1
      obtain ⟨t1, t2⟩ := bp_tabA a ha b hb
      refine br_f (nI_nlt (by omega) (by omega)) ⟨vp_in_nI (by omega) (by decide), nm_e (nm_r (nI_1 _) (nm_r (nI_1 b) (hj (_, _) ⟨rfl, fun i hi => ?_⟩)))⟩
      show upd ts2 (nI (a * (a + 1) / 2 + b)).toNatClampNeg (((1 : Int32) <<< (nI a &&& 31)) ||| ((1 : Int32) <<< (nI b &&& 31))) i = nI (bp_tab i)
      rw [nI_clamp (by omega), ← t2]
      by_cases z : i = a * (a + 1) / 2 + b
      · rw [z]; exact pk_us
      · rw [pk_un z]
        exact f2 i (by omega)
end
