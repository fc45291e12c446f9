/-! the reference's small methods -/
def bi_b (b : Bool) : Int32 := if b = true then 1 else 0
theorem bi_bn (b : Bool) : narrow .boolean (.int (bi_b b)) = .int (bi_b b) := by
  cases b <;> rfl
theorem bi_b0 {b : Bool} : bi_b b = 0 ↔ b = false := by
  cases b <;> decide
theorem bi_p2 : ∀ t, t < 16 → ∀ e, e < 16 → t ≠ e → 2 ^ t ≠ 2 ^ e := by decide +kernel
section
variable {bo pu kp ps tc tb : Int32} {K mv ts lv : Nat → Int32}
theorem wy_bad {post : Int32 → Prop} {c : Nat} (hc : c < 2 ^ 31) (h0 : c < 16 → post 0) (h1 : 16 ≤ c → post 1) : wpY_bad post (bo, pu, kp, ps, tc, tb, K, mv, ts, lv) (nI c) := by
  unfold wpY_bad
  dsimp only
  exact br_f (nI_pos hc) (pk_le c 15 (fun z => h0 (by omega)) (fun z => h1 (by omega)))
theorem wy_badN {post : Int32 → Prop} {x : Int32} (hx : x < 0 ∨ nI 16 ≤ x) (h1 : post 1) : wpY_bad post (bo, pu, kp, ps, tc, tb, K, mv, ts, lv) x := by
  by_cases z : x < 0
  · unfold wpY_bad
    exact br_t z h1
  · obtain ⟨j, hj, rfl⟩ := nI_of z
    have h16 := (nI_leI (by decide) hj).mp (hx.resolve_left z)
    exact wy_bad hj (fun y => by omega) (fun _ => h1)
theorem wy_has {post : Int32 → Prop} {m c : Nat} (hm : m < 65536) (hc : c < 16) (h1 : bp_has m c → post 1) (h0 : ¬ bp_has m c → post 0) : wpY_has post (bo, pu, kp, ps, tc, tb, K, mv, ts, lv) (nI m) (nI c) := by
  unfold wpY_has
  dsimp only
  rw [bi_has hm hc]
  exact pk_eq (m / 2 ^ c % 2) 1 h1 h0 rfl rfl (Nat.lt_trans (Nat.mod_lt _ (by decide)) (by decide)) (by decide)
theorem wy_n62 {post : Int32 → Prop} {t : Nat} (ht : t < 16) (h1 : bp_op K t → post (nI t)) (h0 : ¬ bp_op K t → post (-1)) : wY_next_62 post (nI t) bo pu kp ps tc tb K mv ts lv := by
  unfold wY_next_62
  refine wy_bad (by omega) (fun _ => br_t rfl ⟨vp_in_nI ht (by decide), ?_⟩) (fun z => absurd ht (by omega))
  rw [nI_clamp (by omega)]
  exact br_c (fun y => h0 (fun x => x.2 y)) (fun y => h1 ⟨ht, y⟩)
theorem wy_n62N {post : Int32 → Prop} {x : Int32} (hx : x < 0 ∨ nI 16 ≤ x) (h0 : post (-1)) : wY_next_62 post x bo pu kp ps tc tb K mv ts lv := by
  unfold wY_next_62
  exact wy_badN hx (br_f (by decide) h0)
theorem wy_next {post : Int32 → Prop} {c d : Nat} (hc : c < 16) (hd : d < 4) (h1 : bp_op K (bp_nb c d) → post (nI (bp_nb c d))) (h0 : ¬ bp_op K (bp_nb c d) → post (-1)) : wpY_next post (bo, pu, kp, ps, tc, tb, K, mv, ts, lv) (nI c) (nI d) := by
  unfold wpY_next
  dsimp only
  refine pk_eq d 0 (fun z => ?_) (fun z0 => pk_eq d 1 (fun z => ?_) (fun z1 => pk_eq d 2 (fun z => ⟨by decide, ?_⟩) (fun z2 => ⟨by decide, ?_⟩)))
  · rw [z, bp_nb0] at h1 h0
    by_cases y : c < 4
    · rw [if_pos y] at h0
      exact nm_e (wy_n62N (Or.inl (pk_sneg (b := 4) (by decide) y)) (h0 (fun x => by have := x.1; omega)))
    · rw [if_neg y] at h0 h1
      exact nm_r (pk_sub (b := 4) (by omega)) (wy_n62 (by omega) h1 h0)
  · rw [z, bp_nb1] at h1 h0
    by_cases y : c < 12
    · rw [if_pos y] at h0 h1
      exact nm_r (nI_add c 4) (wy_n62 (by omega) h1 h0)
    · rw [if_neg y] at h0
      exact nm_r (nI_add c 4) (wy_n62N (Or.inr (nI_le (by omega) (by omega))) (h0 (fun x => by have := x.1; omega)))
  · rw [z, bp_nb2] at h1 h0
    rw [bi_p4 (by omega)]
    refine pk_eq (c % 4) 0 (fun y => ?_) (fun y => ?_)
    · rw [if_pos y] at h0
      exact wy_n62N (Or.inl (by decide)) (h0 (fun x => by have := x.1; omega))
    · rw [if_neg y] at h0 h1
      rw [show nI c - 1 = nI (c - 1) from pk_sub (b := 1) (by omega)]
      exact wy_n62 (by omega) h1 h0
  · rw [show d = 3 by omega, bp_nb3] at h1 h0
    rw [bi_p4 (by omega)]
    refine pk_eq (c % 4) 3 (fun y => ?_) (fun y => ?_)
    · rw [if_pos y] at h0
      exact wy_n62N (Or.inl (by decide)) (h0 (fun x => by have := x.1; omega))
    · rw [if_neg y] at h0 h1
      rw [nI_1 c]
      exact wy_n62 (by omega) h1 h0
theorem wy_step {post : Int32 → SY → Prop} {x d : Nat} (hV : bp_V x) (hd : d < 4)
    (h0 : bp_ns K (bp_nd x) d = none → ∀ tc' tb', post 0 (bo, pu, kp, ps, tc', tb', K, mv, ts, lv))
    (h1 : ∀ M, bp_ns K (bp_nd x) d = some M → post (if bp_nd x / 16 = M / 16 then 1 else 2) (bo, pu, kp, ps, nI (M % 16), nI (M / 16), K, mv, ts, lv)) :
    wpY_step post (bo, pu, kp, ps, tc, tb, K, mv, ts, lv) (nI (x % 16)) (nI (bp_nd x / 16)) (nI d) := by
  obtain ⟨d1, d2⟩ := bp_ndD hV
  obtain ⟨hp, ha, hb, hab, _⟩ := hV.2
  have hm := bp_bmL _ ha _ hb hab
  unfold bp_ns at h0 h1
  rw [d1] at h0 h1
  rw [d2] at h0 h1 ⊢
  obtain ⟨n1, n2, n3, n4⟩ := bp_nbL (x % 16) hp d hd
  generalize hmm : bp_bm (x / 16 / 17) (x / 16 % 17) = m at *
  unfold bp_ns2 at h0 h1
  unfold wpY_step
  dsimp only
  refine wy_next hp hd (fun ho => ?_) (fun ho => br_f (by decide) (h0 (if_neg ho) _ _))
  rw [if_pos ho] at h0 h1
  have ht : bp_nb (x % 16) d < 16 := ho.1
  obtain ⟨m1, m2, m3, m4⟩ := bp_nbL _ ht d hd
  refine br_t (nI_pos' (by omega)) ?_
  refine wy_has hm ht (fun hh => ?_) (fun hh => br_t rfl ?_)
  · rw [if_neg (not_not_intro hh)] at h0 h1
    refine br_f (by decide) ?_
    refine wy_next ht hd (fun he => ?_) (fun he => br_t (by decide) (h0 (if_neg (fun y => he y.1)) _ _))
    have he16 : bp_nb (bp_nb (x % 16) d) d < 16 := he.1
    refine br_f (nI_pos (by omega)) ?_
    refine wy_has hm he16 (fun hx => br_f (by decide) (h0 (if_neg (fun y => y.2 hx)) _ _)) (fun hx => br_t rfl ?_)
    have hle := bp_hasLe hh
    have hpw := bi_p2 _ ht _ he16 (Ne.symm m2)
    have hq := h1 _ (if_pos ⟨he, hx⟩)
    rw [show ((m - 2 ^ bp_nb (x % 16) d + 2 ^ bp_nb (bp_nb (x % 16) d) d) * 16 + bp_nb (x % 16) d) / 16 = m - 2 ^ bp_nb (x % 16) d + 2 ^ bp_nb (bp_nb (x % 16) d) d by omega,
      show ((m - 2 ^ bp_nb (x % 16) d + 2 ^ bp_nb (bp_nb (x % 16) d) d) * 16 + bp_nb (x % 16) d) % 16 = bp_nb (x % 16) d by omega,
      if_neg (show ¬ m = m - 2 ^ bp_nb (x % 16) d + 2 ^ bp_nb (bp_nb (x % 16) d) d by omega)] at hq
    refine nm_r ?_ hq
    rw [← hmm] at hh hx ⊢
    exact bi_mvN ha hb hab ht he16 hh hx
  · rw [if_pos hh] at h1
    have hq := h1 _ rfl
    rw [show (m * 16 + bp_nb (x % 16) d) / 16 = m by omega, show (m * 16 + bp_nb (x % 16) d) % 16 = bp_nb (x % 16) d by omega, if_pos rfl] at hq
    exact hq
theorem wy_number {post : Int32 → Prop} {n : Nat} (hn : n < 137) (hts : ∀ i, i < 137 → ts i = nI (bp_tab i)) (h : post (nI n)) : wpY_number post (bo, pu, kp, ps, tc, tb, K, mv, ts, lv) (nI (bp_tab n)) := by
  have key : ∀ k i, i ≤ n → n < k + i → wY_number_2 post (nI (bp_tab n)) bo pu kp ps tc tb K mv ts lv k (nI i) := by
    intro k
    induction k with
    | zero => intro i h1 h2; omega
    | succ k ih =>
      intro i h1 h2
      rw [wY_number_2]
      refine br_f (nI_ge (b := 137) (by omega) (by decide)) ⟨vp_in_nI (by omega) (by decide), ?_⟩
      rw [nI_clamp (by omega), hts i (by omega)]
      have l1 := bp_tabL i (by omega)
      have l2 := bp_tabL n hn
      refine pk_eq (bp_tab i) (bp_tab n) (fun z => ?_) (fun z => nm_r (nI_1 i) (ih (i + 1) ?_ (by omega)))
      · rw [bp_tabI (by omega) hn z]; exact h
      · rcases Nat.lt_or_ge i n with y | y
        · exact y
        · exact absurd (congrArg bp_tab (show i = n by omega)) z
  exact ⟨138, key 138 0 (Nat.zero_le _) (by omega)⟩
theorem wy_size {post : Int32 → Prop} {m : Nat} (hm : m < 65536) (h : post (nI (bp_cnt (fun c => decide (bp_has m c)) 16))) : wpY_size post (bo, pu, kp, ps, tc, tb, K, mv, ts, lv) (nI m) := by
  unfold wpY_size
  dsimp only
  refine loop_0 (fun n i s => wY_size_4 post (nI m) bo pu kp ps tc tb K mv ts lv n s (nI i)) (fun i s => s = nI (bp_cnt (fun c => decide (bp_has m c)) i)) 16 0 rfl ?_ ?_
  · intro n s hs
    exact br_t (nI_le (b := 16) (Nat.le_refl _) (by decide)) (by rw [hs]; exact h)
  · intro n i s hi hs hk
    refine br_f (nI_ge (b := 16) hi (by decide)) (nm_r ?_ (nm_r (nI_1 i) (hk _ rfl)))
    rw [hs, bi_has hm hi, nI_add]
    apply congrArg nI
    show _ = bp_cnt (fun c => decide (bp_has m c)) i + (if decide (bp_has m i) = true then 1 else 0)
    by_cases z : bp_has m i
    · have z' : m / 2 ^ i % 2 = 1 := z
      rw [decide_eq_true z, if_pos rfl, z']
    · have z' : ¬ m / 2 ^ i % 2 = 1 := z
      rw [decide_eq_false z, if_neg (by decide)]
      have := Nat.mod_lt (m / 2 ^ i) (show 0 < 2 by decide)
      omega
theorem wy_isDone {post : Int32 → Prop} {m : Nat} (hm : m < 65536) (h1 : bp_D K m → post 1) (h0 : ¬ bp_D K m → post 0) : wpY_isDone post (bo, pu, kp, ps, tc, tb, K, mv, ts, lv) (nI m) := by
  unfold wpY_isDone
  dsimp only
  refine loop_0 (σ := Unit) (fun n i _ => wY_isDone_2 post (nI m) bo pu kp ps tc tb K mv ts lv n (nI i)) (fun i _ => ∀ c, c < i → bp_has m c → K c = 2) 16 () (fun c hc => by omega) ?_ ?_
  · intro n _ hI
    exact br_t (nI_le (b := 16) (Nat.le_refl _) (by decide)) (h1 hI)
  · intro n i _ hi hI hk
    have next : (bp_has m i → K i = 2) → ∀ x : Int32, x = nI i + 1 → wY_isDone_2 post (nI m) bo pu kp ps tc tb K mv ts lv n x := by
      intro hz
      refine nm_r (nI_1 i) (hk () (fun c hc hh => ?_))
      by_cases e : c = i
      · rw [e] at hh ⊢; exact hz hh
      · exact hI c (by omega) hh
    refine br_f (nI_ge (b := 16) hi (by decide)) ?_
    refine wy_has hm hi (fun hh => br_f (by decide) ⟨vp_in_nI hi (by decide), ?_⟩) (fun hh => br_t rfl (next (fun z => absurd z hh)))
    rw [nI_clamp (by omega)]
    exact br_c (fun z => next (fun _ => z)) (fun z => h0 (fun hD => z (hD i hi hh)))
theorem wy_clear {post : SY → Prop} (h : ∀ lv', bp_Lev lv' (fun _ => 0) → post (bo, pu, kp, ps, tc, tb, K, mv, ts, lv')) : wpY_clearLevels post (bo, pu, kp, ps, tc, tb, K, mv, ts, lv) := by
  unfold wpY_clearLevels
  dsimp only
  refine loop_0 (fun n i s => wY_clearLevels_2 post bo pu kp ps tc tb n (nI i) K mv ts s) (fun i s => ∀ y, y < i → s y = -1) 2192 lv (fun y hy => by omega) ?_ ?_
  · intro n s hI
    exact br_t (nI_le (b := 2192) (Nat.le_refl _) (by decide)) (h s (fun y hy => ⟨by rw [hI y hy, bi_lv0], Nat.zero_le _⟩))
  · intro n i s hi hI hk
    refine br_f (nI_ge (b := 2192) hi (by decide)) ⟨vp_in_nI hi (by decide), nm_e (nm_r (nI_1 i) (hk _ ?_))⟩
    intro y hy
    rw [nI_clamp (by omega)]
    by_cases z : y = i
    · rw [z]; exact pk_us
    · rw [pk_un z]; exact hI y (by omega)
end
