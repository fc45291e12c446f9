/-! the class's small methods -/
section
variable {st pc kp fd : Int32} {K kD kS se qu : Nat → Int32}
theorem wx_stateOf {post : Int32 → Prop} {p a b : Nat} (h : post (nI (bp_enc p a b))) : wpX_stateOf post (nI p) (nI a) (nI b) := by
  unfold wpX_stateOf
  rw [bi_enc]
  exact h
theorem wx_isCell {post : Int32 → Prop} {c : Nat} (hc : c < 2 ^ 31) (h1 : c < 16 → post 1) (h0 : 16 ≤ c → post 0) : wpX_isCell post (nI c) :=
  br_f (nI_pos hc) (pk_le 16 c (fun z => h0 z) (fun z => h1 z))
theorem wx_isCellN {post : Int32 → Prop} {x : Int32} (hx : x < 0 ∨ nI 16 ≤ x) (h0 : post 0) : wpX_isCell post x := by
  unfold wpX_isCell
  by_cases z : x < 0
  · exact br_t z h0
  · exact br_f z (br_t (hx.resolve_left z) h0)
theorem wx_first {post : Int32 → Prop} {s : Nat} (hs : s < 2 ^ 31) (h : post (nI (s / 16 / 17))) : wpX_firstBoxOf post (nI s) := by
  refine ⟨by decide, by decide, ?_⟩
  rw [bi_d16 hs, bi_d17 (by omega)]
  exact h
theorem wx_second {post : Int32 → Prop} {s : Nat} (hs : s < 2 ^ 31) (h : post (nI (s / 16 % 17))) : wpX_secondBoxOf post (nI s) := by
  refine ⟨by decide, by decide, ?_⟩
  rw [bi_d16 hs, bi_p17 (by omega)]
  exact h
theorem wx_pusherOf {post : Int32 → Prop} {s : Nat} (hs : s < 2 ^ 31) (h : post (nI (s % 16))) : wpX_pusherOf post (nI s) := by
  refine ⟨by decide, ?_⟩
  rw [bi_p16 hs]
  exact h
theorem wx_isBoxOn {post : Int32 → Prop} {s c : Nat} (hs : s < 4624) (hc : c < 2 ^ 31) (h1 : (c = s / 16 / 17 ∨ c = s / 16 % 17) → post 1) (h0 : ¬ (c = s / 16 / 17 ∨ c = s / 16 % 17) → post 0) : wpX_isBoxOn post (nI s, pc, kp, fd, K, kD, kS, se, qu) (nI c) := by
  unfold wpX_isBoxOn
  dsimp only
  refine wx_first (by omega) ?_
  refine pk_eq (s / 16 / 17) c (fun z => h1 (Or.inl z.symm)) (fun z => ?_)
  refine wx_second (by omega) ?_
  exact pk_eq (s / 16 % 17) c (fun y => h1 (Or.inr y.symm)) (fun y => h0 (by omega))
theorem bp_nb0 (c : Nat) : bp_nb c 0 = if c < 4 then 16 else c - 4 := rfl
theorem bp_nb1 (c : Nat) : bp_nb c 1 = if c < 12 then c + 4 else 16 := rfl
theorem bp_nb2 (c : Nat) : bp_nb c 2 = if c % 4 = 0 then 16 else c - 1 := rfl
theorem bp_nb3 (c : Nat) : bp_nb c 3 = if c % 4 = 3 then 16 else c + 1 := rfl
theorem wx_neighbour {post : Int32 → Prop} {c d : Nat} (hc : c < 16) (hd : d < 4) (h : post (nI (bp_nb c d))) : wpX_neighbour post (nI c) (nI d) := by
  refine ⟨by decide, nm_r (bi_d4 (by omega)) ⟨by decide, nm_r (bi_p4 (by omega)) ?_⟩⟩
  refine pk_eq d 0 (fun z => pk_le (c / 4) 0 (fun y => ?_) (fun y => ?_)) (fun z0 => pk_eq d 1 (fun z => pk_le 3 (c / 4) (fun y => ?_) (fun y => ?_)) (fun z1 => pk_eq d 2 (fun z => pk_le (c % 4) 0 (fun y => ?_) (fun y => ?_)) (fun z2 => pk_le 3 (c % 4) (fun y => ?_) (fun y => ?_))))
  · rw [z, bp_nb0, if_pos (by omega)] at h; exact h
  · rw [z, bp_nb0, if_neg (by omega)] at h
    have e : nI c - 4 = nI (c - 4) := pk_sub (b := 4) (by omega)
    rw [e]; exact h
  · rw [z, bp_nb1, if_neg (by omega)] at h; exact h
  · rw [z, bp_nb1, if_pos (by omega)] at h
    have e : nI c + 4 = nI (c + 4) := nI_add c 4
    rw [e]; exact h
  · rw [z, bp_nb2, if_pos (by omega)] at h; exact h
  · rw [z, bp_nb2, if_neg (by omega)] at h
    have e : nI c - 1 = nI (c - 1) := pk_sub (b := 1) (by omega)
    rw [e]; exact h
  · rw [show d = 3 by omega, bp_nb3, if_pos (by omega)] at h; exact h
  · rw [show d = 3 by omega, bp_nb3, if_neg (by omega)] at h
    have e : nI c + 1 = nI (c + 1) := nI_1 c
    rw [e]; exact h
theorem wx_isOpen {post : Int32 → Prop} {c : Nat} (hc : c < 2 ^ 31) (h1 : bp_op K c → post 1) (h0 : ¬ bp_op K c → post 0) : wpX_isOpen post (st, pc, kp, fd, K, kD, kS, se, qu) (nI c) := by
  unfold wpX_isOpen
  dsimp only
  refine br_f (nI_pos hc) (pk_le 16 c (fun z => h0 (fun y => by have := y.1; omega)) (fun z => ⟨vp_in_nI z (by decide), ?_⟩))
  rw [nI_clamp hc]
  exact br_c (fun y => h0 (fun x => x.2 y)) (fun y => h1 ⟨z, y⟩)
theorem wx_stateAfter {post : Int32 → Prop} {s d : Nat} (hV : bp_V s) (hd : d < 4) (h0 : bp_step K s d = none → post (-1)) (h1 : ∀ t, bp_step K s d = some t → post (nI t)) : wpX_stateAfter post (st, pc, kp, fd, K, kD, kS, se, qu) (nI s) (nI d) := by
  have hs : s < 4624 := hV.1
  obtain ⟨n1, n2, n3, n4⟩ := bp_nbL (s % 16) (by omega) d hd
  unfold bp_step bp_st2 at h0 h1
  unfold wpX_stateAfter
  dsimp only
  refine wx_pusherOf (by omega) ?_
  refine wx_first (by omega) ?_
  refine wx_second (by omega) ?_
  refine wx_neighbour (by omega) hd ?_
  refine wx_isOpen (by omega) (fun ho => ?_) (fun ho => ?_)
  · rw [if_pos ho] at h0 h1
    have ht : bp_nb (s % 16) d < 16 := ho.1
    obtain ⟨m1, m2, m3, m4⟩ := bp_nbL _ ht d hd
    refine br_f (by decide) ?_
    have key : ¬ (bp_nb (s % 16) d ≠ s / 16 / 17 ∧ bp_nb (s % 16) d ≠ s / 16 % 17) → wX_stateAfter_59 post (nI d) (nI (s / 16 / 17)) (nI (s / 16 % 17)) (nI (bp_nb (s % 16) d)) st pc kp fd K kD kS se qu := by
      intro hn
      rw [if_neg hn] at h0 h1
      unfold wX_stateAfter_59
      refine wx_neighbour ht hd ?_
      refine wx_isOpen (by omega) (fun hp => ?_) (fun hp => ?_)
      · refine br_f (by decide) ?_
        have he : bp_nb (bp_nb (s % 16) d) d < 16 := hp.1
        refine pk_eq (bp_nb (bp_nb (s % 16) d) d) (s / 16 / 17) (fun z => h0 (if_neg (fun y => y.2.1 z))) (fun z => ?_)
        refine pk_eq (bp_nb (bp_nb (s % 16) d) d) (s / 16 % 17) (fun y => h0 (if_neg (fun x => x.2.2 y))) (fun y => ?_)
        rw [if_pos ⟨hp, z, y⟩] at h1
        refine pk_eq (bp_nb (s % 16) d) (s / 16 / 17) (fun x => ?_) (fun x => ?_)
        · rw [if_pos x] at h1
          exact wx_stateOf (h1 _ rfl)
        · rw [if_neg x] at h1
          exact wx_stateOf (h1 _ rfl)
      · exact br_t rfl (h0 (if_neg (fun y => hp y.1)))
    refine pk_eq (bp_nb (s % 16) d) (s / 16 / 17) (fun z => key (fun y => y.1 z)) (fun z => ?_)
    refine pk_eq (bp_nb (s % 16) d) (s / 16 % 17) (fun y => key (fun x => x.2 y)) (fun y => ?_)
    rw [if_pos ⟨z, y⟩] at h1
    exact wx_stateOf (h1 _ rfl)
  · exact br_t rfl (h0 (if_neg ho))
theorem wx_isPush {post : Int32 → Prop} {s t : Nat} (hs : s < 2 ^ 31) (ht : t < 2 ^ 31) (h0 : s / 16 = t / 16 → post 0) (h1 : s / 16 ≠ t / 16 → post 1) : wpX_isPush post (nI s) (nI t) := by
  refine ⟨by decide, by decide, ?_⟩
  rw [bi_d16 hs, bi_d16 ht]
  exact pk_eq (s / 16) (t / 16) h0 h1
theorem wx_isHome {post : Int32 → Prop} {c : Nat} (hc : c < 2 ^ 31) (h1 : (c < 16 → K c = 2) → post 1) (h0 : ¬ (c < 16 → K c = 2) → post 0) : wpX_isHome post (st, pc, kp, fd, K, kD, kS, se, qu) (nI c) := by
  unfold wpX_isHome
  dsimp only
  refine wx_isCell hc (fun z => br_f (by decide) ⟨vp_in_nI z (by decide), ?_⟩) (fun z => br_t rfl (h1 (fun y => by omega)))
  rw [nI_clamp hc]
  exact br_c (fun y => h1 (fun _ => y)) (fun y => h0 (fun x => y (x z)))
theorem bp_Dnd {K : Nat → Int32} {s : Nat} (hV : bp_V s) : bp_D K (bp_nd s / 16) ↔ ((s / 16 / 17 < 16 → K (s / 16 / 17) = 2) ∧ (s / 16 % 17 < 16 → K (s / 16 % 17) = 2)) := by
  obtain ⟨hp, ha, hb, hab, _⟩ := hV.2
  rw [(bp_ndD hV).2]
  constructor
  · intro h
    exact ⟨fun z => h _ z ((bp_bmH _ ha _ hb _ z hab).mpr (Or.inl rfl)), fun z => h _ z ((bp_bmH _ ha _ hb _ z hab).mpr (Or.inr rfl))⟩
  · intro h c hc hh
    rcases (bp_bmH _ ha _ hb c hc hab).mp hh with z | z
    · subst z; exact h.1 hc
    · subst z; exact h.2 hc
theorem wx_isDone {post : Int32 → Prop} {s : Nat} (hV : bp_V s) (h1 : bp_D K (bp_nd s / 16) → post 1) (h0 : ¬ bp_D K (bp_nd s / 16) → post 0) : wpX_isDone post (st, pc, kp, fd, K, kD, kS, se, qu) (nI s) := by
  have hs : s < 4624 := hV.1
  rw [bp_Dnd hV] at h1 h0
  unfold wpX_isDone
  dsimp only
  refine wx_first (by omega) ?_
  refine wx_second (by omega) ?_
  refine wx_isHome (by omega) (fun z => ?_) (fun z => ?_)
  · refine br_f (by decide) ?_
    refine wx_isHome (by omega) (fun y => ?_) (fun y => ?_)
    · exact br_f (by decide) (h1 ⟨z, y⟩)
    · exact br_t rfl (h0 (fun x => y x.2))
  · exact br_t rfl (h0 (fun x => z x.1))
end
