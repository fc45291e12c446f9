/-! the store: cells, directions, moves of the class's numbers (p, a, b) and of nodes (set of boxes times 16 and pusher) -/
def bp_nb (c d : Nat) : Nat :=
  if d = 0 then (if c < 4 then 16 else c - 4)
  else if d = 1 then (if c < 12 then c + 4 else 16)
  else if d = 2 then (if c % 4 = 0 then 16 else c - 1)
  else (if c % 4 = 3 then 16 else c + 1)
theorem bp_nbL : ∀ c, c < 16 → ∀ d, d < 4 → bp_nb c d ≤ 16 ∧ bp_nb c d ≠ c ∧ (bp_nb c d < 16 → bp_nb (bp_nb c d) (d ^^^ 1) = c) ∧ d ^^^ 1 < 4 := by decide +kernel
abbrev bp_op (K : Nat → Int32) (c : Nat) : Prop := c < 16 ∧ ¬ K c = 1
abbrev bp_has (m c : Nat) : Prop := m / 2 ^ c % 2 = 1
def bp_bm (a b : Nat) : Nat := (if a < 16 then 2 ^ a else 0) + (if b < 16 then 2 ^ b else 0)
theorem bp_all3 {p : Nat → Nat → Nat → Bool} {A B C : Nat} (h : (List.range A).all (fun a => (List.range B).all (fun b => (List.range C).all (fun c => p a b c))) = true) : ∀ a, a < A → ∀ b, b < B → ∀ c, c < C → p a b c = true := by
  intro a ha b hb c hc
  have h1 := List.all_eq_true.mp h a (List.mem_range.mpr ha)
  have h2 := List.all_eq_true.mp h1 b (List.mem_range.mpr hb)
  exact List.all_eq_true.mp h2 c (List.mem_range.mpr hc)
theorem bp_bmH : ∀ a, a < 17 → ∀ b, b < 17 → ∀ c, c < 16 → (a = b → a = 16) → (bp_has (bp_bm a b) c ↔ (c = a ∨ c = b)) := fun a ha b hb c hc =>
  of_decide_eq_true (bp_all3 (A := 17) (B := 17) (C := 16) (p := fun a b c => decide ((a = b → a = 16) → (bp_has (bp_bm a b) c ↔ (c = a ∨ c = b)))) (by decide +kernel) a ha b hb c hc)
theorem bp_bmL : ∀ a, a < 17 → ∀ b, b < 17 → (a = b → a = 16) → bp_bm a b < 65536 := by decide +kernel
theorem bp_bmM : ∀ a, a < 16 → ∀ b, b < 17 → ∀ h, h < 16 → a ≠ b → h ≠ b → bp_bm a b - 2 ^ a + 2 ^ h = bp_bm h b := fun a ha b hb h hh =>
  of_decide_eq_true (bp_all3 (A := 16) (B := 17) (C := 16) (p := fun a b h => decide (a ≠ b → h ≠ b → bp_bm a b - 2 ^ a + 2 ^ h = bp_bm h b)) (by decide +kernel) a ha b hb h hh)
theorem bp_bmC (a b : Nat) : bp_bm a b = bp_bm b a := Nat.add_comm _ _
def bp_enc (p a b : Nat) : Nat := (a * 17 + b) * 16 + p
def bp_ok (p a b : Nat) : Prop := p < 16 ∧ a < 17 ∧ b < 17 ∧ (a = b → a = 16) ∧ p ≠ a ∧ p ≠ b
def bp_V (s : Nat) : Prop := s < 4624 ∧ bp_ok (s % 16) (s / 16 / 17) (s / 16 % 17)
def bp_nd (s : Nat) : Nat := bp_bm (s / 16 / 17) (s / 16 % 17) * 16 + s % 16
def bp_st2 (K : Nat → Int32) (t e a b : Nat) : Option Nat :=
  if bp_op K t then
    (if t ≠ a ∧ t ≠ b then some (bp_enc t a b)
     else if bp_op K e ∧ e ≠ a ∧ e ≠ b then (if t = a then some (bp_enc t e b) else some (bp_enc t a e))
     else none)
  else none
def bp_step (K : Nat → Int32) (s d : Nat) : Option Nat :=
  bp_st2 K (bp_nb (s % 16) d) (bp_nb (bp_nb (s % 16) d) d) (s / 16 / 17) (s / 16 % 17)
def bp_ns2 (K : Nat → Int32) (t e m : Nat) : Option Nat :=
  if bp_op K t then
    (if ¬ bp_has m t then some (m * 16 + t)
     else if bp_op K e ∧ ¬ bp_has m e then some ((m - 2 ^ t + 2 ^ e) * 16 + t)
     else none)
  else none
def bp_ns (K : Nat → Int32) (N d : Nat) : Option Nat :=
  bp_ns2 K (bp_nb (N % 16) d) (bp_nb (bp_nb (N % 16) d) d) (N / 16)
theorem bp_dec {p a b : Nat} (hp : p < 16) (hb : b < 17) : bp_enc p a b % 16 = p ∧ bp_enc p a b / 16 = a * 17 + b ∧ bp_enc p a b / 16 / 17 = a ∧ bp_enc p a b / 16 % 17 = b := by
  unfold bp_enc
  refine ⟨by omega, by omega, by omega, by omega⟩
theorem bp_ndE {p a b : Nat} (hp : p < 16) (hb : b < 17) : bp_nd (bp_enc p a b) = bp_bm a b * 16 + p := by
  obtain ⟨h1, h2, h3, h4⟩ := bp_dec (a := a) hp hb
  unfold bp_nd
  rw [h1, h3, h4]
theorem bp_VE {p a b : Nat} (h : bp_ok p a b) : bp_V (bp_enc p a b) := by
  obtain ⟨hp, ha, hb, hr⟩ := h
  obtain ⟨h1, h2, h3, h4⟩ := bp_dec (a := a) hp hb
  refine ⟨by unfold bp_enc; omega, ?_⟩
  rw [h1, h3, h4]
  exact ⟨hp, ha, hb, hr⟩
theorem bp_VD {s : Nat} (_h : bp_V s) : bp_enc (s % 16) (s / 16 / 17) (s / 16 % 17) = s := by
  unfold bp_enc
  omega
theorem bp_ndD {s : Nat} (h : bp_V s) : bp_nd s % 16 = s % 16 ∧ bp_nd s / 16 = bp_bm (s / 16 / 17) (s / 16 % 17) := by
  unfold bp_nd
  have := h.2.1
  refine ⟨by omega, by omega⟩
/-- the two pictures of a move agree, and what a move gives -/
theorem bp_comm2 (K : Nat → Int32) {p a b t e : Nat} (h : bp_ok p a b) (ht : t ≤ 16) (he : t < 16 → e ≤ 16 ∧ e ≠ t) :
    (bp_st2 K t e a b = none ∧ bp_ns2 K t e (bp_bm a b) = none) ∨
    (∃ x y, bp_st2 K t e a b = some (bp_enc t x y) ∧ bp_ns2 K t e (bp_bm a b) = some (bp_bm x y * 16 + t) ∧ bp_ok t x y ∧ bp_op K t ∧
      ((x = a ∧ y = b ∧ ¬ bp_has (bp_bm a b) t) ∨
       (bp_has (bp_bm a b) t ∧ bp_op K e ∧ ¬ bp_has (bp_bm a b) e ∧ bp_bm x y = bp_bm a b - 2 ^ t + 2 ^ e ∧ a * 17 + b ≠ x * 17 + y ∧ bp_has (bp_bm x y) e))) := by
  obtain ⟨hp, ha, hb, hab, hpa, hpb⟩ := h
  unfold bp_st2 bp_ns2
  by_cases h1 : bp_op K t
  · rw [if_pos h1, if_pos h1]
    obtain ⟨e1, e2⟩ := he h1.1
    have ht16 : t < 16 := h1.1
    have hHt := bp_bmH a ha b hb t h1.1 hab
    by_cases h2 : t ≠ a ∧ t ≠ b
    · have h3 : ¬ bp_has (bp_bm a b) t := by rw [hHt]; omega
      rw [if_pos h2, if_pos h3]
      exact Or.inr ⟨a, b, rfl, rfl, ⟨h1.1, ha, hb, hab, h2.1, h2.2⟩, h1, Or.inl ⟨rfl, rfl, h3⟩⟩
    · have h3 : bp_has (bp_bm a b) t := by rw [hHt]; omega
      rw [if_neg h2, if_neg (not_not_intro h3)]
      by_cases h4 : bp_op K e ∧ e ≠ a ∧ e ≠ b
      · have hHe := bp_bmH a ha b hb e h4.1.1 hab
        have h5 : ¬ bp_has (bp_bm a b) e := by rw [hHe]; omega
        have he16 : e < 16 := h4.1.1
        have hea : e ≠ a := h4.2.1
        have heb : e ≠ b := h4.2.2
        have h45 : bp_op K e ∧ ¬ bp_has (bp_bm a b) e := ⟨h4.1, h5⟩
        rw [if_pos h4, if_pos h45]
        by_cases h6 : t = a
        · rw [if_pos h6]
          have hm : bp_bm a b - 2 ^ t + 2 ^ e = bp_bm e b := by
            rw [h6]; exact bp_bmM a (by omega) b hb e he16 (by omega) h4.2.2
          refine Or.inr ⟨e, b, rfl, ?_, ⟨h1.1, by omega, hb, by omega, by omega, by omega⟩, h1, Or.inr ⟨h3, h4.1, h5, hm.symm, by omega, ?_⟩⟩
          · rw [hm]
          · exact (bp_bmH e (by omega) b hb e he16 (by omega)).mpr (Or.inl rfl)
        · rw [if_neg h6]
          have hm : bp_bm a b - 2 ^ t + 2 ^ e = bp_bm a e := by
            have h7 : t = b := by omega
            rw [h7, bp_bmC a b, bp_bmC a e]; exact bp_bmM b (by omega) a ha e he16 (by omega) h4.2.1
          refine Or.inr ⟨a, e, rfl, ?_, ⟨h1.1, ha, by omega, by omega, by omega, by omega⟩, h1, Or.inr ⟨h3, h4.1, h5, hm.symm, by omega, ?_⟩⟩
          · rw [hm]
          · exact (bp_bmH a ha e (by omega) e he16 (by omega)).mpr (Or.inr rfl)
      · refine Or.inl ⟨if_neg h4, if_neg (fun z => h4 ⟨z.1, ?_⟩)⟩
        have hHe := bp_bmH a ha b hb e z.1.1 hab
        have hz := z.2
        rw [hHe] at hz
        omega
  · exact Or.inl ⟨if_neg h1, if_neg h1⟩
/-- at a valid number: no move on both pictures, or one on both -/
theorem bp_comm (K : Nat → Int32) {s d : Nat} (h : bp_V s) (hd : d < 4) :
    (bp_step K s d = none ∧ bp_ns K (bp_nd s) d = none) ∨
    (∃ t, bp_step K s d = some t ∧ bp_ns K (bp_nd s) d = some (bp_nd t) ∧ bp_V t ∧ t % 16 = bp_nb (s % 16) d ∧ bp_op K (t % 16) ∧
      ((s / 16 = t / 16 ∧ bp_nd s / 16 = bp_nd t / 16 ∧ ¬ bp_has (bp_nd s / 16) (t % 16)) ∨
       (s / 16 ≠ t / 16 ∧ bp_nd s / 16 ≠ bp_nd t / 16 ∧ bp_has (bp_nd s / 16) (t % 16) ∧ bp_op K (bp_nb (t % 16) d) ∧ ¬ bp_has (bp_nd s / 16) (bp_nb (t % 16) d) ∧
        bp_nd t / 16 = bp_nd s / 16 - 2 ^ (t % 16) + 2 ^ (bp_nb (t % 16) d) ∧ bp_has (bp_nd t / 16) (bp_nb (t % 16) d)))) := by
  obtain ⟨d1, d2⟩ := bp_ndD h
  obtain ⟨n1, n2, n3, n4⟩ := bp_nbL (s % 16) (by omega) d hd
  have hc := bp_comm2 K (t := bp_nb (s % 16) d) (e := bp_nb (bp_nb (s % 16) d) d) h.2 n1 (fun z => ⟨(bp_nbL _ z d hd).1, (bp_nbL _ z d hd).2.1⟩)
  have hs := bp_VD h
  unfold bp_step bp_ns
  rw [d1, d2]
  rcases hc with hc | ⟨x, y, c1, c2, c3, c4, c5⟩
  · exact Or.inl hc
  · obtain ⟨q1, q2, q3, q4⟩ := bp_dec (a := x) c3.1 c3.2.2.1
    have hnd := bp_ndE (a := x) c3.1 c3.2.2.1
    refine Or.inr ⟨_, c1, ?_, bp_VE c3, q1, ?_, ?_⟩
    · rw [c2, hnd]
    · rw [q1]; exact c4
    · rw [q1, q2, hnd]
      have hlt := c3.1
      have hdiv : (bp_bm x y * 16 + bp_nb (s % 16) d) / 16 = bp_bm x y := by omega
      rw [hdiv]
      have hs16 : s / 16 = s / 16 / 17 * 17 + s / 16 % 17 := by omega
      rcases c5 with ⟨e1, e2, e3⟩ | ⟨e1, e2, e3, e4, e5, e6⟩
      · refine Or.inl ⟨?_, ?_, e3⟩
        · rw [e1, e2]; exact hs16
        · rw [e1, e2]
      · refine Or.inr ⟨?_, ?_, e1, e2, e3, e4, e6⟩
        · rw [← hs16] at e5; exact e5
        · intro z; rw [z] at e3; exact e3 e6
