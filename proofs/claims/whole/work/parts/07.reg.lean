/-! cells come to without pushing; taking a move back -/
def bp_S1 (N : Nat) : Nat → Prop := fun M => M = N
theorem bp_S1V {x : Nat} (hx : bp_V x) : ∀ N, bp_S1 (bp_nd x) N → bp_VN N := fun _ h => ⟨x, hx, Eq.symm h⟩
/-- the number of found states, all of them of one pair of boxes, by the cells -/
theorem bp_regX {seen queue : Nat → Int32} {q : Nat → Nat} {f B : Nat} (h : bp_Rep seen queue q f) (hq : ∀ i, i < f → q i / 16 = B) (hB : B < 289) : f = bp_cnt (fun c => decide (seen (B * 16 + c) = 1)) 16 := by
  have h3 := h.2.2
  have hz : ∀ s, s < 4624 → s / 16 ≠ B → decide (seen s = 1) = false := by
    intro s hs hne
    apply decide_eq_false
    intro e
    rcases h.2.1 s hs with ⟨_, i, hi, hqi⟩ | ⟨e0, _⟩
    · apply hne; rw [← hqi]; exact hq i hi
    · rw [e0] at e; exact absurd e (by decide)
  have e1 : 4624 = B * 16 + (16 + (4624 - B * 16 - 16)) := by omega
  rw [e1, bp_cadd, bp_cadd] at h3
  rw [bp_czero (n := B * 16) (fun i hi => hz i (by omega) (by omega))] at h3
  rw [bp_czero (n := 4624 - B * 16 - 16) (fun i hi => hz _ (by omega) (by omega))] at h3
  rw [Nat.zero_add, Nat.add_zero] at h3
  exact h3.symm
/-- what costs nothing from a valid node: a walk -/
theorem bp_walk {K : Nat → Int32} {N d M : Nat} (h : bp_VN N) (hd : d < 4) (hs : bp_ns K N d = some M) (hw : bp_w true N M = 0) : M = N / 16 * 16 + bp_nb (N % 16) d ∧ bp_op K (bp_nb (N % 16) d) ∧ ¬ bp_has (N / 16) (bp_nb (N % 16) d) := by
  obtain ⟨x, hx, rfl⟩ := h
  obtain ⟨d1, d2⟩ := bp_ndD hx
  have hq := (bp_wq0 hw).2
  rcases bp_comm K hx hd with ⟨_, h2⟩ | ⟨t, h1, h2, h3, h4, h5, h6⟩
  · rw [hs] at h2; cases h2
  · rw [hs] at h2
    have e := Option.some.inj h2
    subst e
    obtain ⟨t1, t2⟩ := bp_ndD h3
    rcases h6 with ⟨_, _, c⟩ | ⟨_, b, _⟩
    · rw [d1, ← h4]
      refine ⟨?_, h5, c⟩
      rw [hq]
      have : bp_nd t % 16 = t % 16 := t1
      omega
    · exact absurd hq b
theorem bp_walkI {K : Nat → Int32} {m c d : Nat} (hc : c < 16) (h1 : bp_op K (bp_nb c d)) (h2 : ¬ bp_has m (bp_nb c d)) : bp_ns K (m * 16 + c) d = some (m * 16 + bp_nb c d) ∧ bp_w true (m * 16 + c) (m * 16 + bp_nb c d) = 0 := by
  have e1 : (m * 16 + c) % 16 = c := by omega
  have e2 : (m * 16 + c) / 16 = m := by omega
  have hlt := h1.1
  have e3 : (m * 16 + bp_nb c d) / 16 = m := by omega
  refine ⟨?_, bp_wt0 (by rw [e2, e3])⟩
  unfold bp_ns
  rw [e1, e2]
  unfold bp_ns2
  rw [if_pos h1, if_pos h2]
/-- the reference's set w of cells: closed -/
def bp_Wc (K : Nat → Int32) (m w : Nat) : Prop := ∀ c d, c < 16 → d < 4 → bp_has w c → bp_op K (bp_nb c d) → ¬ bp_has m (bp_nb c d) → bp_has w (bp_nb c d)
theorem bp_Wfull {K : Nat → Int32} {m p w : Nat} (hp : p < 16) (hV : bp_VN (m * 16 + p)) (h0 : bp_has w p) (hc : bp_Wc K m w) : ∀ c, c < 16 → bp_R K true (bp_S1 (m * 16 + p)) 0 (m * 16 + c) → bp_has w c := by
  intro c hc16 hR
  have key : ∀ j N, bp_R K true (bp_S1 (m * 16 + p)) j N → j = 0 → N / 16 = m ∧ bp_has w (N % 16) := by
    intro j N hR
    refine bp_Ri (K := K) (q := true) (Sd := bp_S1 (m * 16 + p)) (fun j N => j = 0 → N / 16 = m ∧ bp_has w (N % 16)) ?_ ?_ hR
    · intro N hN _
      have e : N = m * 16 + p := hN
      rw [e, show (m * 16 + p) / 16 = m by omega, show (m * 16 + p) % 16 = p by omega]
      exact ⟨rfl, h0⟩
    · intro j M d M' hRj hQ hd hs hle
      have hw0 : bp_w true M M' = 0 := by omega
      obtain ⟨q1, q2⟩ := hQ (by omega)
      have hVM : bp_VN M := bp_RV (fun N hN => by have e : N = m * 16 + p := hN; rw [e]; exact hV) hRj
      obtain ⟨a1, a2, a3⟩ := bp_walk hVM hd hs hw0
      rw [q1] at a1 a3
      have hlt := a2.1
      rw [a1, show (m * 16 + bp_nb (M % 16) d) / 16 = m by omega, show (m * 16 + bp_nb (M % 16) d) % 16 = bp_nb (M % 16) d by omega]
      exact ⟨rfl, hc (M % 16) d (by omega) hd q2 a2 a3⟩
  have := (key 0 _ hR rfl).2
  rw [show (m * 16 + c) % 16 = c by omega] at this
  exact this
/-- bits of sums -/
theorem bp_hasOr (a b c : Nat) : bp_has (a ||| b) c ↔ (bp_has a c ∨ bp_has b c) := by
  have h : ∀ x : Nat, bp_has x c ↔ x.testBit c = true := by
    intro x
    rw [Nat.testBit_eq_decide_div_mod_eq, decide_eq_true_iff]
  rw [h, h, h, Nat.testBit_or, Bool.or_eq_true]
theorem bp_hasP : ∀ a, a < 16 → ∀ c, c < 16 → (bp_has (2 ^ a) c ↔ c = a) := by decide +kernel
theorem bp_has0 (c : Nat) : ¬ bp_has 0 c := by
  intro h
  have : (0 : Nat) / 2 ^ c % 2 = 1 := h
  rw [Nat.zero_div] at this
  exact absurd this (by decide)
theorem bp_hasLe {m c : Nat} (h : bp_has m c) : 2 ^ c ≤ m := by
  rcases Nat.lt_or_ge m (2 ^ c) with z | z
  · have e : m / 2 ^ c = 0 := Nat.div_eq_of_lt z
    have h' : m / 2 ^ c % 2 = 1 := h
    rw [e] at h'
    exact absurd h' (by decide)
  · exact z
/-- a move taken back -/
theorem bp_back {K : Nat → Int32} {x d t : Nat} (hx : bp_V x) (hd : d < 4) (ho : bp_op K (x % 16)) (hs : bp_step K x d = some t) :
    bp_V t ∧ bp_op K (t % 16) ∧ bp_nb (t % 16) (d ^^^ 1) = x % 16 ∧ d ^^^ 1 < 4 ∧
    ((x / 16 = t / 16 ∧ bp_nd x / 16 = bp_nd t / 16) ∨
     (x / 16 ≠ t / 16 ∧ bp_op K (bp_nb (t % 16) d) ∧ bp_has (bp_nd t / 16) (bp_nb (t % 16) d) ∧ ¬ bp_has (bp_nd t / 16) (t % 16) ∧ bp_nd x / 16 = bp_nd t / 16 - 2 ^ (bp_nb (t % 16) d) + 2 ^ (t % 16))) := by
  obtain ⟨n1, n2, n3, n4⟩ := bp_nbL (x % 16) (by omega) d hd
  rcases bp_comm K hx hd with ⟨h1, _⟩ | ⟨t', h1, h2, h3, h4, h5, h6⟩
  · rw [hs] at h1; cases h1
  · rw [hs] at h1
    have e := Option.some.inj h1
    subst e
    obtain ⟨t1, t2⟩ := bp_ndD h3
    obtain ⟨v1, v2, v3, v4, v5, v6⟩ := h3.2
    refine ⟨h3, h5, ?_, n4, ?_⟩
    · rw [h4]; exact n3 (by rw [← h4]; exact h5.1)
    · rcases h6 with ⟨a, b, _⟩ | ⟨a, b, c1, c2, c3, c4, c5⟩
      · exact Or.inl ⟨a, b⟩
      · refine Or.inr ⟨a, c2, c5, ?_, ?_⟩
        · rw [t2]
          intro z
          have := (bp_bmH _ v2 _ v3 (t % 16) v1 v4).mp z
          omega
        · have hle := bp_hasLe c1
          omega
