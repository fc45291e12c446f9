/-! labels g (0: none, k + 1: level k): a sweep at level m, all sweeps of a level, the levels -/
def bp_Chg (m : Nat) (g g' : Nat → Nat) : Prop := ∀ y, y < 2192 → g' y = g y ∨ (m + 1 ≤ g' y ∧ g' y ≤ m + 2 ∧ (g y = 0 ∨ g' y < g y))
theorem bp_ChR {m : Nat} {g : Nat → Nat} : bp_Chg m g g := fun _ _ => Or.inl rfl
theorem bp_ChT {m : Nat} {g g' g'' : Nat → Nat} (h : bp_Chg m g g') (h' : bp_Chg m g' g'') : bp_Chg m g g'' := by
  intro y hy
  have h1 := h y hy
  have h2 := h' y hy
  omega
def bp_So (K : Nat → Int32) (qb : Bool) (Sd : Nat → Prop) (m : Nat) (g : Nat → Nat) : Prop :=
  ∀ y, y < 2192 → g y ≠ 0 → g y ≤ m + 2 ∧ bp_R K qb Sd (g y - 1) (bp_ga y)
/-- y was tried in direction d -/
def bp_Ex (K : Nat → Int32) (qb : Bool) (m : Nat) (g : Nat → Nat) (y d : Nat) : Prop :=
  ∀ z, z < 2192 → bp_ns K (bp_ga y) d = some (bp_ga z) → 0 < g z ∧ g z ≤ m + 1 + bp_w qb (bp_ga y) (bp_ga z)
theorem bp_ExC {K : Nat → Int32} {qb : Bool} {m : Nat} {g g' : Nat → Nat} {y d : Nat} (h : bp_Ex K qb m g y d) (hc : bp_Chg m g g') : bp_Ex K qb m g' y d := by
  intro z hz hs
  have h1 := h z hz hs
  have h2 := hc z hz
  omega
/-- the cells of set n that are at level m are closed under what costs nothing -/
def bp_Cd (K : Nat → Int32) (qb : Bool) (m : Nat) (g : Nat → Nat) (n : Nat) : Prop :=
  ∀ y, y < 2192 → y / 16 = n → g y = m + 1 → ∀ d z, d < 4 → z < 2192 → bp_ns K (bp_ga y) d = some (bp_ga z) → bp_w qb (bp_ga y) (bp_ga z) = 0 → 0 < g z ∧ g z ≤ m + 1
theorem bp_same {qb : Bool} {y z : Nat} (hy : y < 2192) (hz : z < 2192) (h : bp_w qb (bp_ga y) (bp_ga z) = 0) : z / 16 = y / 16 := by
  have h1 := (bp_wq0 h).2
  rw [(bp_gaD y).1, (bp_gaD z).1] at h1
  exact (bp_tabI (by omega) (by omega) h1).symm
/-- one try: y at level m, direction d; what may have changed -/
def bp_St (K : Nat → Int32) (qb : Bool) (m : Nat) (g g' : Nat → Nat) (y d : Nat) (r : Bool) : Prop :=
  (g' = g ∧ bp_Ex K qb m g y d ∧ r = false) ∨
  (∃ z, z < 2192 ∧ bp_ns K (bp_ga y) d = some (bp_ga z) ∧ ¬ (0 < g z ∧ g z ≤ m + 1 + bp_w qb (bp_ga y) (bp_ga z)) ∧
    g' = (fun i => if i = z then m + 1 + bp_w qb (bp_ga y) (bp_ga z) else g i) ∧ (r = true ↔ bp_w qb (bp_ga y) (bp_ga z) = 0))
/-- the state of a sweep before (s, d): g0 at its beginning, g now -/
def bp_J (K : Nat → Int32) (qb : Bool) (Sd : Nat → Prop) (m : Nat) (g0 g : Nat → Nat) (s d : Nat) (more : Bool) : Prop :=
  bp_Chg m g0 g ∧ bp_So K qb Sd m g ∧
  (∀ y, y < 2192 → y < s → g0 y = m + 1 → ∀ e, e < 4 → bp_Ex K qb m g y e) ∧
  (g0 s = m + 1 → ∀ e, e < d → bp_Ex K qb m g s e) ∧
  (more = false → ∀ y, y < 2192 → g y = m + 1 → g0 y = m + 1) ∧
  (more = true → ∃ y, y < 2192 ∧ g y = m + 1 ∧ g0 y ≠ m + 1) ∧
  (∀ n, bp_Cd K qb m g0 n → ∀ y, y < 2192 → y / 16 = n → g y = m + 1 → g0 y = m + 1)
theorem bp_J0 {K : Nat → Int32} {qb : Bool} {Sd : Nat → Prop} {m : Nat} {g : Nat → Nat} (h : bp_So K qb Sd m g) : bp_J K qb Sd m g g 0 0 false :=
  ⟨bp_ChR, h, fun _ _ h => absurd h (Nat.not_lt_zero _), fun _ _ h => absurd h (Nat.not_lt_zero _), fun _ _ _ h => h, fun h => Bool.noConfusion h, fun _ _ _ _ _ h => h⟩
theorem bp_J1 {K : Nat → Int32} {qb : Bool} {Sd : Nat → Prop} {m : Nat} {g0 g : Nat → Nat} {s : Nat} {more : Bool} (h : bp_J K qb Sd m g0 g s 4 more) : bp_J K qb Sd m g0 g (s + 1) 0 more := by
  obtain ⟨a1, a2, a3, a4, a5, a6, a7⟩ := h
  refine ⟨a1, a2, fun y hy hs hg e he => ?_, fun _ e he => by omega, a5, a6, a7⟩
  by_cases z : y = s
  · subst z; exact a4 hg e he
  · exact a3 y hy (by omega) hg e he
/-- s is not at level m: nothing is tried -/
theorem bp_J2 {K : Nat → Int32} {qb : Bool} {Sd : Nat → Prop} {m : Nat} {g0 g : Nat → Nat} {s d : Nat} {more : Bool} (hs : s < 2192) (h : bp_J K qb Sd m g0 g s d more) (hg : ¬ g s = m + 1) : bp_J K qb Sd m g0 g s (d + 1) more := by
  obtain ⟨a1, a2, a3, a4, a5, a6, a7⟩ := h
  refine ⟨a1, a2, a3, fun hg0 => ?_, a5, a6, a7⟩
  have h1 := a1 s hs
  exfalso
  omega
/-- s is at level m: direction d is tried -/
theorem bp_J3 {K : Nat → Int32} {qb : Bool} {Sd : Nat → Prop} {m : Nat} {g0 g g' : Nat → Nat} {s d : Nat} {more r : Bool} (hs : s < 2192) (hd : d < 4) (h : bp_J K qb Sd m g0 g s d more) (hg : g s = m + 1) (hst : bp_St K qb m g g' s d r) : bp_J K qb Sd m g0 g' s (d + 1) (more || r) := by
  obtain ⟨a1, a2, a3, a4, a5, a6, a7⟩ := h
  rcases hst with ⟨e1, e2, e3⟩ | ⟨z, z1, z2, z3, z4, z5⟩
  · subst e1 e3
    rw [Bool.or_false]
    refine ⟨a1, a2, a3, fun hg0 e he => ?_, a5, a6, a7⟩
    by_cases w : e = d
    · subst w; exact e2
    · exact a4 hg0 e (by omega)
  · have hw := bp_w01 qb (bp_ga s) (bp_ga z)
    have gz : g' z = m + 1 + bp_w qb (bp_ga s) (bp_ga z) := by rw [z4]; exact if_pos rfl
    have gn : ∀ i, i ≠ z → g' i = g i := fun i hi => by rw [z4]; exact if_neg hi
    have hc : bp_Chg m g g' := by
      intro y hy
      by_cases e : y = z
      · subst e; omega
      · exact Or.inl (gn y e)
    have hR : bp_R K qb Sd (m + bp_w qb (bp_ga s) (bp_ga z)) (bp_ga z) := by
      have := bp_R1 (a2 s hs (by omega)).2 hd z2
      rw [hg] at this
      exact this
    refine ⟨bp_ChT a1 hc, ?_, ?_, ?_, ?_, ?_, ?_⟩
    · intro y hy hne
      by_cases e : y = z
      · subst e
        refine ⟨by omega, ?_⟩
        have e2 : g' y - 1 = m + bp_w qb (bp_ga s) (bp_ga y) := by omega
        rw [e2]
        exact hR
      · rw [gn y e] at hne ⊢
        exact a2 y hy hne
    · intro y hy hys hg0 e he
      exact bp_ExC (a3 y hy hys hg0 e he) hc
    · intro hg0 e he
      by_cases w : e = d
      · subst w
        intro x hx hns
        rw [z2] at hns
        have : z = x := bp_gaI z1 hx (Option.some.inj hns)
        subst this
        omega
      · exact bp_ExC (a4 hg0 e (by omega)) hc
    · intro hm y hy hgy
      have hm1 : more = false := by cases more with
        | false => rfl
        | true => exact absurd hm (by simp)
      have hr1 : r = false := by cases r with
        | false => rfl
        | true => exact absurd hm (by simp)
      by_cases e : y = z
      · subst e
        have : ¬ bp_w qb (bp_ga s) (bp_ga y) = 0 := fun w => by rw [hr1] at z5; exact Bool.noConfusion (z5.mpr w)
        omega
      · rw [gn y e] at hgy
        exact a5 hm1 y hy hgy
    · intro hm
      by_cases hm1 : more = true
      · obtain ⟨y, hy, h1, h2⟩ := a6 hm1
        refine ⟨y, hy, ?_, h2⟩
        have := hc y hy
        omega
      · have hr1 : r = true := by cases r with
          | false => rw [Bool.or_false] at hm; exact absurd hm hm1
          | true => rfl
        have hw0 := z5.mp hr1
        refine ⟨z, z1, by omega, ?_⟩
        have := a1 z z1
        omega
    · intro n hn y hy hyn hgy
      by_cases e : y = z
      · subst e
        have hw0 : bp_w qb (bp_ga s) (bp_ga y) = 0 := by omega
        have hsn := bp_same hs z1 hw0
        have hg0 := a7 n hn s hs (by omega) hg
        have hcd := hn s hs (by omega) hg0 d y hd hy z2 hw0
        have h1 := a1 y hy
        omega
      · rw [gn y e] at hgy
        exact a7 n hn y hy hyn hgy
/-- a sweep is through: s = 2192 -/
def bp_Sw (K : Nat → Int32) (qb : Bool) (Sd : Nat → Prop) (m : Nat) (g0 g : Nat → Nat) (more : Bool) : Prop :=
  bp_Chg m g0 g ∧ bp_So K qb Sd m g ∧
  (∀ y, y < 2192 → g0 y = m + 1 → ∀ e, e < 4 → bp_Ex K qb m g y e) ∧
  (more = false → ∀ y, y < 2192 → g y = m + 1 → g0 y = m + 1) ∧
  (more = true → ∃ y, y < 2192 ∧ g y = m + 1 ∧ g0 y ≠ m + 1) ∧
  (∀ n, bp_Cd K qb m g0 n → ∀ y, y < 2192 → y / 16 = n → g y = m + 1 → g0 y = m + 1)
theorem bp_J4 {K : Nat → Int32} {qb : Bool} {Sd : Nat → Prop} {m : Nat} {g0 g : Nat → Nat} {more : Bool} (h : bp_J K qb Sd m g0 g 2192 0 more) : bp_Sw K qb Sd m g0 g more :=
  ⟨h.1, h.2.1, fun y hy => h.2.2.1 y hy hy, h.2.2.2.2.1, h.2.2.2.2.2.1, h.2.2.2.2.2.2⟩
/-- before sweep k of level m -/
def bp_L (K : Nat → Int32) (qb : Bool) (Sd : Nat → Prop) (m : Nat) (gt g : Nat → Nat) (k : Nat) (more : Bool) : Prop :=
  bp_Chg m gt g ∧ bp_So K qb Sd m g ∧
  ((more = false ∧ ∀ y, y < 2192 → g y = m + 1 → ∀ e, e < 4 → bp_Ex K qb m g y e) ∨
   (more = true ∧ k ≤ 16 ∧ ∀ n, n < 137 → bp_Cd K qb m g n ∨ k ≤ bp_cnt (fun c => decide (g (n * 16 + c) = m + 1)) 16))
theorem bp_L0 {K : Nat → Int32} {qb : Bool} {Sd : Nat → Prop} {m : Nat} {g : Nat → Nat} (h : bp_So K qb Sd m g) : bp_L K qb Sd m g g 0 true :=
  ⟨bp_ChR, h, Or.inr ⟨rfl, by omega, fun _ _ => Or.inr (Nat.zero_le _)⟩⟩
theorem bp_L1 {K : Nat → Int32} {qb : Bool} {Sd : Nat → Prop} {m : Nat} {gt g g' : Nat → Nat} {k : Nat} {more : Bool} (h : bp_L K qb Sd m gt g k true) (hs : bp_Sw K qb Sd m g g' more) : bp_L K qb Sd m gt g' (k + 1) more := by
  obtain ⟨a1, a2, a3⟩ := h
  obtain ⟨b1, b2, b3, b4, b5, b6⟩ := hs
  refine ⟨bp_ChT a1 b1, b2, ?_⟩
  rcases a3 with ⟨z, _⟩ | ⟨_, hk, hn⟩
  · exact Bool.noConfusion z
  · by_cases hm : more = true
    · refine Or.inr ⟨hm, ?_, ?_⟩
      · obtain ⟨y, hy, h1, h2⟩ := b5 hm
        rcases hn (y / 16) (by omega) with z | z
        · exact absurd (b6 (y / 16) z y hy rfl h1) h2
        · have hlt := bp_clt (f := fun c => decide (g (y / 16 * 16 + c) = m + 1)) (n := 16) (i := y % 16) (by omega) (by
            apply decide_eq_false
            rw [show y / 16 * 16 + y % 16 = y by omega]
            exact h2)
          omega
      · intro n hn1
        rcases hn n hn1 with z | z
        · refine Or.inl ?_
          intro y hy hyn hgy d x hd hx hns hw
          have h1 := z y hy hyn (b6 n z y hy hyn hgy) d x hd hx hns hw
          have h2 := b1 x hx
          omega
        · by_cases hnew : ∃ c, c < 16 ∧ g (n * 16 + c) ≠ m + 1 ∧ g' (n * 16 + c) = m + 1
          · obtain ⟨c, hc, c1, c2⟩ := hnew
            refine Or.inr (Nat.le_trans (Nat.succ_le_succ z) (bp_cstr (fun i hi hgi => ?_) ⟨c, hc, decide_eq_false c1, decide_eq_true c2⟩))
            apply decide_eq_true
            have h1 := of_decide_eq_true hgi
            have h2 := b1 (n * 16 + i) (by omega)
            omega
          · refine Or.inl ?_
            intro y hy hyn hgy d x hd hx hns hw
            have h0 : g y = m + 1 := by
              apply Classical.byContradiction
              intro hne
              exact hnew ⟨y % 16, by omega, by rw [show n * 16 + y % 16 = y by omega]; exact hne, by rw [show n * 16 + y % 16 = y by omega]; exact hgy⟩
            have h1 := b3 y hy h0 d hd x hx hns
            omega
    · have hm' : more = false := by cases more with
        | false => rfl
        | true => exact absurd rfl hm
      refine Or.inl ⟨hm', fun y hy hgy e he => ?_⟩
      exact b3 y hy (b4 hm' y hy hgy) e he
/-- a level's sweeps are through: also when seventeen were made -/
theorem bp_L2 {K : Nat → Int32} {qb : Bool} {Sd : Nat → Prop} {m : Nat} {gt g : Nat → Nat} {k : Nat} {more : Bool} (h : bp_L K qb Sd m gt g k more) (hx : 17 ≤ k ∨ more = false) :
    bp_Chg m gt g ∧ bp_So K qb Sd m g ∧ ∀ y, y < 2192 → g y = m + 1 → ∀ e, e < 4 → bp_Ex K qb m g y e := by
  obtain ⟨a1, a2, a3⟩ := h
  refine ⟨a1, a2, ?_⟩
  rcases a3 with ⟨_, z⟩ | ⟨z, hk, _⟩
  · exact z
  · rcases hx with hx | hx
    · omega
    · rw [z] at hx; exact Bool.noConfusion hx
/-- the head of level m of the reference's search -/
def bp_U (K : Nat → Int32) (qb : Bool) (Sd : Nat → Prop) (m : Nat) (g : Nat → Nat) : Prop :=
  (∀ y, y < 2192 → g y ≠ 0 → g y ≤ m + 1 ∧ bp_R K qb Sd (g y - 1) (bp_ga y)) ∧
  (∀ y, y < 2192 → 0 < g y → g y ≤ m → ¬ bp_D K (bp_tab (y / 16)) ∧ ∀ d z, d < 4 → z < 2192 → bp_ns K (bp_ga y) d = some (bp_ga z) → 0 < g z ∧ g z ≤ g y + bp_w qb (bp_ga y) (bp_ga z)) ∧
  (∀ N, Sd N → ∃ y, y < 2192 ∧ bp_ga y = N ∧ g y = 1) ∧
  m ≤ bp_cnt (fun y => decide (0 < g y ∧ g y ≤ m)) 2192 ∧
  (m = 0 ∨ ∃ y, y < 2192 ∧ g y = m + 1)
theorem bp_USo {K : Nat → Int32} {qb : Bool} {Sd : Nat → Prop} {m : Nat} {g : Nat → Nat} (h : bp_U K qb Sd m g) : bp_So K qb Sd m g :=
  fun y hy hne => ⟨by have := (h.1 y hy hne).1; omega, (h.1 y hy hne).2⟩
/-- what is come to with cost at most m is labelled with no more, once level m is swept -/
theorem bp_Uc {K : Nat → Int32} {qb : Bool} {Sd : Nat → Prop} (hS : ∀ N, Sd N → bp_VN N) {m : Nat} {g : Nat → Nat}
    (h0 : ∀ N, Sd N → ∃ y, y < 2192 ∧ bp_ga y = N ∧ g y = 1)
    (hcl : ∀ y, y < 2192 → 0 < g y → g y ≤ m + 1 → ∀ d z, d < 4 → z < 2192 → bp_ns K (bp_ga y) d = some (bp_ga z) → 0 < g z ∧ g z ≤ g y + bp_w qb (bp_ga y) (bp_ga z)) :
    ∀ j N, bp_R K qb Sd j N → j ≤ m → ∃ y, y < 2192 ∧ bp_ga y = N ∧ 0 < g y ∧ g y ≤ j + 1 := by
  intro j N hR
  refine bp_Ri (K := K) (q := qb) (Sd := Sd) (fun j N => j ≤ m → ∃ y, y < 2192 ∧ bp_ga y = N ∧ 0 < g y ∧ g y ≤ j + 1) ?_ ?_ hR
  · intro N hN _
    obtain ⟨y, h1, h2, h3⟩ := h0 N hN
    exact ⟨y, h1, h2, by omega, by omega⟩
  · intro j M d M' hRj hQ hd hs hle
    obtain ⟨y, h1, h2, h3, h4⟩ := hQ (by omega)
    obtain ⟨z, z1, z2⟩ := bp_gaS (bp_VNs (bp_RV hS hRj) hd hs)
    subst h2 z2
    have := hcl y h1 h3 (by omega) d z hd z1 hs
    exact ⟨z, z1, rfl, by omega, by omega⟩
/-- level m is swept: a store that is done is at level m, or none is, and the next level is empty, or it isn't -/
theorem bp_Uyes {K : Nat → Int32} {qb : Bool} {Sd : Nat → Prop} (hS : ∀ N, Sd N → bp_VN N) {m : Nat} {gt g : Nat → Nat} (hm : m < 4624) (h : bp_U K qb Sd m gt)
    (h1 : bp_Chg m gt g) (h2 : bp_So K qb Sd m g) (h3 : ∀ y, y < 2192 → g y = m + 1 → ∀ e, e < 4 → bp_Ex K qb m g y e)
    {y : Nat} (hy : y < 2192) (hg : g y = m + 1) (hD : bp_D K (bp_tab (y / 16))) : bp_A K qb Sd (nI m) := by
  obtain ⟨u1, u2, u3, u4, u5⟩ := h
  have hR := (h2 y hy (by omega)).2
  rw [hg] at hR
  refine Or.inl ⟨m, by omega, rfl, ⟨bp_ga y, hR, by rw [(bp_gaD y).1]; exact hD⟩, ?_⟩
  intro j N hj hRj
  have hcl : ∀ y, y < 2192 → 0 < g y → g y ≤ m + 1 → ∀ d z, d < 4 → z < 2192 → bp_ns K (bp_ga y) d = some (bp_ga z) → 0 < g z ∧ g z ≤ g y + bp_w qb (bp_ga y) (bp_ga z) := by
    intro y hy g0 g1 d z hd hz hs
    by_cases e : g y = m + 1
    · have := h3 y hy e d hd z hz hs
      omega
    · have c1 := h1 y hy
      have := (u2 y hy (by omega) (by omega)).2 d z hd hz hs
      have c2 := h1 z hz
      omega
  have h0 : ∀ N, Sd N → ∃ y, y < 2192 ∧ bp_ga y = N ∧ g y = 1 := by
    intro N hN
    obtain ⟨y, y1, y2, y3⟩ := u3 N hN
    have := h1 y y1
    exact ⟨y, y1, y2, by omega⟩
  obtain ⟨x, x1, x2, x3, x4⟩ := bp_Uc hS h0 hcl j N hRj (by omega)
  have c1 := h1 x x1
  rw [← x2, (bp_gaD x).1]
  have e : g x = gt x := by omega
  exact (u2 x x1 (by omega) (by omega)).1
theorem bp_Uno {K : Nat → Int32} {qb : Bool} {Sd : Nat → Prop} (hS : ∀ N, Sd N → bp_VN N) {m : Nat} {gt g : Nat → Nat} (h : bp_U K qb Sd m gt)
    (h1 : bp_Chg m gt g) (h2 : bp_So K qb Sd m g) (h3 : ∀ y, y < 2192 → g y = m + 1 → ∀ e, e < 4 → bp_Ex K qb m g y e)
    (hD : ∀ y, y < 2192 → g y = m + 1 → ¬ bp_D K (bp_tab (y / 16))) (hE : ∀ y, y < 2192 → g y ≠ m + 2) : bp_A K qb Sd (-6) := by
  obtain ⟨u1, u2, u3, u4, u5⟩ := h
  refine Or.inr ⟨rfl, fun j N hR => ?_⟩
  have hh : ∃ y, y < 2192 ∧ bp_ga y = N ∧ 0 < g y := by
    refine bp_Ri (K := K) (q := qb) (Sd := Sd) (fun _ N => ∃ y, y < 2192 ∧ bp_ga y = N ∧ 0 < g y) ?_ ?_ hR
    · intro N hN
      obtain ⟨y, y1, y2, y3⟩ := u3 N hN
      have := h1 y y1
      exact ⟨y, y1, y2, by omega⟩
    · intro j M d M' hRj hQ hd hs
      obtain ⟨y, y1, y2, y3⟩ := hQ
      obtain ⟨z, z1, z2⟩ := bp_gaS (bp_VNs (bp_RV hS hRj) hd hs)
      subst y2 z2
      refine ⟨z, z1, rfl, ?_⟩
      have hl := (h2 y y1 (by omega)).1
      have hne := hE y y1
      by_cases e : g y = m + 1
      · exact (h3 y y1 e d hd z z1 hs).1
      · have c1 := h1 y y1
        have c2 := h1 z z1
        have := (u2 y y1 (by omega) (by omega)).2 d z hd z1 hs
        omega
  obtain ⟨y, y1, y2, y3⟩ := hh
  rw [← y2, (bp_gaD y).1]
  have hl := (h2 y y1 (by omega)).1
  have hne := hE y y1
  by_cases e : g y = m + 1
  · exact hD y y1 e
  · have c1 := h1 y y1
    exact (u2 y y1 (by omega) (by omega)).1
theorem bp_Unext {K : Nat → Int32} {qb : Bool} {Sd : Nat → Prop} {m : Nat} {gt g : Nat → Nat} (h : bp_U K qb Sd m gt)
    (h1 : bp_Chg m gt g) (h2 : bp_So K qb Sd m g) (h3 : ∀ y, y < 2192 → g y = m + 1 → ∀ e, e < 4 → bp_Ex K qb m g y e)
    (hD : ∀ y, y < 2192 → g y = m + 1 → ¬ bp_D K (bp_tab (y / 16))) (hE : ∃ y, y < 2192 ∧ g y = m + 2) : bp_U K qb Sd (m + 1) g := by
  obtain ⟨u1, u2, u3, u4, u5⟩ := h
  have h0 : ∀ N, Sd N → ∃ y, y < 2192 ∧ bp_ga y = N ∧ g y = 1 := by
    intro N hN
    obtain ⟨y, y1, y2, y3⟩ := u3 N hN
    have := h1 y y1
    exact ⟨y, y1, y2, by omega⟩
  refine ⟨?_, ?_, h0, ?_, Or.inr hE⟩
  · intro y hy hne
    exact h2 y hy hne
  · intro y hy g0 g1
    by_cases e : g y = m + 1
    · refine ⟨hD y hy e, fun d z hd hz hs => ?_⟩
      have := h3 y hy e d hd z hz hs
      omega
    · have c1 := h1 y hy
      have e2 : g y = gt y := by omega
      obtain ⟨v1, v2⟩ := u2 y hy (by omega) (by omega)
      refine ⟨v1, fun d z hd hz hs => ?_⟩
      have := v2 d z hd hz hs
      have c2 := h1 z hz
      omega
  · have hex : ∃ y, y < 2192 ∧ gt y = m + 1 := by
      rcases u5 with e | e
      · obtain ⟨y, y1, y2⟩ := hE
        obtain ⟨N, hN⟩ := bp_RS (h2 y y1 (by omega)).2
        obtain ⟨x, x1, _, x3⟩ := u3 N hN
        exact ⟨x, x1, by omega⟩
      · exact e
    obtain ⟨y, y1, y2⟩ := hex
    have c1 := h1 y y1
    refine Nat.le_trans (Nat.succ_le_succ u4) (bp_cstr (fun i hi hgi => ?_) ⟨y, y1, decide_eq_false (by omega), decide_eq_true (by omega)⟩)
    apply decide_eq_true
    have g1 := of_decide_eq_true hgi
    have c2 := h1 i hi
    omega
/-- there are no 1921 levels -/
theorem bp_Ubig {K : Nat → Int32} {qb : Bool} {Sd : Nat → Prop} (hS : ∀ N, Sd N → bp_VN N) {m : Nat} {g : Nat → Nat} (h : bp_U K qb Sd m g) : m ≤ 1920 := by
  obtain ⟨u1, u2, u3, u4, u5⟩ := h
  refine Nat.le_trans u4 (Nat.le_trans (bp_cmono (fun i hi hgi => ?_)) (Nat.le_of_eq bp_cntN))
  have g1 := of_decide_eq_true hgi
  apply decide_eq_true
  refine ⟨fun e => ?_, ?_⟩
  · apply (u2 i hi g1.1 g1.2).1
    rw [e]
    intro c hc hh
    have : (0 : Nat) / 2 ^ c % 2 = 1 := hh
    rw [Nat.zero_div] at this
    exact absurd this (by decide)
  · obtain ⟨x, hx, e⟩ := bp_RV hS (u1 i hi (by omega)).2
    obtain ⟨a1, a2⟩ := bp_gaD i
    obtain ⟨b1, b2⟩ := bp_ndD hx
    obtain ⟨hp, ha, hb, hab, hpa, hpb⟩ := hx.2
    rw [e, a2] at b1
    rw [e, a1] at b2
    rw [b2]
    intro hh
    have := (bp_bmH _ ha _ hb (i % 16) (by omega) hab).mp hh
    omega
/-- a search of the reference begins -/
theorem bp_U0 {K : Nat → Int32} {qb : Bool} {Sd : Nat → Prop} {g : Nat → Nat} (h1 : ∀ N, Sd N → ∃ y, y < 2192 ∧ bp_ga y = N ∧ g y = 1) (h2 : ∀ y, y < 2192 → g y = 0 ∨ (g y = 1 ∧ Sd (bp_ga y))) : bp_U K qb Sd 0 g := by
  refine ⟨fun y hy hne => ?_, fun y hy g0 g1 => by omega, h1, Nat.zero_le _, Or.inl rfl⟩
  rcases h2 y hy with e | ⟨e, hs⟩
  · exact absurd e hne
  · refine ⟨by omega, ?_⟩
    rw [e]
    exact bp_R0 hs
