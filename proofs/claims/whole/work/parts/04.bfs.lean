/-! the class's row of found states: what it holds (bp_Rep), how it grows (bp_G), the head of a level (bp_T) -/
def bp_Rep (seen queue : Nat → Int32) (q : Nat → Nat) (f : Nat) : Prop :=
  (∀ i, i < f → bp_V (q i) ∧ queue i = nI (q i)) ∧
  (∀ s, s < 4624 → (seen s = 1 ∧ ∃ i, i < f ∧ q i = s) ∨ (seen s = 0 ∧ ∀ i, i < f → q i ≠ s)) ∧
  bp_cnt (fun s => decide (seen s = 1)) 4624 = f
theorem bp_RepLe {seen queue : Nat → Int32} {q : Nat → Nat} {f : Nat} (h : bp_Rep seen queue q f) : f ≤ 4624 := by
  rw [← h.2.2]
  exact bp_cle _ _
def bp_G (q : Nat → Nat) (f : Nat) (q' : Nat → Nat) (f' : Nat) (P : Nat → Prop) : Prop :=
  f ≤ f' ∧ (∀ i, i < f → q' i = q i) ∧ (∀ i, f ≤ i → i < f' → P (q' i)) ∧ (∀ x, P x → ∃ i, i < f' ∧ q' i = x)
theorem bp_Gr {q : Nat → Nat} {f : Nat} {P : Nat → Prop} (h : ∀ x, P x → ∃ i, i < f ∧ q i = x) : bp_G q f q f P :=
  ⟨Nat.le_refl f, fun _ _ => rfl, fun i h1 h2 => by omega, h⟩
theorem bp_Gt {q q' q'' : Nat → Nat} {f f' f'' : Nat} {P P' : Nat → Prop} (h : bp_G q f q' f' P) (h' : bp_G q' f' q'' f'' P') : bp_G q f q'' f'' (fun x => P x ∨ P' x) := by
  obtain ⟨a1, a2, a3, a4⟩ := h
  obtain ⟨b1, b2, b3, b4⟩ := h'
  refine ⟨by omega, fun i hi => ?_, fun i hi hi' => ?_, fun x hx => ?_⟩
  · rw [b2 i (by omega), a2 i hi]
  · rcases Nat.lt_or_ge i f' with z | z
    · rw [b2 i z]; exact Or.inl (a3 i hi z)
    · exact Or.inr (b3 i z hi')
  · rcases hx with hx | hx
    · obtain ⟨i, hi, e⟩ := a4 x hx
      exact ⟨i, by omega, by rw [b2 i hi]; exact e⟩
    · exact b4 x hx
theorem bp_Gi {q q' : Nat → Nat} {f f' : Nat} {P P' : Nat → Prop} (h : bp_G q f q' f' P) (e : ∀ x, P x ↔ P' x) : bp_G q f q' f' P' :=
  ⟨h.1, h.2.1, fun i h1 h2 => (e _).mp (h.2.2.1 i h1 h2), fun x hx => h.2.2.2 x ((e x).mpr hx)⟩
theorem bp_Gm {q q' : Nat → Nat} {f f' : Nat} {P : Nat → Prop} (h : bp_G q f q' f' P) {x : Nat} (hx : ∃ i, i < f ∧ q i = x) : ∃ i, i < f' ∧ q' i = x := by
  obtain ⟨i, hi, e⟩ := hx
  exact ⟨i, Nat.lt_of_lt_of_le hi h.1, by rw [h.2.1 i hi]; exact e⟩
/-- one state more, or none: what reach does -/
theorem bp_Rin {seen queue : Nat → Int32} {q : Nat → Nat} {f s : Nat} (h : bp_Rep seen queue q f) (hs : s < 4624) (e : seen s = 1) : bp_G q f q f (fun x => x = s) := by
  apply bp_Gr
  intro x hx
  have hx' : x = s := hx
  rw [hx']
  rcases h.2.1 s hs with z | z
  · exact z.2
  · rw [e] at z; exact absurd z.1 (by decide)
theorem bp_Rnew {seen queue : Nat → Int32} {q : Nat → Nat} {f s : Nat} (h : bp_Rep seen queue q f) (hv : bp_V s) (e : ¬ seen s = 1) :
    f < 4624 ∧ bp_Rep (upd seen s 1) (upd queue f (nI s)) (fun i => if i = f then s else q i) (f + 1) ∧ bp_G q f (fun i => if i = f then s else q i) (f + 1) (fun x => x = s) := by
  obtain ⟨h1, h2, h3⟩ := h
  have hs : s < 4624 := hv.1
  have hn : ∀ i, i < f → q i ≠ s := by
    rcases h2 s hs with z | z
    · exact absurd z.1 e
    · exact z.2
  have hc : bp_cnt (fun s => decide (seen s = 1)) 4624 < 4624 := bp_clt (i := s) hs (decide_eq_false e)
  refine ⟨by omega, ⟨fun i hi => ?_, fun x hx => ?_, ?_⟩, ⟨by omega, fun i hi => if_neg (by omega), fun i hi hi' => ?_, fun x hx => ⟨f, by omega, ?_⟩⟩⟩
  · show bp_V (if i = f then s else q i) ∧ upd queue f (nI s) i = nI (if i = f then s else q i)
    by_cases z : i = f
    · rw [if_pos z, z]
      exact ⟨hv, pk_us⟩
    · rw [if_neg z, pk_un z]
      exact h1 i (by omega)
  · show (upd seen s 1 x = 1 ∧ ∃ i, i < f + 1 ∧ (if i = f then s else q i) = x) ∨ (upd seen s 1 x = 0 ∧ ∀ i, i < f + 1 → (if i = f then s else q i) ≠ x)
    by_cases z : x = s
    · rw [z]
      exact Or.inl ⟨pk_us, f, by omega, if_pos rfl⟩
    · rw [pk_un z]
      rcases h2 x hx with ⟨y1, i, y2, y3⟩ | ⟨y1, y2⟩
      · exact Or.inl ⟨y1, i, by omega, by rw [if_neg (by omega)]; exact y3⟩
      · refine Or.inr ⟨y1, fun i hi => ?_⟩
        by_cases w : i = f
        · rw [if_pos w]; exact fun y => z y.symm
        · rw [if_neg w]; exact y2 i (by omega)
  · rw [← h3]
    apply bp_cone (k := s)
    · exact decide_eq_false e
    · exact decide_eq_true pk_us
    · intro i hi
      show decide (upd seen s 1 i = 1) = decide (seen i = 1)
      rw [pk_un hi]
    · exact hs
  · show (if i = f then s else q i) = s
    exact if_pos (by omega)
  · show (if f = f then s else q f) = x
    rw [if_pos rfl, hx]
/-- nothing found yet -/
theorem bp_Rep0 {seen queue : Nat → Int32} {q : Nat → Nat} (h : ∀ s, s < 4624 → seen s = 0) : bp_Rep seen queue q 0 := by
  refine ⟨fun i hi => by omega, fun s hs => Or.inr ⟨h s hs, fun i hi => by omega⟩, bp_czero (fun i hi => ?_)⟩
  apply decide_eq_false
  rw [h i hi]
  decide
/-- the head of level m: what stands ahead of ls is through, what stands behind has cost m -/
def bp_T (K : Nat → Int32) (qb : Bool) (Sd : Nat → Prop) (m : Nat) (q : Nat → Nat) (f ls : Nat) : Prop :=
  (∀ j N, bp_R K qb Sd j N → j < m → ∃ i, i < ls ∧ bp_nd (q i) = N) ∧
  (∀ i, i < ls → ¬ bp_D K (bp_nd (q i) / 16) ∧ ∀ d t, d < 4 → bp_step K (q i) d = some t → ∃ j, j < f ∧ q j = t) ∧
  (∀ N, Sd N → ∃ i, i < f ∧ bp_nd (q i) = N) ∧
  (∀ i, ls ≤ i → i < f → bp_R K qb Sd m (bp_nd (q i))) ∧
  m ≤ ls ∧ ls ≤ f
/-- closed under what costs nothing -/
def bp_Cl (K : Nat → Int32) (qb : Bool) (q : Nat → Nat) (f ls : Nat) : Prop :=
  ∀ i, ls ≤ i → i < f → ∀ d t, d < 4 → bp_step K (q i) d = some t → bp_w qb (bp_nd (q i)) (bp_nd t) = 0 → ∃ j, j < f ∧ q j = t
theorem bp_Clf {K : Nat → Int32} {q : Nat → Nat} {f ls : Nat} : bp_Cl K false q f ls := by
  intro i _ _ d t _ _ h
  rw [bp_wf] at h
  exact absurd h (by decide)
theorem bp_Tfull {K : Nat → Int32} {qb : Bool} {Sd : Nat → Prop} {m : Nat} {q : Nat → Nat} {f ls : Nat} (hV : ∀ i, i < f → bp_V (q i)) (h : bp_T K qb Sd m q f ls) (hc : bp_Cl K qb q f ls) :
    ∀ j N, bp_R K qb Sd j N → j ≤ m → ∃ i, i < f ∧ bp_nd (q i) = N := by
  obtain ⟨t1, t2, t3, t4, t5, t6⟩ := h
  intro j N hR
  refine bp_Ri (K := K) (q := qb) (Sd := Sd) (fun j N => j ≤ m → ∃ i, i < f ∧ bp_nd (q i) = N) ?_ ?_ hR
  · intro N hN _
    exact t3 N hN
  · intro j M d M' hRj hQ hd hs hle
    have key : ∀ i, i < ls → bp_nd (q i) = M → ∃ i, i < f ∧ bp_nd (q i) = M' := by
      intro i hi he
      subst he
      obtain ⟨t, e1, e2, e3⟩ := bp_nsV (hV i (by omega)) hd hs
      obtain ⟨l, l1, l2⟩ := (t2 i hi).2 d t hd e1
      exact ⟨l, l1, by rw [l2]; exact e2⟩
    rcases bp_w01 qb M M' with w | w
    · obtain ⟨i, hi, he⟩ := hQ (by omega)
      rcases Nat.lt_or_ge i ls with z | z
      · exact key i z he
      · subst he
        obtain ⟨t, e1, e2, e3⟩ := bp_nsV (hV i hi) hd hs
        obtain ⟨l, l1, l2⟩ := hc i z hi d t hd e1 (by rw [e2]; exact w)
        exact ⟨l, l1, by rw [l2]; exact e2⟩
    · obtain ⟨i, hi, he⟩ := t1 j M hRj (by omega)
      exact key i hi he
/-- a level is through -/
theorem bp_Tnext {K : Nat → Int32} {qb : Bool} {Sd : Nat → Prop} {m : Nat} {q q' : Nat → Nat} {f f' ls : Nat} (hV : ∀ i, i < f → bp_V (q i)) (h : bp_T K qb Sd m q f ls) (hc : bp_Cl K qb q f ls) (hls : ls < f)
    (hD : ∀ i, ls ≤ i → i < f → ¬ bp_D K (bp_nd (q i) / 16))
    (hG : bp_G q f q' f' (fun x => ∃ j, ls ≤ j ∧ j < f ∧ ∃ d, d < 4 ∧ bp_step K (q j) d = some x ∧ bp_w qb (bp_nd (q j)) (bp_nd x) = 1)) :
    bp_T K qb Sd (m + 1) q' f' f := by
  have hF := bp_Tfull hV h hc
  obtain ⟨t1, t2, t3, t4, t5, t6⟩ := h
  obtain ⟨g1, g2, g3, g4⟩ := hG
  refine ⟨?_, ?_, ?_, ?_, by omega, g1⟩
  · intro j N hR hj
    obtain ⟨i, hi, he⟩ := hF j N hR (by omega)
    exact ⟨i, hi, by rw [g2 i hi]; exact he⟩
  · intro i hi
    rw [g2 i hi]
    refine ⟨?_, ?_⟩
    · rcases Nat.lt_or_ge i ls with z | z
      · exact (t2 i z).1
      · exact hD i z hi
    · intro d t hd hs
      have up : (∃ j, j < f ∧ q j = t) → ∃ j, j < f' ∧ q' j = t := fun ⟨j, hj, e⟩ => ⟨j, by omega, by rw [g2 j hj]; exact e⟩
      rcases Nat.lt_or_ge i ls with z | z
      · exact up ((t2 i z).2 d t hd hs)
      · rcases bp_w01 qb (bp_nd (q i)) (bp_nd t) with w | w
        · exact up (hc i z hi d t hd hs w)
        · exact g4 t ⟨i, z, hi, d, hd, hs, w⟩
  · intro N hN
    obtain ⟨i, hi, he⟩ := t3 N hN
    exact ⟨i, by omega, by rw [g2 i hi]; exact he⟩
  · intro i hi hi'
    obtain ⟨j, j1, j2, d, hd, hs, w⟩ := g3 i hi hi'
    have hR := bp_R1 (t4 j j1 j2) hd (bp_stV (hV j j2) hd hs).2.1
    rw [w] at hR
    exact hR
/-- the answers of a search by levels -/
theorem bp_Tyes {K : Nat → Int32} {qb : Bool} {Sd : Nat → Prop} {m : Nat} {q : Nat → Nat} {f ls i : Nat} (h : bp_T K qb Sd m q f ls) (h1 : ls ≤ i) (h2 : i < f) (hm : m ≤ 4624) (hD : bp_D K (bp_nd (q i) / 16)) : bp_A K qb Sd (nI m) := by
  refine Or.inl ⟨m, hm, rfl, ⟨_, h.2.2.2.1 i h1 h2, hD⟩, fun j N hj hR => ?_⟩
  obtain ⟨l, hl, he⟩ := h.1 j N hR hj
  rw [← he]
  exact (h.2.1 l hl).1
theorem bp_Tno {K : Nat → Int32} {qb : Bool} {Sd : Nat → Prop} {m : Nat} {q : Nat → Nat} {f ls : Nat} (hV : ∀ i, i < f → bp_V (q i)) (h : bp_T K qb Sd m q f ls) (hf : f ≤ ls) : bp_A K qb Sd (-6) := by
  obtain ⟨t1, t2, t3, t4, t5, t6⟩ := h
  refine Or.inr ⟨rfl, fun j N hR => ?_⟩
  have hh : ∃ i, i < f ∧ bp_nd (q i) = N := by
    refine bp_Ri (K := K) (q := qb) (Sd := Sd) (fun _ N => ∃ i, i < f ∧ bp_nd (q i) = N) ?_ ?_ hR
    · exact t3
    · intro j M d M' hRj hQ hd hs
      obtain ⟨i, hi, he⟩ := hQ
      subst he
      obtain ⟨t, e1, e2, e3⟩ := bp_nsV (hV i hi) hd hs
      obtain ⟨l, l1, l2⟩ := (t2 i (by omega)).2 d t hd e1
      exact ⟨l, l1, by rw [l2]; exact e2⟩
  obtain ⟨i, hi, he⟩ := hh
  rw [← he]
  exact (t2 i (by omega)).1
/-- a search begins -/
theorem bp_T0 {K : Nat → Int32} {qb : Bool} {Sd : Nat → Prop} {q : Nat → Nat} {f : Nat} (h1 : ∀ N, Sd N → ∃ i, i < f ∧ bp_nd (q i) = N) (h2 : ∀ i, i < f → Sd (bp_nd (q i))) : bp_T K qb Sd 0 q f 0 :=
  ⟨fun j _ _ hj => by omega, fun i hi => by omega, h1, fun i _ hi => bp_R0 (h2 i hi), Nat.le_refl 0, Nat.zero_le f⟩
/-- more states of the same cost in a level: still its head -/
theorem bp_Tw {K : Nat → Int32} {qb : Bool} {Sd : Nat → Prop} {m : Nat} {q q' : Nat → Nat} {f f' ls : Nat} (h : bp_T K qb Sd m q f ls) (h1 : f ≤ f') (h2 : ∀ i, i < f → q' i = q i) (h3 : ∀ i, ls ≤ i → i < f' → bp_R K qb Sd m (bp_nd (q' i))) : bp_T K qb Sd m q' f' ls := by
  obtain ⟨t1, t2, t3, t4, t5, t6⟩ := h
  refine ⟨?_, ?_, ?_, h3, t5, by omega⟩
  · intro j N hR hj
    obtain ⟨i, hi, he⟩ := t1 j N hR hj
    exact ⟨i, hi, by rw [h2 i (by omega)]; exact he⟩
  · intro i hi
    rw [h2 i (by omega)]
    refine ⟨(t2 i hi).1, fun d t hd hs => ?_⟩
    obtain ⟨j, hj, e⟩ := (t2 i hi).2 d t hd hs
    exact ⟨j, by omega, by rw [h2 j hj]; exact e⟩
  · intro N hN
    obtain ⟨i, hi, he⟩ := t3 N hN
    exact ⟨i, by omega, by rw [h2 i hi]; exact he⟩
