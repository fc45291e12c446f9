/-! what can be come to from seeds, with its cost: the least closed set; the answer of a search; counts -/
def bp_w (q : Bool) (N M : Nat) : Nat := if q = true ∧ N / 16 = M / 16 then 0 else 1
def bp_R (K : Nat → Int32) (q : Bool) (Sd : Nat → Prop) (k N : Nat) : Prop :=
  ∀ Q : Nat → Nat → Prop, (∀ N, Sd N → Q 0 N) → (∀ j M d M', Q j M → d < 4 → bp_ns K M d = some M' → Q (j + bp_w q M M') M') → Q k N
theorem bp_R0 {K : Nat → Int32} {q : Bool} {Sd : Nat → Prop} {N : Nat} (h : Sd N) : bp_R K q Sd 0 N := fun _ h0 _ => h0 N h
theorem bp_R1 {K : Nat → Int32} {q : Bool} {Sd : Nat → Prop} {j M d M' : Nat} (h : bp_R K q Sd j M) (hd : d < 4) (hs : bp_ns K M d = some M') : bp_R K q Sd (j + bp_w q M M') M' :=
  fun Q h0 h1 => h1 j M d M' (h Q h0 h1) hd hs
theorem bp_Ri {K : Nat → Int32} {q : Bool} {Sd : Nat → Prop} (Q : Nat → Nat → Prop) (h0 : ∀ N, Sd N → Q 0 N)
    (h1 : ∀ j M d M', bp_R K q Sd j M → Q j M → d < 4 → bp_ns K M d = some M' → Q (j + bp_w q M M') M') {k N : Nat} (h : bp_R K q Sd k N) : Q k N :=
  (h (fun k N => bp_R K q Sd k N ∧ Q k N) (fun N hN => ⟨bp_R0 hN, h0 N hN⟩) (fun j M d M' hj hd hs => ⟨bp_R1 hj.1 hd hs, h1 j M d M' hj.1 hj.2 hd hs⟩)).2
theorem bp_w01 (q : Bool) (N M : Nat) : bp_w q N M = 0 ∨ bp_w q N M = 1 := by
  unfold bp_w
  split
  · exact Or.inl rfl
  · exact Or.inr rfl
theorem bp_wf (N M : Nat) : bp_w false N M = 1 := by
  unfold bp_w
  exact if_neg (fun z => Bool.noConfusion z.1)
theorem bp_wt0 {N M : Nat} (h : N / 16 = M / 16) : bp_w true N M = 0 := if_pos ⟨rfl, h⟩
theorem bp_wt1 {N M : Nat} (h : N / 16 ≠ M / 16) : bp_w true N M = 1 := if_neg (fun z => h z.2)
theorem bp_wq0 {q : Bool} {N M : Nat} (h : bp_w q N M = 0) : q = true ∧ N / 16 = M / 16 := by
  unfold bp_w at h
  split at h
  · assumption
  · exact absurd h (by decide)
def bp_D (K : Nat → Int32) (m : Nat) : Prop := ∀ c, c < 16 → bp_has m c → K c = 2
def bp_A (K : Nat → Int32) (q : Bool) (Sd : Nat → Prop) (r : Int32) : Prop :=
  (∃ k, k ≤ 4624 ∧ r = nI k ∧ (∃ N, bp_R K q Sd k N ∧ bp_D K (N / 16)) ∧ ∀ j N, j < k → bp_R K q Sd j N → ¬ bp_D K (N / 16)) ∨
  (r = -6 ∧ ∀ j N, bp_R K q Sd j N → ¬ bp_D K (N / 16))
theorem bp_Au {K : Nat → Int32} {q : Bool} {Sd : Nat → Prop} {r r' : Int32} (h : bp_A K q Sd r) (h' : bp_A K q Sd r') : r' = r := by
  rcases h with ⟨k, k1, k2, ⟨N, k3, k4⟩, k5⟩ | ⟨e, k5⟩
  · rcases h' with ⟨k', k1', k2', ⟨N', k3', k4'⟩, k5'⟩ | ⟨e', k5'⟩
    · have : k' = k := by
        rcases Nat.lt_trichotomy k k' with z | z | z
        · exact absurd k4 (k5' k N z k3)
        · exact z.symm
        · exact absurd k4' (k5 k' N' z k3')
      rw [k2, k2', this]
    · exact absurd k4 (k5' k N k3)
  · rcases h' with ⟨k', k1', k2', ⟨N', k3', k4'⟩, k5'⟩ | ⟨e', k5'⟩
    · exact absurd k4' (k5 k' N' k3')
    · rw [e, e']
theorem bp_m6 : ∀ {k : Nat}, k ≤ 4624 → nI k ≠ -6 := by
  intro k hk z
  have h1 : ¬ nI k < 0 := nI_pos (by omega)
  rw [z] at h1
  exact h1 (by decide)
/-- whether there is a way at all does not hang on the cost -/
theorem bp_Rq {K : Nat → Int32} {q q' : Bool} {Sd : Nat → Prop} {j N : Nat} (h : bp_R K q Sd j N) : ∃ i, bp_R K q' Sd i N :=
  h (fun _ N => ∃ i, bp_R K q' Sd i N) (fun _ hN => ⟨0, bp_R0 hN⟩) (fun _ _ _ _ ⟨i, hi⟩ hd hs => ⟨_, bp_R1 hi hd hs⟩)
theorem bp_An {K : Nat → Int32} {q : Bool} {Sd : Nat → Prop} {r : Int32} (h : bp_A K q Sd r) : r = -6 ↔ ∀ j N, bp_R K q Sd j N → ¬ bp_D K (N / 16) := by
  rcases h with ⟨k, k1, k2, ⟨N, k3, k4⟩, k5⟩ | ⟨e, k5⟩
  · constructor
    · intro z; rw [k2] at z; exact absurd z (bp_m6 k1)
    · intro z; exact absurd k4 (z k N k3)
  · exact ⟨fun _ => k5, fun _ => e⟩
theorem bp_Anq {K : Nat → Int32} {q q' : Bool} {Sd : Nat → Prop} {r r' : Int32} (h : bp_A K q Sd r) (h' : bp_A K q' Sd r') : r = -6 ↔ r' = -6 := by
  rw [bp_An h, bp_An h']
  constructor
  · intro z j N hj hD
    obtain ⟨i, hi⟩ := bp_Rq (q' := q) hj
    exact z i N hi hD
  · intro z j N hj hD
    obtain ⟨i, hi⟩ := bp_Rq (q' := q') hj
    exact z i N hi hD
theorem bp_Aval {K : Nat → Int32} {q : Bool} {Sd : Nat → Prop} {r : Int32} (h : bp_A K q Sd r) : r = -6 ∨ ∃ k, k ≤ 4624 ∧ r = nI k := by
  rcases h with ⟨k, k1, k2, _⟩ | ⟨e, _⟩
  · exact Or.inr ⟨k, k1, k2⟩
  · exact Or.inl e
/-- all that is come to from valid seeds is valid -/
def bp_VN (N : Nat) : Prop := ∃ x, bp_V x ∧ bp_nd x = N
theorem bp_VNs {K : Nat → Int32} {N d M : Nat} (h : bp_VN N) (hd : d < 4) (hs : bp_ns K N d = some M) : bp_VN M := by
  obtain ⟨x, hx, rfl⟩ := h
  rcases bp_comm K hx hd with ⟨_, h2⟩ | ⟨t, h1, h2, h3, _⟩
  · rw [hs] at h2; cases h2
  · rw [hs] at h2
    exact ⟨t, h3, (Option.some.inj h2).symm⟩
theorem bp_RV {K : Nat → Int32} {q : Bool} {Sd : Nat → Prop} (hS : ∀ N, Sd N → bp_VN N) {j N : Nat} (h : bp_R K q Sd j N) : bp_VN N :=
  h (fun _ N => bp_VN N) hS (fun _ _ _ _ hN hd hs => bp_VNs hN hd hs)
theorem bp_RS {K : Nat → Int32} {q : Bool} {Sd : Nat → Prop} {j N : Nat} (h : bp_R K q Sd j N) : ∃ M, Sd M :=
  h (fun _ _ => ∃ M, Sd M) (fun N hN => ⟨N, hN⟩) (fun _ _ _ _ hN _ _ => hN)
theorem bp_nsV {K : Nat → Int32} {x d M : Nat} (hx : bp_V x) (hd : d < 4) (hs : bp_ns K (bp_nd x) d = some M) : ∃ t, bp_step K x d = some t ∧ bp_nd t = M ∧ bp_V t := by
  rcases bp_comm K hx hd with ⟨_, h2⟩ | ⟨t, h1, h2, h3, _⟩
  · rw [hs] at h2; cases h2
  · rw [hs] at h2
    exact ⟨t, h1, (Option.some.inj h2).symm, h3⟩
theorem bp_stV {K : Nat → Int32} {x d t : Nat} (hx : bp_V x) (hd : d < 4) (hs : bp_step K x d = some t) : bp_V t ∧ bp_ns K (bp_nd x) d = some (bp_nd t) ∧ (x / 16 = t / 16 ↔ bp_nd x / 16 = bp_nd t / 16) := by
  rcases bp_comm K hx hd with ⟨h1, _⟩ | ⟨t', h1, h2, h3, _, _, h6⟩
  · rw [hs] at h1; cases h1
  · rw [hs] at h1
    cases Option.some.inj h1
    refine ⟨h3, h2, ?_⟩
    rcases h6 with ⟨a, b, _⟩ | ⟨a, b, _⟩
    · exact ⟨fun _ => b, fun _ => a⟩
    · exact ⟨fun z => absurd z a, fun z => absurd z b⟩
theorem bp_wst {K : Nat → Int32} {q : Bool} {x d t : Nat} (hx : bp_V x) (hd : d < 4) (hs : bp_step K x d = some t) : bp_w q (bp_nd x) (bp_nd t) = if q = true ∧ x / 16 = t / 16 then 0 else 1 := by
  have h := (bp_stV hx hd hs).2.2
  unfold bp_w
  by_cases z : q = true ∧ x / 16 = t / 16
  · rw [if_pos z, if_pos ⟨z.1, h.mp z.2⟩]
  · rw [if_neg z, if_neg (fun y => z ⟨y.1, h.mpr y.2⟩)]
/-! counts -/
def bp_cnt (f : Nat → Bool) : Nat → Nat
  | 0 => 0
  | n + 1 => bp_cnt f n + (if f n = true then 1 else 0)
theorem bp_cle (f : Nat → Bool) : ∀ n, bp_cnt f n ≤ n := by
  intro n
  induction n with
  | zero => exact Nat.le_refl 0
  | succ n ih =>
    show bp_cnt f n + (if f n = true then 1 else 0) ≤ n + 1
    split <;> omega
theorem bp_cmono {f g : Nat → Bool} : ∀ {n : Nat}, (∀ i, i < n → f i = true → g i = true) → bp_cnt f n ≤ bp_cnt g n := by
  intro n
  induction n with
  | zero => intro _; exact Nat.le_refl 0
  | succ n ih =>
    intro h
    have h1 := ih (fun i hi => h i (by omega))
    have h2 := h n (by omega)
    show bp_cnt f n + (if f n = true then 1 else 0) ≤ bp_cnt g n + (if g n = true then 1 else 0)
    by_cases z : f n = true
    · rw [if_pos z, if_pos (h2 z)]; omega
    · rw [if_neg z]; omega
theorem bp_cstr {f g : Nat → Bool} : ∀ {n : Nat}, (∀ i, i < n → f i = true → g i = true) → (∃ i, i < n ∧ f i = false ∧ g i = true) → bp_cnt f n + 1 ≤ bp_cnt g n := by
  intro n
  induction n with
  | zero => intro _ ⟨i, hi, _⟩; omega
  | succ n ih =>
    intro h ⟨i, hi, h3, h4⟩
    have h2 := h n (by omega)
    show bp_cnt f n + (if f n = true then 1 else 0) + 1 ≤ bp_cnt g n + (if g n = true then 1 else 0)
    by_cases e : i = n
    · subst e
      have h1 := bp_cmono (f := f) (g := g) (n := i) (fun j hj => h j (by omega))
      rw [h3, h4, if_neg (by decide), if_pos rfl]
      omega
    · have h1 := ih (fun j hj => h j (by omega)) ⟨i, by omega, h3, h4⟩
      by_cases z : f n = true
      · rw [if_pos z, if_pos (h2 z)]; omega
      · rw [if_neg z]; omega
theorem bp_ccong {f g : Nat → Bool} {n : Nat} (h : ∀ i, i < n → f i = g i) : bp_cnt f n = bp_cnt g n := by
  apply Nat.le_antisymm
  · exact bp_cmono (fun i hi z => by rw [← h i hi]; exact z)
  · exact bp_cmono (fun i hi z => by rw [h i hi]; exact z)
theorem bp_cone {f g : Nat → Bool} {k : Nat} (hf : f k = false) (hg : g k = true) (h : ∀ i, i ≠ k → g i = f i) : ∀ n, k < n → bp_cnt g n = bp_cnt f n + 1 := by
  intro n
  induction n with
  | zero => intro z; omega
  | succ n ih =>
    intro hk
    show bp_cnt g n + (if g n = true then 1 else 0) = bp_cnt f n + (if f n = true then 1 else 0) + 1
    by_cases e : n = k
    · subst e
      rw [hf, hg, if_pos rfl, if_neg (show ¬ (false = true) by decide), bp_ccong (f := g) (g := f) (fun i hi => h i (by omega))]
    · rw [ih (by omega), h n e]
      omega
theorem bp_cfull {f : Nat → Bool} : ∀ {n : Nat}, n ≤ bp_cnt f n → ∀ i, i < n → f i = true := by
  intro n
  induction n with
  | zero => intro _ i hi; omega
  | succ n ih =>
    intro h i hi
    have h0 : bp_cnt f (n + 1) = bp_cnt f n + (if f n = true then 1 else 0) := rfl
    have h1 := bp_cle f n
    by_cases z : f n = true
    · rw [h0, if_pos z] at h
      by_cases e : i = n
      · rw [e]; exact z
      · exact ih (by omega) i (by omega)
    · rw [h0, if_neg z] at h
      omega
theorem bp_clt {f : Nat → Bool} {n i : Nat} (hi : i < n) (h : f i = false) : bp_cnt f n < n := by
  have h1 := bp_cle f n
  rcases Nat.lt_or_ge (bp_cnt f n) n with z | z
  · exact z
  · have := bp_cfull z i hi
    rw [h] at this
    exact Bool.noConfusion this
theorem bp_czero {f : Nat → Bool} : ∀ {n : Nat}, (∀ i, i < n → f i = false) → bp_cnt f n = 0 := by
  intro n
  induction n with
  | zero => intro _; rfl
  | succ n ih =>
    intro h
    show bp_cnt f n + (if f n = true then 1 else 0) = 0
    rw [ih (fun i hi => h i (by omega)), h n (by omega), if_neg (by decide)]
theorem bp_cadd (f : Nat → Bool) (n : Nat) : ∀ k, bp_cnt f (n + k) = bp_cnt f n + bp_cnt (fun i => f (n + i)) k := by
  intro k
  induction k with
  | zero => rfl
  | succ k ih =>
    show bp_cnt f (n + k) + (if f (n + k) = true then 1 else 0) = bp_cnt f n + (bp_cnt (fun i => f (n + i)) k + (if f (n + k) = true then 1 else 0))
    rw [ih]
    omega
