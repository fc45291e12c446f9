/-! the row of moves that can be taken back, on both sides -/
def bz_ps (x t : Nat) : Nat := if x / 16 = t / 16 then 0 else 1
def bz_Kp (K kS kD mv : Nat → Int32) (n x : Nat) : Prop :=
  ∃ xs ds : Nat → Nat, xs n = x ∧ ∀ i, i < n → ds i < 4 ∧ bp_V (xs i) ∧ bp_op K (xs i % 16) ∧ bp_step K (xs i) (ds i) = some (xs (i + 1)) ∧
    kS i = nI (xs i) ∧ kD i = nI (ds i) ∧ mv i = nI (ds i + 4 * bz_ps (xs i) (xs (i + 1)))
theorem bz_K0 {K kS kD mv : Nat → Int32} {x : Nat} : bz_Kp K kS kD mv 0 x := ⟨fun _ => x, fun _ => 0, rfl, fun i hi => by omega⟩
theorem bz_Kpush {K kS kD mv : Nat → Int32} {n x d t : Nat} (h : bz_Kp K kS kD mv n x) (hd : d < 4) (hx : bp_V x) (ho : bp_op K (x % 16)) (hs : bp_step K x d = some t) :
    bz_Kp K (upd kS n (nI x)) (upd kD n (nI d)) (upd mv n (nI (d + 4 * bz_ps x t))) (n + 1) t := by
  obtain ⟨xs, ds, e, h⟩ := h
  refine ⟨fun i => if i = n + 1 then t else xs i, fun i => if i = n then d else ds i, if_pos rfl, fun i hi => ?_⟩
  have a1 : (if i = n + 1 then t else xs i) = xs i := if_neg (by omega)
  show (if i = n then d else ds i) < 4 ∧ bp_V (if i = n + 1 then t else xs i) ∧ bp_op K ((if i = n + 1 then t else xs i) % 16) ∧ bp_step K (if i = n + 1 then t else xs i) (if i = n then d else ds i) = some (if i + 1 = n + 1 then t else xs (i + 1)) ∧
    upd kS n (nI x) i = nI (if i = n + 1 then t else xs i) ∧ upd kD n (nI d) i = nI (if i = n then d else ds i) ∧ upd mv n (nI (d + 4 * bz_ps x t)) i = nI ((if i = n then d else ds i) + 4 * bz_ps (if i = n + 1 then t else xs i) (if i + 1 = n + 1 then t else xs (i + 1)))
  rw [a1]
  by_cases z : i = n
  · have a2 : (if i = n then d else ds i) = d := if_pos z
    have a3 : (if i + 1 = n + 1 then t else xs (i + 1)) = t := if_pos (by omega)
    rw [a2, a3, z, e]
    exact ⟨hd, hx, ho, hs, pk_us, pk_us, pk_us⟩
  · have a2 : (if i = n then d else ds i) = ds i := if_neg z
    have a3 : (if i + 1 = n + 1 then t else xs (i + 1)) = xs (i + 1) := if_neg (by omega)
    rw [a2, a3, pk_un z, pk_un z, pk_un z]
    exact h i (by omega)
theorem bz_Kshift {K kS kD mv kS' kD' mv' : Nat → Int32} {n x : Nat} (h : bz_Kp K kS kD mv (n + 1) x) (h1 : ∀ j, j < n → kS' j = kS (j + 1)) (h2 : ∀ j, j < n → kD' j = kD (j + 1)) (h3 : ∀ j, j < n → mv' j = mv (j + 1)) : bz_Kp K kS' kD' mv' n x := by
  obtain ⟨xs, ds, e, h⟩ := h
  refine ⟨fun i => xs (i + 1), fun i => ds (i + 1), e, fun i hi => ?_⟩
  rw [h1 i hi, h2 i hi, h3 i hi]
  exact h (i + 1) (by omega)
theorem bz_Kpop {K kS kD mv : Nat → Int32} {n x : Nat} (h : bz_Kp K kS kD mv (n + 1) x) : ∃ y d, d < 4 ∧ bp_V y ∧ bp_op K (y % 16) ∧ bp_step K y d = some x ∧ kS n = nI y ∧ kD n = nI d ∧ mv n = nI (d + 4 * bz_ps y x) ∧ bz_Kp K kS kD mv n y := by
  obtain ⟨xs, ds, e, h⟩ := h
  have h1 := h n (by omega)
  rw [e] at h1
  exact ⟨xs n, ds n, h1.1, h1.2.1, h1.2.2.1, h1.2.2.2.1, h1.2.2.2.2.1, h1.2.2.2.2.2.1, h1.2.2.2.2.2.2, xs, ds, rfl, fun i hi => h i (by omega)⟩
