/-! numbers of the two classes as Int32 -/
theorem bi_p16 {s : Nat} (h : s < 2 ^ 31) : nI s - nI s / 16 * 16 = nI (s % 16) := pk_rem (d := 16) h (by decide) (by decide)
theorem bi_p4 {s : Nat} (h : s < 2 ^ 31) : nI s - nI s / 4 * 4 = nI (s % 4) := pk_rem (d := 4) h (by decide) (by decide)
theorem bi_p17 {s : Nat} (h : s < 2 ^ 31) : nI s - nI s / 17 * 17 = nI (s % 17) := pk_rem (d := 17) h (by decide) (by decide)
theorem bi_d16 {s : Nat} (h : s < 2 ^ 31) : nI s / 16 = nI (s / 16) := pk_div (d := 16) h (by decide) (by decide)
theorem bi_d17 {s : Nat} (h : s < 2 ^ 31) : nI s / 17 = nI (s / 17) := pk_div (d := 17) h (by decide) (by decide)
theorem bi_d4 {s : Nat} (h : s < 2 ^ 31) : nI s / 4 = nI (s / 4) := pk_div (d := 4) h (by decide) (by decide)
theorem bi_enc (p a b : Nat) : (nI a * 17 + nI b) * 16 + nI p = nI (bp_enc p a b) := by
  unfold bp_enc
  rw [← nI_add, ← pk_mul, ← nI_add, ← pk_mul]
  rfl
theorem bi_enc16 (p a b : Nat) : (nI a * 17 + nI b) * 16 + nI p = nI ((a * 17 + b) * 16 + p) := bi_enc p a b
theorem bi_or (a b : Nat) : nI a ||| nI b = nI (a ||| b) := by
  apply Int32.toBitVec_inj.1
  show BitVec.ofNat 32 a ||| BitVec.ofNat 32 b = BitVec.ofNat 32 (a ||| b)
  apply BitVec.eq_of_getLsbD_eq
  intro i hi
  simp [hi]
theorem bi_shl : ∀ c, c < 16 → (1 : Int32) <<< (nI c &&& 31) = nI (2 ^ c) := by decide +kernel
theorem bi_has {m c : Nat} (hm : m < 65536) (hc : c < 16) : (nI m >>> (nI c &&& 31)) &&& 1 = nI (m / 2 ^ c % 2) := by
  rw [pk_shrN (by omega) _ c (s_l c (by omega))]
  have h : m / 2 ^ c < 2 ^ 32 := Nat.lt_of_le_of_lt (Nat.div_le_self _ _) (by omega)
  exact pk_andN h 1 (by decide)
theorem bi_mv : ∀ a, a < 16 → ∀ b, b < 17 → ∀ h, h < 16 → a ≠ b → h ≠ b → (nI (bp_bm a b) &&& (((1 : Int32) <<< (nI a &&& 31)) ^^^ (-1))) ||| ((1 : Int32) <<< (nI h &&& 31)) = nI (bp_bm h b) := fun a ha b hb h hh =>
  of_decide_eq_true (bp_all3 (A := 16) (B := 17) (C := 16) (p := fun a b h => decide (a ≠ b → h ≠ b → (nI (bp_bm a b) &&& (((1 : Int32) <<< (nI a &&& 31)) ^^^ (-1))) ||| ((1 : Int32) <<< (nI h &&& 31)) = nI (bp_bm h b))) (by decide +kernel) a ha b hb h hh)
theorem bi_put : ∀ a, a < 16 → nI 0 ||| ((1 : Int32) <<< (nI a &&& 31)) = nI (bp_bm a 16) := by decide +kernel
theorem bi_put2 : ∀ a, a < 16 → ∀ b, b < 16 → a ≠ b → nI (bp_bm a 16) ||| ((1 : Int32) <<< (nI b &&& 31)) = nI (bp_bm a b) := by decide +kernel
theorem bi_take : ∀ a, a < 16 → ∀ b, b < 17 → a ≠ b → nI (bp_bm a b) &&& (((1 : Int32) <<< (nI a &&& 31)) ^^^ (-1)) = nI (bp_bm 16 b) := by decide +kernel
/-- a box moved on in a valid set, or moved back -/
theorem bi_mvN {a b c h : Nat} (ha : a < 17) (hb : b < 17) (hab : a = b → a = 16) (hc : c < 16) (hh : h < 16) (h1 : bp_has (bp_bm a b) c) (h2 : ¬ bp_has (bp_bm a b) h) :
    (nI (bp_bm a b) &&& (((1 : Int32) <<< (nI c &&& 31)) ^^^ (-1))) ||| ((1 : Int32) <<< (nI h &&& 31)) = nI (bp_bm a b - 2 ^ c + 2 ^ h) := by
  have g1 := (bp_bmH a ha b hb c hc hab).mp h1
  have g2 : ¬ (h = a ∨ h = b) := fun z => h2 ((bp_bmH a ha b hb h hh hab).mpr z)
  rcases g1 with g1 | g1
  · subst g1
    rw [bp_bmM c hc b hb h hh (by omega) (by omega)]
    exact bi_mv c hc b hb h hh (by omega) (by omega)
  · subst g1
    rw [bp_bmC a c, bp_bmM c hc a ha h hh (by omega) (by omega)]
    exact bi_mv c hc a ha h hh (by omega) (by omega)
/-- labels as the reference's level numbers -/
def bi_lv (n : Nat) : Int32 := nI n - 1
theorem bi_lv0 : bi_lv 0 = -1 := by decide +kernel
theorem bi_lvS (n : Nat) : bi_lv (n + 1) = nI n := nI_pred n
theorem bi_lvT {n : Nat} (h : n < 2 ^ 30) : (bi_lv n).toInt = (n : Int) - 1 := pk_sub_toInt (b := 1) h (by decide)
theorem bi_lvE {n m : Nat} (h : n < 2 ^ 30) (hm : m < 2 ^ 30) : bi_lv n = nI m ↔ n = m + 1 := by
  rw [← Int32.toInt_inj, bi_lvT h, nI_toInt (by omega)]
  omega
theorem bi_lvL {n m : Nat} (h : n < 2 ^ 30) (hm : m < 2 ^ 30) : bi_lv n ≤ nI m ↔ n ≤ m + 1 := by
  rw [Int32.le_iff_toInt_le, bi_lvT h, nI_toInt (by omega)]
  omega
theorem bi_lvN {n : Nat} (h : n < 2 ^ 30) : bi_lv n < 0 ↔ n = 0 := by
  rw [Int32.lt_iff_toInt_lt, bi_lvT h, show (0 : Int32).toInt = 0 from by decide]
  omega
theorem bi_lvP {n : Nat} (h : n < 2 ^ 30) : 0 ≤ bi_lv n ↔ 0 < n := by
  rw [Int32.le_iff_toInt_le, bi_lvT h, show (0 : Int32).toInt = 0 from by decide]
  omega
def bp_Lev (lev : Nat → Int32) (g : Nat → Nat) : Prop := ∀ y, y < 2192 → lev y = bi_lv (g y) ∧ g y ≤ 4000
