section
/-! rows pasted from kit/rows (PURE-ROWS, BITS) -/
theorem pk_us {f : Nat → Int32} {k : Nat} {x : Int32} : upd f k x k = x := if_pos rfl
theorem pk_un {f : Nat → Int32} {k j : Nat} {x : Int32} (h : j ≠ k) : upd f k x j = f j := if_neg h
theorem pk_sub {a b : Nat} (h : b ≤ a) : nI a - nI b = nI (a - b) := by
  obtain ⟨c, rfl⟩ : ∃ c, a = c + b := ⟨a - b, by omega⟩
  rw [← nI_add, Int32.add_sub_cancel, Nat.add_sub_cancel]
theorem pk_m1 (n : Nat) : nI (n + 1) + (-1) = nI n := by
  rw [← nI_1, Int32.add_assoc, show (1 : Int32) + (-1) = 0 from rfl, Int32.add_zero]
theorem pk_mul (a b : Nat) : nI a * nI b = nI (a * b) := (Int32.ofNat_mul a b).symm
theorem pk_div {a d : Nat} (ha : a < 2 ^ 31) (h0 : 0 < d) (hd : d < 2 ^ 31) : nI a / nI d = nI (a / d) := by
  apply Int32.toInt_inj.mp
  rw [lg_idiv_nonneg (by rw [nI_toInt ha]; omega) (by rw [nI_toInt hd]; omega), nI_toInt ha, nI_toInt hd, nI_toInt (Nat.lt_of_le_of_lt (Nat.div_le_self a d) ha)]
  first | rfl | exact (Int.natCast_ediv _ _).symm
theorem pk_rem {a d : Nat} (ha : a < 2 ^ 31) (h0 : 0 < d) (hd : d < 2 ^ 31) : nI a - nI a / nI d * nI d = nI (a % d) := by
  rw [pk_div ha h0 hd, pk_mul, pk_sub (Nat.div_mul_le_self a d)]
  exact congrArg nI (by have := Nat.div_add_mod' a d; omega)
theorem pk_sub_toInt {a b : Nat} (ha : a < 2 ^ 30) (hb : b < 2 ^ 30) : (nI a - nI b).toInt = (a : Int) - b := by
  rw [Int32.toInt_sub, nI_toInt (by omega), nI_toInt (by omega)]
  exact Int.bmod_eq_of_le (by omega) (by omega)
theorem pk_sneg {a b : Nat} (hb : b < 2 ^ 30) (h : a < b) : nI a - nI b < 0 := by
  rw [Int32.lt_iff_toInt_lt, pk_sub_toInt (by omega) hb, show (0 : Int32).toInt = 0 from by decide]
  omega
theorem pk_ix (x : Int32) {n : Nat} (hn : n < 2 ^ 31) : x < 0 ∨ nI n ≤ x ∨ ∃ j : Nat, j < n ∧ x = nI j := by
  by_cases h : x < 0
  · exact Or.inl h
  · obtain ⟨j, hj, rfl⟩ := nI_of h
    by_cases h2 : j < n
    · exact Or.inr (Or.inr ⟨j, h2, rfl⟩)
    · exact Or.inr (Or.inl (nI_le (by omega) hj))
theorem pk_le {x y : Int32} {A B : Prop} (a b : Nat) (f : a ≤ b → A) (g : b < a → B) (hx : x = nI a := by rfl) (hy : y = nI b := by rfl) (ha : a < 2 ^ 31 := by omega) (hb : b < 2 ^ 31 := by omega) : (x ≤ y → A) ∧ (¬ x ≤ y → B) := by
  subst hx hy
  rw [nI_leI ha hb]
  exact ⟨f, fun z => g (by omega)⟩
theorem pk_lt {x y : Int32} {A B : Prop} (a b : Nat) (f : a < b → A) (g : b ≤ a → B) (hx : x = nI a := by rfl) (hy : y = nI b := by rfl) (ha : a < 2 ^ 31 := by omega) (hb : b < 2 ^ 31 := by omega) : (x < y → A) ∧ (¬ x < y → B) := by
  subst hx hy
  rw [nI_ltI ha hb]
  exact ⟨f, fun z => g (by omega)⟩
theorem pk_eq {x y : Int32} {A B : Prop} (a b : Nat) (f : a = b → A) (g : a ≠ b → B) (hx : x = nI a := by rfl) (hy : y = nI b := by rfl) (ha : a < 2 ^ 31 := by omega) (hb : b < 2 ^ 31 := by omega) : (x = y → A) ∧ (¬ x = y → B) := by
  subst hx hy
  rw [nI_eq ha hb]
  exact ⟨f, g⟩
theorem pk_in {x : Int32} (n N : Nat) (h : n < N) (hx : x = nI n := by rfl) (hN : N < 2 ^ 31 := by omega) : vp_in x N := by
  subst hx
  exact vp_in_nI h hN
theorem pk_cl {x : Int32} (n : Nat) (hx : x = nI n := by rfl) (h : n < 2 ^ 31 := by omega) : x.toNatClampNeg = n := by
  subst hx
  exact nI_clamp h
theorem pk_tn {n : Nat} (h : n < 2 ^ 32) : (nI n).toBitVec.toNat = n := Nat.mod_eq_of_lt h
theorem pk_and (x : Int32) {m : Int32} (k : Nat) (hm : m.toBitVec.toNat = 2 ^ k - 1) : x &&& m = nI (x.toBitVec.toNat % 2 ^ k) := by
  apply Int32.toBitVec_inj.mp
  apply BitVec.eq_of_toNat_eq
  rw [Int32.toBitVec_and, BitVec.toNat_and, hm, Nat.and_two_pow_sub_one_eq_mod]
  show _ = (BitVec.ofNat 32 _).toNat
  rw [BitVec.toNat_ofNat]
  exact (Nat.mod_eq_of_lt (Nat.lt_of_le_of_lt (Nat.mod_le _ _) x.toBitVec.isLt)).symm
theorem pk_andN {n : Nat} (h : n < 2 ^ 32) {m : Int32} (k : Nat) (hm : m.toBitVec.toNat = 2 ^ k - 1) : nI n &&& m = nI (n % 2 ^ k) := by
  rw [pk_and _ k hm, pk_tn h]
theorem pk_shl (a s : Int32) (k : Nat) (hs : (s.toBitVec.smod 32).toNat = k) : (a <<< s).toBitVec.toNat = a.toBitVec.toNat * 2 ^ k % 2 ^ 32 := by
  show (a.toBitVec <<< (s.toBitVec.smod 32).toNat).toNat = _
  rw [hs, BitVec.toNat_shiftLeft, Nat.shiftLeft_eq]
theorem pk_shlN {n : Nat} (s : Int32) (k : Nat) (hs : (s.toBitVec.smod 32).toNat = k) (h : n * 2 ^ k < 2 ^ 32) : nI n <<< s = nI (n * 2 ^ k) := by
  apply Int32.toBitVec_inj.mp
  apply BitVec.eq_of_toNat_eq
  have hn : n < 2 ^ 32 := Nat.lt_of_le_of_lt (Nat.le_mul_of_pos_right n (Nat.two_pow_pos k)) h
  rw [pk_shl _ _ k hs, pk_tn hn, pk_tn h, Nat.mod_eq_of_lt h]
theorem pk_shr (a s : Int32) (k : Nat) (hs : (s.toBitVec.smod 32).toNat = k) : (a >>> s).toInt = a.toInt >>> k := by
  show (a.toBitVec.sshiftRight (s.toBitVec.smod 32).toNat).toInt = _
  rw [hs, BitVec.toInt_sshiftRight]
  rfl
theorem pk_shrN {n : Nat} (h : n < 2 ^ 31) (s : Int32) (k : Nat) (hs : (s.toBitVec.smod 32).toNat = k) : nI n >>> s = nI (n / 2 ^ k) := by
  apply Int32.toInt_inj.mp
  have h2 : n / 2 ^ k ≤ n := Nat.div_le_self _ _
  rw [pk_shr _ _ k hs, nI_toInt h, nI_toInt (by omega), Int.shiftRight_eq_div_pow]
  rfl
theorem pk_loop {σ : Type} (W : Nat → Nat → σ → Prop) (I : Nat → σ → Prop) (e i0 : Nat) (s : σ) (hi : i0 ≤ e) (h0 : I i0 s) (hx : ∀ n s, I e s → W (n + 1) e s)
    (hs : ∀ n i s, i < e → I i s → (∀ s', I (i + 1) s' → W n (i + 1) s') → W (n + 1) i s) : ∃ n, W n i0 s :=
  ⟨e + 1, loop_i W I e hx hs (e + 1) i0 s hi (by omega) h0⟩
theorem lp1 {A1 : Type} (W : Nat → A1 → Prop) (I : A1 → Prop) (μ : A1 → Nat) (hs : ∀ (n : Nat) (a1 : A1), I a1 → (∀ (b1 : A1), I b1 → μ b1 < μ a1 → W n b1) → W (n + 1) a1) (a1 : A1) (h : I a1) : ∃ n, W n a1 :=
  loop_m (σ := A1) (fun n s => W n s) (fun s => I s) (fun s => μ s) (fun n s hI hk => hs n s hI (fun b1 h9 hm => hk b1 h9 hm)) a1 h
theorem lp2 {A1 A2 : Type} (W : Nat → A1 → A2 → Prop) (I : A1 → A2 → Prop) (μ : A1 → A2 → Nat) (hs : ∀ (n : Nat) (a1 : A1) (a2 : A2), I a1 a2 → (∀ (b1 : A1) (b2 : A2), I b1 b2 → μ b1 b2 < μ a1 a2 → W n b1 b2) → W (n + 1) a1 a2) (a1 : A1) (a2 : A2) (h : I a1 a2) : ∃ n, W n a1 a2 :=
  loop_m (σ := A1 × A2) (fun n s => W n s.1 s.2) (fun s => I s.1 s.2) (fun s => μ s.1 s.2) (fun n s hI hk => hs n s.1 s.2 hI (fun b1 b2 h9 hm => hk (b1, b2) h9 hm)) (a1, a2) h
theorem lp3 {A1 A2 A3 : Type} (W : Nat → A1 → A2 → A3 → Prop) (I : A1 → A2 → A3 → Prop) (μ : A1 → A2 → A3 → Nat) (hs : ∀ (n : Nat) (a1 : A1) (a2 : A2) (a3 : A3), I a1 a2 a3 → (∀ (b1 : A1) (b2 : A2) (b3 : A3), I b1 b2 b3 → μ b1 b2 b3 < μ a1 a2 a3 → W n b1 b2 b3) → W (n + 1) a1 a2 a3) (a1 : A1) (a2 : A2) (a3 : A3) (h : I a1 a2 a3) : ∃ n, W n a1 a2 a3 :=
  loop_m (σ := A1 × A2 × A3) (fun n s => W n s.1 s.2.1 s.2.2) (fun s => I s.1 s.2.1 s.2.2) (fun s => μ s.1 s.2.1 s.2.2) (fun n s hI hk => hs n s.1 s.2.1 s.2.2 hI (fun b1 b2 b3 h9 hm => hk (b1, b2, b3) h9 hm)) (a1, a2, a3) h
theorem s_l : ∀ n, n < 32 → ((nI n &&& 31).toBitVec.smod 32).toNat = n := by decide +kernel
theorem nx_and (a b : Nat) : nI a &&& nI b = nI (a &&& b) := by
  apply Int32.toBitVec_inj.1
  show BitVec.ofNat 32 a &&& BitVec.ofNat 32 b = BitVec.ofNat 32 (a &&& b)
  apply BitVec.eq_of_getLsbD_eq
  intro i hi
  simp [hi]
theorem nx_xor (a b : Nat) : nI a ^^^ nI b = nI (a ^^^ b) := by
  apply Int32.toBitVec_inj.1
  show BitVec.ofNat 32 a ^^^ BitVec.ofNat 32 b = BitVec.ofNat 32 (a ^^^ b)
  apply BitVec.eq_of_getLsbD_eq
  intro i hi
  simp [hi]
end
section
/-! the store: cells, directions, moves of the class's numbers (p, a, b) and of nodes (set of boxes times 16 and pusher) -/
def bp_nb (c d : Nat) : Nat :=
  if d = 0 then (if c < 4 then 16 else c - 4)
  else if d = 1 then (if c < 12 then c + 4 else 16)
  else if d = 2 then (if c % 4 = 0 then 16 else c - 1)
  else (if c % 4 = 3 then 16 else c + 1)
theorem bp_nbL : ∀ c, c < 16 → ∀ d, d < 4 → bp_nb c d ≤ 16 ∧ bp_nb c d ≠ c ∧ (bp_nb c d < 16 → bp_nb (bp_nb c d) (d ^^^ 1) = c) ∧ d ^^^ 1 < 4 := by decide +kernel
abbrev bp_op (K : Nat → Int32) (c : Nat) : Prop := c < 16 ∧ ¬ K c = 1
abbrev bp_has (m c : Nat) : Prop := m / 2 ^ c % 2 = 1
def bp_bm (a b : Nat) : Nat := (if a < 16 then 2 ^ a else 0) + (if b < 16 then 2 ^ b else 0)
theorem bp_all3 {p : Nat → Nat → Nat → Bool} {A B C : Nat} (h : (List.range A).all (fun a => (List.range B).all (fun b => (List.range C).all (fun c => p a b c))) = true) : ∀ a, a < A → ∀ b, b < B → ∀ c, c < C → p a b c = true := by
  intro a ha b hb c hc
  have h1 := List.all_eq_true.mp h a (List.mem_range.mpr ha)
  have h2 := List.all_eq_true.mp h1 b (List.mem_range.mpr hb)
  exact List.all_eq_true.mp h2 c (List.mem_range.mpr hc)
theorem bp_bmH : ∀ a, a < 17 → ∀ b, b < 17 → ∀ c, c < 16 → (a = b → a = 16) → (bp_has (bp_bm a b) c ↔ (c = a ∨ c = b)) := fun a ha b hb c hc =>
  of_decide_eq_true (bp_all3 (A := 17) (B := 17) (C := 16) (p := fun a b c => decide ((a = b → a = 16) → (bp_has (bp_bm a b) c ↔ (c = a ∨ c = b)))) (by decide +kernel) a ha b hb c hc)
theorem bp_bmL : ∀ a, a < 17 → ∀ b, b < 17 → (a = b → a = 16) → bp_bm a b < 65536 := by decide +kernel
theorem bp_bmM : ∀ a, a < 16 → ∀ b, b < 17 → ∀ h, h < 16 → a ≠ b → h ≠ b → bp_bm a b - 2 ^ a + 2 ^ h = bp_bm h b := fun a ha b hb h hh =>
  of_decide_eq_true (bp_all3 (A := 16) (B := 17) (C := 16) (p := fun a b h => decide (a ≠ b → h ≠ b → bp_bm a b - 2 ^ a + 2 ^ h = bp_bm h b)) (by decide +kernel) a ha b hb h hh)
theorem bp_bmC (a b : Nat) : bp_bm a b = bp_bm b a := Nat.add_comm _ _
def bp_enc (p a b : Nat) : Nat := (a * 17 + b) * 16 + p
def bp_ok (p a b : Nat) : Prop := p < 16 ∧ a < 17 ∧ b < 17 ∧ (a = b → a = 16) ∧ p ≠ a ∧ p ≠ b
def bp_V (s : Nat) : Prop := s < 4624 ∧ bp_ok (s % 16) (s / 16 / 17) (s / 16 % 17)
def bp_nd (s : Nat) : Nat := bp_bm (s / 16 / 17) (s / 16 % 17) * 16 + s % 16
def bp_st2 (K : Nat → Int32) (t e a b : Nat) : Option Nat :=
  if bp_op K t then
    (if t ≠ a ∧ t ≠ b then some (bp_enc t a b)
     else if bp_op K e ∧ e ≠ a ∧ e ≠ b then (if t = a then some (bp_enc t e b) else some (bp_enc t a e))
     else none)
  else none
def bp_step (K : Nat → Int32) (s d : Nat) : Option Nat :=
  bp_st2 K (bp_nb (s % 16) d) (bp_nb (bp_nb (s % 16) d) d) (s / 16 / 17) (s / 16 % 17)
def bp_ns2 (K : Nat → Int32) (t e m : Nat) : Option Nat :=
  if bp_op K t then
    (if ¬ bp_has m t then some (m * 16 + t)
     else if bp_op K e ∧ ¬ bp_has m e then some ((m - 2 ^ t + 2 ^ e) * 16 + t)
     else none)
  else none
def bp_ns (K : Nat → Int32) (N d : Nat) : Option Nat :=
  bp_ns2 K (bp_nb (N % 16) d) (bp_nb (bp_nb (N % 16) d) d) (N / 16)
theorem bp_dec {p a b : Nat} (hp : p < 16) (hb : b < 17) : bp_enc p a b % 16 = p ∧ bp_enc p a b / 16 = a * 17 + b ∧ bp_enc p a b / 16 / 17 = a ∧ bp_enc p a b / 16 % 17 = b := by
  unfold bp_enc
  refine ⟨by omega, by omega, by omega, by omega⟩
theorem bp_ndE {p a b : Nat} (hp : p < 16) (hb : b < 17) : bp_nd (bp_enc p a b) = bp_bm a b * 16 + p := by
  obtain ⟨h1, h2, h3, h4⟩ := bp_dec (a := a) hp hb
  unfold bp_nd
  rw [h1, h3, h4]
theorem bp_VE {p a b : Nat} (h : bp_ok p a b) : bp_V (bp_enc p a b) := by
  obtain ⟨hp, ha, hb, hr⟩ := h
  obtain ⟨h1, h2, h3, h4⟩ := bp_dec (a := a) hp hb
  refine ⟨by unfold bp_enc; omega, ?_⟩
  rw [h1, h3, h4]
  exact ⟨hp, ha, hb, hr⟩
theorem bp_VD {s : Nat} (_h : bp_V s) : bp_enc (s % 16) (s / 16 / 17) (s / 16 % 17) = s := by
  unfold bp_enc
  omega
theorem bp_ndD {s : Nat} (h : bp_V s) : bp_nd s % 16 = s % 16 ∧ bp_nd s / 16 = bp_bm (s / 16 / 17) (s / 16 % 17) := by
  unfold bp_nd
  have := h.2.1
  refine ⟨by omega, by omega⟩
/-- the two pictures of a move agree, and what a move gives -/
theorem bp_comm2 (K : Nat → Int32) {p a b t e : Nat} (h : bp_ok p a b) (ht : t ≤ 16) (he : t < 16 → e ≤ 16 ∧ e ≠ t) :
    (bp_st2 K t e a b = none ∧ bp_ns2 K t e (bp_bm a b) = none) ∨
    (∃ x y, bp_st2 K t e a b = some (bp_enc t x y) ∧ bp_ns2 K t e (bp_bm a b) = some (bp_bm x y * 16 + t) ∧ bp_ok t x y ∧ bp_op K t ∧
      ((x = a ∧ y = b ∧ ¬ bp_has (bp_bm a b) t) ∨
       (bp_has (bp_bm a b) t ∧ bp_op K e ∧ ¬ bp_has (bp_bm a b) e ∧ bp_bm x y = bp_bm a b - 2 ^ t + 2 ^ e ∧ a * 17 + b ≠ x * 17 + y ∧ bp_has (bp_bm x y) e))) := by
  obtain ⟨hp, ha, hb, hab, hpa, hpb⟩ := h
  unfold bp_st2 bp_ns2
  by_cases h1 : bp_op K t
  · rw [if_pos h1, if_pos h1]
    obtain ⟨e1, e2⟩ := he h1.1
    have ht16 : t < 16 := h1.1
    have hHt := bp_bmH a ha b hb t h1.1 hab
    by_cases h2 : t ≠ a ∧ t ≠ b
    · have h3 : ¬ bp_has (bp_bm a b) t := by rw [hHt]; omega
      rw [if_pos h2, if_pos h3]
      exact Or.inr ⟨a, b, rfl, rfl, ⟨h1.1, ha, hb, hab, h2.1, h2.2⟩, h1, Or.inl ⟨rfl, rfl, h3⟩⟩
    · have h3 : bp_has (bp_bm a b) t := by rw [hHt]; omega
      rw [if_neg h2, if_neg (not_not_intro h3)]
      by_cases h4 : bp_op K e ∧ e ≠ a ∧ e ≠ b
      · have hHe := bp_bmH a ha b hb e h4.1.1 hab
        have h5 : ¬ bp_has (bp_bm a b) e := by rw [hHe]; omega
        have he16 : e < 16 := h4.1.1
        have hea : e ≠ a := h4.2.1
        have heb : e ≠ b := h4.2.2
        have h45 : bp_op K e ∧ ¬ bp_has (bp_bm a b) e := ⟨h4.1, h5⟩
        rw [if_pos h4, if_pos h45]
        by_cases h6 : t = a
        · rw [if_pos h6]
          have hm : bp_bm a b - 2 ^ t + 2 ^ e = bp_bm e b := by
            rw [h6]; exact bp_bmM a (by omega) b hb e he16 (by omega) h4.2.2
          refine Or.inr ⟨e, b, rfl, ?_, ⟨h1.1, by omega, hb, by omega, by omega, by omega⟩, h1, Or.inr ⟨h3, h4.1, h5, hm.symm, by omega, ?_⟩⟩
          · rw [hm]
          · exact (bp_bmH e (by omega) b hb e he16 (by omega)).mpr (Or.inl rfl)
        · rw [if_neg h6]
          have hm : bp_bm a b - 2 ^ t + 2 ^ e = bp_bm a e := by
            have h7 : t = b := by omega
            rw [h7, bp_bmC a b, bp_bmC a e]; exact bp_bmM b (by omega) a ha e he16 (by omega) h4.2.1
          refine Or.inr ⟨a, e, rfl, ?_, ⟨h1.1, ha, by omega, by omega, by omega, by omega⟩, h1, Or.inr ⟨h3, h4.1, h5, hm.symm, by omega, ?_⟩⟩
          · rw [hm]
          · exact (bp_bmH a ha e (by omega) e he16 (by omega)).mpr (Or.inr rfl)
      · refine Or.inl ⟨if_neg h4, if_neg (fun z => h4 ⟨z.1, ?_⟩)⟩
        have hHe := bp_bmH a ha b hb e z.1.1 hab
        have hz := z.2
        rw [hHe] at hz
        omega
  · exact Or.inl ⟨if_neg h1, if_neg h1⟩
/-- at a valid number: no move on both pictures, or one on both -/
theorem bp_comm (K : Nat → Int32) {s d : Nat} (h : bp_V s) (hd : d < 4) :
    (bp_step K s d = none ∧ bp_ns K (bp_nd s) d = none) ∨
    (∃ t, bp_step K s d = some t ∧ bp_ns K (bp_nd s) d = some (bp_nd t) ∧ bp_V t ∧ t % 16 = bp_nb (s % 16) d ∧ bp_op K (t % 16) ∧
      ((s / 16 = t / 16 ∧ bp_nd s / 16 = bp_nd t / 16 ∧ ¬ bp_has (bp_nd s / 16) (t % 16)) ∨
       (s / 16 ≠ t / 16 ∧ bp_nd s / 16 ≠ bp_nd t / 16 ∧ bp_has (bp_nd s / 16) (t % 16) ∧ bp_op K (bp_nb (t % 16) d) ∧ ¬ bp_has (bp_nd s / 16) (bp_nb (t % 16) d) ∧
        bp_nd t / 16 = bp_nd s / 16 - 2 ^ (t % 16) + 2 ^ (bp_nb (t % 16) d) ∧ bp_has (bp_nd t / 16) (bp_nb (t % 16) d)))) := by
  obtain ⟨d1, d2⟩ := bp_ndD h
  obtain ⟨n1, n2, n3, n4⟩ := bp_nbL (s % 16) (by omega) d hd
  have hc := bp_comm2 K (t := bp_nb (s % 16) d) (e := bp_nb (bp_nb (s % 16) d) d) h.2 n1 (fun z => ⟨(bp_nbL _ z d hd).1, (bp_nbL _ z d hd).2.1⟩)
  have hs := bp_VD h
  unfold bp_step bp_ns
  rw [d1, d2]
  rcases hc with hc | ⟨x, y, c1, c2, c3, c4, c5⟩
  · exact Or.inl hc
  · obtain ⟨q1, q2, q3, q4⟩ := bp_dec (a := x) c3.1 c3.2.2.1
    have hnd := bp_ndE (a := x) c3.1 c3.2.2.1
    refine Or.inr ⟨_, c1, ?_, bp_VE c3, q1, ?_, ?_⟩
    · rw [c2, hnd]
    · rw [q1]; exact c4
    · rw [q1, q2, hnd]
      have hlt := c3.1
      have hdiv : (bp_bm x y * 16 + bp_nb (s % 16) d) / 16 = bp_bm x y := by omega
      rw [hdiv]
      have hs16 : s / 16 = s / 16 / 17 * 17 + s / 16 % 17 := by omega
      rcases c5 with ⟨e1, e2, e3⟩ | ⟨e1, e2, e3, e4, e5, e6⟩
      · refine Or.inl ⟨?_, ?_, e3⟩
        · rw [e1, e2]; exact hs16
        · rw [e1, e2]
      · refine Or.inr ⟨?_, ?_, e1, e2, e3, e4, e6⟩
        · rw [← hs16] at e5; exact e5
        · intro z; rw [z] at e3; exact e3 e6
end
section
/-! what can be come to from seeds, with its cost: the least closed set; the answer of a search; counts -/
def bp_w (q : Bool) (N M : Nat) : Nat := if q = true ∧ N / 16 = M / 16 then 0 else 1
def bp_R (K : Nat → Int32) (q : Bool) (Sd : Nat → Prop) (k N : Nat) : Prop :=
  ∀ Q : Nat → Nat → Prop, (∀ N, Sd N → Q 0 N) → (∀ j M d M', Q j M → d < 4 → bp_ns K M d = some M' → Q (j + bp_w q M M') M') → Q k N
theorem bp_R0 {K : Nat → Int32} {q : Bool} {Sd : Nat → Prop} {N : Nat} (h : Sd N) : bp_R K q Sd 0 N := fun _ h0 _ => h0 N h
theorem bp_R1 {K : Nat → Int32} {q : Bool} {Sd : Nat → Prop} {j M d M' : Nat} (h : bp_R K q Sd j M) (hd : d < 4) (hs : bp_ns K M d = some M') : bp_R K q Sd (j + bp_w q M M') M' :=
  fun Q h0 h1 => h1 j M d M' (h Q h0 h1) hd hs
theorem bp_Ri {K : Nat → Int32} {q : Bool} {Sd : Nat → Prop} (Q : Nat → Nat → Prop) (h0 : ∀ N, Sd N → Q 0 N)
    (h1 : ∀ j M d M', bp_R K q Sd j M → Q j M → d < 4 → bp_ns K M d = some M' → Q (j + bp_w q M M') M') {k N : Nat} (h : bp_R K q Sd k N) : Q k N :=
  (h (fun k N => bp_R K q Sd k N ∧ Q k N) (fun N hN => ⟨bp_R0 hN, h0 N hN⟩) (fun j M d M' hj hd hs => ⟨bp_R1 hj.1 hd hs, h1 j M d M' hj.1 hj.2 hd hs⟩)).2
theorem bp_w01 (q : Bool) (N M : Nat) : bp_w q N M = 0 ∨ bp_w q N M = 1 := by
  unfold bp_w
  split
  · exact Or.inl rfl
  · exact Or.inr rfl
theorem bp_wf (N M : Nat) : bp_w false N M = 1 := by
  unfold bp_w
  exact if_neg (fun z => Bool.noConfusion z.1)
theorem bp_wt0 {N M : Nat} (h : N / 16 = M / 16) : bp_w true N M = 0 := if_pos ⟨rfl, h⟩
theorem bp_wt1 {N M : Nat} (h : N / 16 ≠ M / 16) : bp_w true N M = 1 := if_neg (fun z => h z.2)
theorem bp_wq0 {q : Bool} {N M : Nat} (h : bp_w q N M = 0) : q = true ∧ N / 16 = M / 16 := by
  unfold bp_w at h
  split at h
  · assumption
  · exact absurd h (by decide)
def bp_D (K : Nat → Int32) (m : Nat) : Prop := ∀ c, c < 16 → bp_has m c → K c = 2
def bp_A (K : Nat → Int32) (q : Bool) (Sd : Nat → Prop) (r : Int32) : Prop :=
  (∃ k, k ≤ 4624 ∧ r = nI k ∧ (∃ N, bp_R K q Sd k N ∧ bp_D K (N / 16)) ∧ ∀ j N, j < k → bp_R K q Sd j N → ¬ bp_D K (N / 16)) ∨
  (r = -6 ∧ ∀ j N, bp_R K q Sd j N → ¬ bp_D K (N / 16))
theorem bp_Au {K : Nat → Int32} {q : Bool} {Sd : Nat → Prop} {r r' : Int32} (h : bp_A K q Sd r) (h' : bp_A K q Sd r') : r' = r := by
  rcases h with ⟨k, k1, k2, ⟨N, k3, k4⟩, k5⟩ | ⟨e, k5⟩
  · rcases h' with ⟨k', k1', k2', ⟨N', k3', k4'⟩, k5'⟩ | ⟨e', k5'⟩
    · have : k' = k := by
        rcases Nat.lt_trichotomy k k' with z | z | z
        · exact absurd k4 (k5' k N z k3)
        · exact z.symm
        · exact absurd k4' (k5 k' N' z k3')
      rw [k2, k2', this]
    · exact absurd k4 (k5' k N k3)
  · rcases h' with ⟨k', k1', k2', ⟨N', k3', k4'⟩, k5'⟩ | ⟨e', k5'⟩
    · exact absurd k4' (k5 k' N' k3')
    · rw [e, e']
theorem bp_m6 : ∀ {k : Nat}, k ≤ 4624 → nI k ≠ -6 := by
  intro k hk z
  have h1 : ¬ nI k < 0 := nI_pos (by omega)
  rw [z] at h1
  exact h1 (by decide)
/-- whether there is a way at all does not hang on the cost -/
theorem bp_Rq {K : Nat → Int32} {q q' : Bool} {Sd : Nat → Prop} {j N : Nat} (h : bp_R K q Sd j N) : ∃ i, bp_R K q' Sd i N :=
  h (fun _ N => ∃ i, bp_R K q' Sd i N) (fun _ hN => ⟨0, bp_R0 hN⟩) (fun _ _ _ _ ⟨i, hi⟩ hd hs => ⟨_, bp_R1 hi hd hs⟩)
theorem bp_An {K : Nat → Int32} {q : Bool} {Sd : Nat → Prop} {r : Int32} (h : bp_A K q Sd r) : r = -6 ↔ ∀ j N, bp_R K q Sd j N → ¬ bp_D K (N / 16) := by
  rcases h with ⟨k, k1, k2, ⟨N, k3, k4⟩, k5⟩ | ⟨e, k5⟩
  · constructor
    · intro z; rw [k2] at z; exact absurd z (bp_m6 k1)
    · intro z; exact absurd k4 (z k N k3)
  · exact ⟨fun _ => k5, fun _ => e⟩
theorem bp_Anq {K : Nat → Int32} {q q' : Bool} {Sd : Nat → Prop} {r r' : Int32} (h : bp_A K q Sd r) (h' : bp_A K q' Sd r') : r = -6 ↔ r' = -6 := by
  rw [bp_An h, bp_An h']
  constructor
  · intro z j N hj hD
    obtain ⟨i, hi⟩ := bp_Rq (q' := q) hj
    exact z i N hi hD
  · intro z j N hj hD
    obtain ⟨i, hi⟩ := bp_Rq (q' := q') hj
    exact z i N hi hD
theorem bp_Aval {K : Nat → Int32} {q : Bool} {Sd : Nat → Prop} {r : Int32} (h : bp_A K q Sd r) : r = -6 ∨ ∃ k, k ≤ 4624 ∧ r = nI k := by
  rcases h with ⟨k, k1, k2, _⟩ | ⟨e, _⟩
  · exact Or.inr ⟨k, k1, k2⟩
  · exact Or.inl e
/-- all that is come to from valid seeds is valid -/
def bp_VN (N : Nat) : Prop := ∃ x, bp_V x ∧ bp_nd x = N
theorem bp_VNs {K : Nat → Int32} {N d M : Nat} (h : bp_VN N) (hd : d < 4) (hs : bp_ns K N d = some M) : bp_VN M := by
  obtain ⟨x, hx, rfl⟩ := h
  rcases bp_comm K hx hd with ⟨_, h2⟩ | ⟨t, h1, h2, h3, _⟩
  · rw [hs] at h2; cases h2
  · rw [hs] at h2
    exact ⟨t, h3, (Option.some.inj h2).symm⟩
theorem bp_RV {K : Nat → Int32} {q : Bool} {Sd : Nat → Prop} (hS : ∀ N, Sd N → bp_VN N) {j N : Nat} (h : bp_R K q Sd j N) : bp_VN N :=
  h (fun _ N => bp_VN N) hS (fun _ _ _ _ hN hd hs => bp_VNs hN hd hs)
theorem bp_RS {K : Nat → Int32} {q : Bool} {Sd : Nat → Prop} {j N : Nat} (h : bp_R K q Sd j N) : ∃ M, Sd M :=
  h (fun _ _ => ∃ M, Sd M) (fun N hN => ⟨N, hN⟩) (fun _ _ _ _ hN _ _ => hN)
theorem bp_nsV {K : Nat → Int32} {x d M : Nat} (hx : bp_V x) (hd : d < 4) (hs : bp_ns K (bp_nd x) d = some M) : ∃ t, bp_step K x d = some t ∧ bp_nd t = M ∧ bp_V t := by
  rcases bp_comm K hx hd with ⟨_, h2⟩ | ⟨t, h1, h2, h3, _⟩
  · rw [hs] at h2; cases h2
  · rw [hs] at h2
    exact ⟨t, h1, (Option.some.inj h2).symm, h3⟩
theorem bp_stV {K : Nat → Int32} {x d t : Nat} (hx : bp_V x) (hd : d < 4) (hs : bp_step K x d = some t) : bp_V t ∧ bp_ns K (bp_nd x) d = some (bp_nd t) ∧ (x / 16 = t / 16 ↔ bp_nd x / 16 = bp_nd t / 16) := by
  rcases bp_comm K hx hd with ⟨h1, _⟩ | ⟨t', h1, h2, h3, _, _, h6⟩
  · rw [hs] at h1; cases h1
  · rw [hs] at h1
    cases Option.some.inj h1
    refine ⟨h3, h2, ?_⟩
    rcases h6 with ⟨a, b, _⟩ | ⟨a, b, _⟩
    · exact ⟨fun _ => b, fun _ => a⟩
    · exact ⟨fun z => absurd z a, fun z => absurd z b⟩
theorem bp_wst {K : Nat → Int32} {q : Bool} {x d t : Nat} (hx : bp_V x) (hd : d < 4) (hs : bp_step K x d = some t) : bp_w q (bp_nd x) (bp_nd t) = if q = true ∧ x / 16 = t / 16 then 0 else 1 := by
  have h := (bp_stV hx hd hs).2.2
  unfold bp_w
  by_cases z : q = true ∧ x / 16 = t / 16
  · rw [if_pos z, if_pos ⟨z.1, h.mp z.2⟩]
  · rw [if_neg z, if_neg (fun y => z ⟨y.1, h.mpr y.2⟩)]
/-! counts -/
def bp_cnt (f : Nat → Bool) : Nat → Nat
  | 0 => 0
  | n + 1 => bp_cnt f n + (if f n = true then 1 else 0)
theorem bp_cle (f : Nat → Bool) : ∀ n, bp_cnt f n ≤ n := by
  intro n
  induction n with
  | zero => exact Nat.le_refl 0
  | succ n ih =>
    show bp_cnt f n + (if f n = true then 1 else 0) ≤ n + 1
    split <;> omega
theorem bp_cmono {f g : Nat → Bool} : ∀ {n : Nat}, (∀ i, i < n → f i = true → g i = true) → bp_cnt f n ≤ bp_cnt g n := by
  intro n
  induction n with
  | zero => intro _; exact Nat.le_refl 0
  | succ n ih =>
    intro h
    have h1 := ih (fun i hi => h i (by omega))
    have h2 := h n (by omega)
    show bp_cnt f n + (if f n = true then 1 else 0) ≤ bp_cnt g n + (if g n = true then 1 else 0)
    by_cases z : f n = true
    · rw [if_pos z, if_pos (h2 z)]; omega
    · rw [if_neg z]; omega
theorem bp_cstr {f g : Nat → Bool} : ∀ {n : Nat}, (∀ i, i < n → f i = true → g i = true) → (∃ i, i < n ∧ f i = false ∧ g i = true) → bp_cnt f n + 1 ≤ bp_cnt g n := by
  intro n
  induction n with
  | zero => intro _ ⟨i, hi, _⟩; omega
  | succ n ih =>
    intro h ⟨i, hi, h3, h4⟩
    have h2 := h n (by omega)
    show bp_cnt f n + (if f n = true then 1 else 0) + 1 ≤ bp_cnt g n + (if g n = true then 1 else 0)
    by_cases e : i = n
    · subst e
      have h1 := bp_cmono (f := f) (g := g) (n := i) (fun j hj => h j (by omega))
      rw [h3, h4, if_neg (by decide), if_pos rfl]
      omega
    · have h1 := ih (fun j hj => h j (by omega)) ⟨i, by omega, h3, h4⟩
      by_cases z : f n = true
      · rw [if_pos z, if_pos (h2 z)]; omega
      · rw [if_neg z]; omega
theorem bp_ccong {f g : Nat → Bool} {n : Nat} (h : ∀ i, i < n → f i = g i) : bp_cnt f n = bp_cnt g n := by
  apply Nat.le_antisymm
  · exact bp_cmono (fun i hi z => by rw [← h i hi]; exact z)
  · exact bp_cmono (fun i hi z => by rw [h i hi]; exact z)
theorem bp_cone {f g : Nat → Bool} {k : Nat} (hf : f k = false) (hg : g k = true) (h : ∀ i, i ≠ k → g i = f i) : ∀ n, k < n → bp_cnt g n = bp_cnt f n + 1 := by
  intro n
  induction n with
  | zero => intro z; omega
  | succ n ih =>
    intro hk
    show bp_cnt g n + (if g n = true then 1 else 0) = bp_cnt f n + (if f n = true then 1 else 0) + 1
    by_cases e : n = k
    · subst e
      rw [hf, hg, if_pos rfl, if_neg (show ¬ (false = true) by decide), bp_ccong (f := g) (g := f) (fun i hi => h i (by omega))]
    · rw [ih (by omega), h n e]
      omega
theorem bp_cfull {f : Nat → Bool} : ∀ {n : Nat}, n ≤ bp_cnt f n → ∀ i, i < n → f i = true := by
  intro n
  induction n with
  | zero => intro _ i hi; omega
  | succ n ih =>
    intro h i hi
    have h0 : bp_cnt f (n + 1) = bp_cnt f n + (if f n = true then 1 else 0) := rfl
    have h1 := bp_cle f n
    by_cases z : f n = true
    · rw [h0, if_pos z] at h
      by_cases e : i = n
      · rw [e]; exact z
      · exact ih (by omega) i (by omega)
    · rw [h0, if_neg z] at h
      omega
theorem bp_clt {f : Nat → Bool} {n i : Nat} (hi : i < n) (h : f i = false) : bp_cnt f n < n := by
  have h1 := bp_cle f n
  rcases Nat.lt_or_ge (bp_cnt f n) n with z | z
  · exact z
  · have := bp_cfull z i hi
    rw [h] at this
    exact Bool.noConfusion this
theorem bp_czero {f : Nat → Bool} : ∀ {n : Nat}, (∀ i, i < n → f i = false) → bp_cnt f n = 0 := by
  intro n
  induction n with
  | zero => intro _; rfl
  | succ n ih =>
    intro h
    show bp_cnt f n + (if f n = true then 1 else 0) = 0
    rw [ih (fun i hi => h i (by omega)), h n (by omega), if_neg (by decide)]
theorem bp_cadd (f : Nat → Bool) (n : Nat) : ∀ k, bp_cnt f (n + k) = bp_cnt f n + bp_cnt (fun i => f (n + i)) k := by
  intro k
  induction k with
  | zero => rfl
  | succ k ih =>
    show bp_cnt f (n + k) + (if f (n + k) = true then 1 else 0) = bp_cnt f n + (bp_cnt (fun i => f (n + i)) k + (if f (n + k) = true then 1 else 0))
    rw [ih]
    omega
end
section
/-! the class's row of found states: what it holds (bp_Rep), how it grows (bp_G), the head of a level (bp_T) -/
def bp_Rep (seen queue : Nat → Int32) (q : Nat → Nat) (f : Nat) : Prop :=
  (∀ i, i < f → bp_V (q i) ∧ queue i = nI (q i)) ∧
  (∀ s, s < 4624 → (seen s = 1 ∧ ∃ i, i < f ∧ q i = s) ∨ (seen s = 0 ∧ ∀ i, i < f → q i ≠ s)) ∧
  bp_cnt (fun s => decide (seen s = 1)) 4624 = f
theorem bp_RepLe {seen queue : Nat → Int32} {q : Nat → Nat} {f : Nat} (h : bp_Rep seen queue q f) : f ≤ 4624 := by
  rw [← h.2.2]
  exact bp_cle _ _
def bp_G (q : Nat → Nat) (f : Nat) (q' : Nat → Nat) (f' : Nat) (P : Nat → Prop) : Prop :=
  f ≤ f' ∧ (∀ i, i < f → q' i = q i) ∧ (∀ i, f ≤ i → i < f' → P (q' i)) ∧ (∀ x, P x → ∃ i, i < f' ∧ q' i = x)
theorem bp_Gr {q : Nat → Nat} {f : Nat} {P : Nat → Prop} (h : ∀ x, P x → ∃ i, i < f ∧ q i = x) : bp_G q f q f P :=
  ⟨Nat.le_refl f, fun _ _ => rfl, fun i h1 h2 => by omega, h⟩
theorem bp_Gt {q q' q'' : Nat → Nat} {f f' f'' : Nat} {P P' : Nat → Prop} (h : bp_G q f q' f' P) (h' : bp_G q' f' q'' f'' P') : bp_G q f q'' f'' (fun x => P x ∨ P' x) := by
  obtain ⟨a1, a2, a3, a4⟩ := h
  obtain ⟨b1, b2, b3, b4⟩ := h'
  refine ⟨by omega, fun i hi => ?_, fun i hi hi' => ?_, fun x hx => ?_⟩
  · rw [b2 i (by omega), a2 i hi]
  · rcases Nat.lt_or_ge i f' with z | z
    · rw [b2 i z]; exact Or.inl (a3 i hi z)
    · exact Or.inr (b3 i z hi')
  · rcases hx with hx | hx
    · obtain ⟨i, hi, e⟩ := a4 x hx
      exact ⟨i, by omega, by rw [b2 i hi]; exact e⟩
    · exact b4 x hx
theorem bp_Gi {q q' : Nat → Nat} {f f' : Nat} {P P' : Nat → Prop} (h : bp_G q f q' f' P) (e : ∀ x, P x ↔ P' x) : bp_G q f q' f' P' :=
  ⟨h.1, h.2.1, fun i h1 h2 => (e _).mp (h.2.2.1 i h1 h2), fun x hx => h.2.2.2 x ((e x).mpr hx)⟩
theorem bp_Gm {q q' : Nat → Nat} {f f' : Nat} {P : Nat → Prop} (h : bp_G q f q' f' P) {x : Nat} (hx : ∃ i, i < f ∧ q i = x) : ∃ i, i < f' ∧ q' i = x := by
  obtain ⟨i, hi, e⟩ := hx
  exact ⟨i, Nat.lt_of_lt_of_le hi h.1, by rw [h.2.1 i hi]; exact e⟩
/-- one state more, or none: what reach does -/
theorem bp_Rin {seen queue : Nat → Int32} {q : Nat → Nat} {f s : Nat} (h : bp_Rep seen queue q f) (hs : s < 4624) (e : seen s = 1) : bp_G q f q f (fun x => x = s) := by
  apply bp_Gr
  intro x hx
  have hx' : x = s := hx
  rw [hx']
  rcases h.2.1 s hs with z | z
  · exact z.2
  · rw [e] at z; exact absurd z.1 (by decide)
theorem bp_Rnew {seen queue : Nat → Int32} {q : Nat → Nat} {f s : Nat} (h : bp_Rep seen queue q f) (hv : bp_V s) (e : ¬ seen s = 1) :
    f < 4624 ∧ bp_Rep (upd seen s 1) (upd queue f (nI s)) (fun i => if i = f then s else q i) (f + 1) ∧ bp_G q f (fun i => if i = f then s else q i) (f + 1) (fun x => x = s) := by
  obtain ⟨h1, h2, h3⟩ := h
  have hs : s < 4624 := hv.1
  have hn : ∀ i, i < f → q i ≠ s := by
    rcases h2 s hs with z | z
    · exact absurd z.1 e
    · exact z.2
  have hc : bp_cnt (fun s => decide (seen s = 1)) 4624 < 4624 := bp_clt (i := s) hs (decide_eq_false e)
  refine ⟨by omega, ⟨fun i hi => ?_, fun x hx => ?_, ?_⟩, ⟨by omega, fun i hi => if_neg (by omega), fun i hi hi' => ?_, fun x hx => ⟨f, by omega, ?_⟩⟩⟩
  · show bp_V (if i = f then s else q i) ∧ upd queue f (nI s) i = nI (if i = f then s else q i)
    by_cases z : i = f
    · rw [if_pos z, z]
      exact ⟨hv, pk_us⟩
    · rw [if_neg z, pk_un z]
      exact h1 i (by omega)
  · show (upd seen s 1 x = 1 ∧ ∃ i, i < f + 1 ∧ (if i = f then s else q i) = x) ∨ (upd seen s 1 x = 0 ∧ ∀ i, i < f + 1 → (if i = f then s else q i) ≠ x)
    by_cases z : x = s
    · rw [z]
      exact Or.inl ⟨pk_us, f, by omega, if_pos rfl⟩
    · rw [pk_un z]
      rcases h2 x hx with ⟨y1, i, y2, y3⟩ | ⟨y1, y2⟩
      · exact Or.inl ⟨y1, i, by omega, by rw [if_neg (by omega)]; exact y3⟩
      · refine Or.inr ⟨y1, fun i hi => ?_⟩
        by_cases w : i = f
        · rw [if_pos w]; exact fun y => z y.symm
        · rw [if_neg w]; exact y2 i (by omega)
  · rw [← h3]
    apply bp_cone (k := s)
    · exact decide_eq_false e
    · exact decide_eq_true pk_us
    · intro i hi
      show decide (upd seen s 1 i = 1) = decide (seen i = 1)
      rw [pk_un hi]
    · exact hs
  · show (if i = f then s else q i) = s
    exact if_pos (by omega)
  · show (if f = f then s else q f) = x
    rw [if_pos rfl, hx]
/-- nothing found yet -/
theorem bp_Rep0 {seen queue : Nat → Int32} {q : Nat → Nat} (h : ∀ s, s < 4624 → seen s = 0) : bp_Rep seen queue q 0 := by
  refine ⟨fun i hi => by omega, fun s hs => Or.inr ⟨h s hs, fun i hi => by omega⟩, bp_czero (fun i hi => ?_)⟩
  apply decide_eq_false
  rw [h i hi]
  decide
/-- the head of level m: what stands ahead of ls is through, what stands behind has cost m -/
def bp_T (K : Nat → Int32) (qb : Bool) (Sd : Nat → Prop) (m : Nat) (q : Nat → Nat) (f ls : Nat) : Prop :=
  (∀ j N, bp_R K qb Sd j N → j < m → ∃ i, i < ls ∧ bp_nd (q i) = N) ∧
  (∀ i, i < ls → ¬ bp_D K (bp_nd (q i) / 16) ∧ ∀ d t, d < 4 → bp_step K (q i) d = some t → ∃ j, j < f ∧ q j = t) ∧
  (∀ N, Sd N → ∃ i, i < f ∧ bp_nd (q i) = N) ∧
  (∀ i, ls ≤ i → i < f → bp_R K qb Sd m (bp_nd (q i))) ∧
  m ≤ ls ∧ ls ≤ f
/-- closed under what costs nothing -/
def bp_Cl (K : Nat → Int32) (qb : Bool) (q : Nat → Nat) (f ls : Nat) : Prop :=
  ∀ i, ls ≤ i → i < f → ∀ d t, d < 4 → bp_step K (q i) d = some t → bp_w qb (bp_nd (q i)) (bp_nd t) = 0 → ∃ j, j < f ∧ q j = t
theorem bp_Clf {K : Nat → Int32} {q : Nat → Nat} {f ls : Nat} : bp_Cl K false q f ls := by
  intro i _ _ d t _ _ h
  rw [bp_wf] at h
  exact absurd h (by decide)
theorem bp_Tfull {K : Nat → Int32} {qb : Bool} {Sd : Nat → Prop} {m : Nat} {q : Nat → Nat} {f ls : Nat} (hV : ∀ i, i < f → bp_V (q i)) (h : bp_T K qb Sd m q f ls) (hc : bp_Cl K qb q f ls) :
    ∀ j N, bp_R K qb Sd j N → j ≤ m → ∃ i, i < f ∧ bp_nd (q i) = N := by
  obtain ⟨t1, t2, t3, t4, t5, t6⟩ := h
  intro j N hR
  refine bp_Ri (K := K) (q := qb) (Sd := Sd) (fun j N => j ≤ m → ∃ i, i < f ∧ bp_nd (q i) = N) ?_ ?_ hR
  · intro N hN _
    exact t3 N hN
  · intro j M d M' hRj hQ hd hs hle
    have key : ∀ i, i < ls → bp_nd (q i) = M → ∃ i, i < f ∧ bp_nd (q i) = M' := by
      intro i hi he
      subst he
      obtain ⟨t, e1, e2, e3⟩ := bp_nsV (hV i (by omega)) hd hs
      obtain ⟨l, l1, l2⟩ := (t2 i hi).2 d t hd e1
      exact ⟨l, l1, by rw [l2]; exact e2⟩
    rcases bp_w01 qb M M' with w | w
    · obtain ⟨i, hi, he⟩ := hQ (by omega)
      rcases Nat.lt_or_ge i ls with z | z
      · exact key i z he
      · subst he
        obtain ⟨t, e1, e2, e3⟩ := bp_nsV (hV i hi) hd hs
        obtain ⟨l, l1, l2⟩ := hc i z hi d t hd e1 (by rw [e2]; exact w)
        exact ⟨l, l1, by rw [l2]; exact e2⟩
    · obtain ⟨i, hi, he⟩ := t1 j M hRj (by omega)
      exact key i hi he
/-- a level is through -/
theorem bp_Tnext {K : Nat → Int32} {qb : Bool} {Sd : Nat → Prop} {m : Nat} {q q' : Nat → Nat} {f f' ls : Nat} (hV : ∀ i, i < f → bp_V (q i)) (h : bp_T K qb Sd m q f ls) (hc : bp_Cl K qb q f ls) (hls : ls < f)
    (hD : ∀ i, ls ≤ i → i < f → ¬ bp_D K (bp_nd (q i) / 16))
    (hG : bp_G q f q' f' (fun x => ∃ j, ls ≤ j ∧ j < f ∧ ∃ d, d < 4 ∧ bp_step K (q j) d = some x ∧ bp_w qb (bp_nd (q j)) (bp_nd x) = 1)) :
    bp_T K qb Sd (m + 1) q' f' f := by
  have hF := bp_Tfull hV h hc
  obtain ⟨t1, t2, t3, t4, t5, t6⟩ := h
  obtain ⟨g1, g2, g3, g4⟩ := hG
  refine ⟨?_, ?_, ?_, ?_, by omega, g1⟩
  · intro j N hR hj
    obtain ⟨i, hi, he⟩ := hF j N hR (by omega)
    exact ⟨i, hi, by rw [g2 i hi]; exact he⟩
  · intro i hi
    rw [g2 i hi]
    refine ⟨?_, ?_⟩
    · rcases Nat.lt_or_ge i ls with z | z
      · exact (t2 i z).1
      · exact hD i z hi
    · intro d t hd hs
      have up : (∃ j, j < f ∧ q j = t) → ∃ j, j < f' ∧ q' j = t := fun ⟨j, hj, e⟩ => ⟨j, by omega, by rw [g2 j hj]; exact e⟩
      rcases Nat.lt_or_ge i ls with z | z
      · exact up ((t2 i z).2 d t hd hs)
      · rcases bp_w01 qb (bp_nd (q i)) (bp_nd t) with w | w
        · exact up (hc i z hi d t hd hs w)
        · exact g4 t ⟨i, z, hi, d, hd, hs, w⟩
  · intro N hN
    obtain ⟨i, hi, he⟩ := t3 N hN
    exact ⟨i, by omega, by rw [g2 i hi]; exact he⟩
  · intro i hi hi'
    obtain ⟨j, j1, j2, d, hd, hs, w⟩ := g3 i hi hi'
    have hR := bp_R1 (t4 j j1 j2) hd (bp_stV (hV j j2) hd hs).2.1
    rw [w] at hR
    exact hR
/-- the answers of a search by levels -/
theorem bp_Tyes {K : Nat → Int32} {qb : Bool} {Sd : Nat → Prop} {m : Nat} {q : Nat → Nat} {f ls i : Nat} (h : bp_T K qb Sd m q f ls) (h1 : ls ≤ i) (h2 : i < f) (hm : m ≤ 4624) (hD : bp_D K (bp_nd (q i) / 16)) : bp_A K qb Sd (nI m) := by
  refine Or.inl ⟨m, hm, rfl, ⟨_, h.2.2.2.1 i h1 h2, hD⟩, fun j N hj hR => ?_⟩
  obtain ⟨l, hl, he⟩ := h.1 j N hR hj
  rw [← he]
  exact (h.2.1 l hl).1
theorem bp_Tno {K : Nat → Int32} {qb : Bool} {Sd : Nat → Prop} {m : Nat} {q : Nat → Nat} {f ls : Nat} (hV : ∀ i, i < f → bp_V (q i)) (h : bp_T K qb Sd m q f ls) (hf : f ≤ ls) : bp_A K qb Sd (-6) := by
  obtain ⟨t1, t2, t3, t4, t5, t6⟩ := h
  refine Or.inr ⟨rfl, fun j N hR => ?_⟩
  have hh : ∃ i, i < f ∧ bp_nd (q i) = N := by
    refine bp_Ri (K := K) (q := qb) (Sd := Sd) (fun _ N => ∃ i, i < f ∧ bp_nd (q i) = N) ?_ ?_ hR
    · exact t3
    · intro j M d M' hRj hQ hd hs
      obtain ⟨i, hi, he⟩ := hQ
      subst he
      obtain ⟨t, e1, e2, e3⟩ := bp_nsV (hV i hi) hd hs
      obtain ⟨l, l1, l2⟩ := (t2 i (by omega)).2 d t hd e1
      exact ⟨l, l1, by rw [l2]; exact e2⟩
  obtain ⟨i, hi, he⟩ := hh
  rw [← he]
  exact (t2 i (by omega)).1
/-- a search begins -/
theorem bp_T0 {K : Nat → Int32} {qb : Bool} {Sd : Nat → Prop} {q : Nat → Nat} {f : Nat} (h1 : ∀ N, Sd N → ∃ i, i < f ∧ bp_nd (q i) = N) (h2 : ∀ i, i < f → Sd (bp_nd (q i))) : bp_T K qb Sd 0 q f 0 :=
  ⟨fun j _ _ hj => by omega, fun i hi => by omega, h1, fun i _ hi => bp_R0 (h2 i hi), Nat.le_refl 0, Nat.zero_le f⟩
/-- more states of the same cost in a level: still its head -/
theorem bp_Tw {K : Nat → Int32} {qb : Bool} {Sd : Nat → Prop} {m : Nat} {q q' : Nat → Nat} {f f' ls : Nat} (h : bp_T K qb Sd m q f ls) (h1 : f ≤ f') (h2 : ∀ i, i < f → q' i = q i) (h3 : ∀ i, ls ≤ i → i < f' → bp_R K qb Sd m (bp_nd (q' i))) : bp_T K qb Sd m q' f' ls := by
  obtain ⟨t1, t2, t3, t4, t5, t6⟩ := h
  refine ⟨?_, ?_, ?_, h3, t5, by omega⟩
  · intro j N hR hj
    obtain ⟨i, hi, he⟩ := t1 j N hR hj
    exact ⟨i, hi, by rw [h2 i (by omega)]; exact he⟩
  · intro i hi
    rw [h2 i (by omega)]
    refine ⟨(t2 i hi).1, fun d t hd hs => ?_⟩
    obtain ⟨j, hj, e⟩ := (t2 i hi).2 d t hd hs
    exact ⟨j, by omega, by rw [h2 j hj]; exact e⟩
  · intro N hN
    obtain ⟨i, hi, he⟩ := t3 N hN
    exact ⟨i, by omega, by rw [h2 i hi]; exact he⟩
end
section
/-! the reference's table of sets, its labels, its sweeps and its search, as pure rows -/
def bp_tl : List Nat := [1, 3, 2, 5, 6, 4, 9, 10, 12, 8, 17, 18, 20, 24, 16, 33, 34, 36, 40, 48, 32, 65, 66, 68, 72, 80, 96, 64, 129, 130, 132, 136, 144, 160, 192, 128, 257, 258, 260, 264, 272, 288, 320, 384, 256, 513, 514, 516, 520, 528, 544, 576, 640, 768, 512, 1025, 1026, 1028, 1032, 1040, 1056, 1088, 1152, 1280, 1536, 1024, 2049, 2050, 2052, 2056, 2064, 2080, 2112, 2176, 2304, 2560, 3072, 2048, 4097, 4098, 4100, 4104, 4112, 4128, 4160, 4224, 4352, 4608, 5120, 6144, 4096, 8193, 8194, 8196, 8200, 8208, 8224, 8256, 8320, 8448, 8704, 9216, 10240, 12288, 8192, 16385, 16386, 16388, 16392, 16400, 16416, 16448, 16512, 16640, 16896, 17408, 18432, 20480, 24576, 16384, 32769, 32770, 32772, 32776, 32784, 32800, 32832, 32896, 33024, 33280, 33792, 34816, 36864, 40960, 49152, 32768, 0]
def bp_tab (n : Nat) : Nat := bp_tl.getD n 0
def bp_ix (a b : Nat) : Nat :=
  if a < 16 then (if b < 16 then (if a < b then b * (b + 1) / 2 + a else a * (a + 1) / 2 + b) else a * (a + 1) / 2 + a)
  else (if b < 16 then b * (b + 1) / 2 + b else 136)
theorem bp_ixT : ∀ a, a < 17 → ∀ b, b < 17 → (a = b → a = 16) → bp_ix a b < 137 ∧ bp_tab (bp_ix a b) = bp_bm a b := by decide +kernel
theorem bp_tabN : ∀ n, n < 137 → ∀ m, m < n → bp_tab n ≠ bp_tab m := by decide +kernel
theorem bp_tabL : ∀ n, n < 137 → bp_tab n < 65536 := by decide +kernel
theorem bp_tabA : ∀ a, a < 16 → ∀ b, b < a + 1 → a * (a + 1) / 2 + b < 136 ∧ nI (bp_tab (a * (a + 1) / 2 + b)) = ((1 : Int32) <<< (nI a &&& 31)) ||| ((1 : Int32) <<< (nI b &&& 31)) := by decide +kernel
theorem bp_cntN : bp_cnt (fun y => decide (bp_tab (y / 16) ≠ 0 ∧ ¬ bp_has (bp_tab (y / 16)) (y % 16))) 2192 = 1920 := by decide +kernel
theorem bp_tabI {n m : Nat} (hn : n < 137) (hm : m < 137) (h : bp_tab n = bp_tab m) : n = m := by
  rcases Nat.lt_trichotomy n m with z | z | z
  · exact absurd h.symm (bp_tabN m hm n z)
  · exact z
  · exact absurd h (bp_tabN n hn m z)
def bp_ga (y : Nat) : Nat := bp_tab (y / 16) * 16 + y % 16
theorem bp_gaD (y : Nat) : bp_ga y / 16 = bp_tab (y / 16) ∧ bp_ga y % 16 = y % 16 := by
  unfold bp_ga
  refine ⟨by omega, by omega⟩
theorem bp_gaI {y z : Nat} (hy : y < 2192) (hz : z < 2192) (h : bp_ga y = bp_ga z) : y = z := by
  obtain ⟨a1, a2⟩ := bp_gaD y
  obtain ⟨b1, b2⟩ := bp_gaD z
  rw [h] at a1 a2
  have e := bp_tabI (n := y / 16) (m := z / 16) (by omega) (by omega) (by rw [← a1, b1])
  omega
theorem bp_gaS {N : Nat} (h : bp_VN N) : ∃ y, y < 2192 ∧ bp_ga y = N := by
  obtain ⟨x, hx, rfl⟩ := h
  obtain ⟨hp, ha, hb, hab, _⟩ := hx.2
  obtain ⟨i1, i2⟩ := bp_ixT _ ha _ hb hab
  refine ⟨bp_ix (x / 16 / 17) (x / 16 % 17) * 16 + x % 16, by omega, ?_⟩
  have e1 : (bp_ix (x / 16 / 17) (x / 16 % 17) * 16 + x % 16) / 16 = bp_ix (x / 16 / 17) (x / 16 % 17) := by omega
  have e2 : (bp_ix (x / 16 / 17) (x / 16 % 17) * 16 + x % 16) % 16 = x % 16 := by omega
  unfold bp_ga bp_nd
  rw [e1, e2, i2]
end
section
/-! labels g (0: none, k + 1: level k): a sweep at level m, all sweeps of a level, the levels -/
def bp_Chg (m : Nat) (g g' : Nat → Nat) : Prop := ∀ y, y < 2192 → g' y = g y ∨ (m + 1 ≤ g' y ∧ g' y ≤ m + 2 ∧ (g y = 0 ∨ g' y < g y))
theorem bp_ChR {m : Nat} {g : Nat → Nat} : bp_Chg m g g := fun _ _ => Or.inl rfl
theorem bp_ChT {m : Nat} {g g' g'' : Nat → Nat} (h : bp_Chg m g g') (h' : bp_Chg m g' g'') : bp_Chg m g g'' := by
  intro y hy
  have h1 := h y hy
  have h2 := h' y hy
  omega
def bp_So (K : Nat → Int32) (qb : Bool) (Sd : Nat → Prop) (m : Nat) (g : Nat → Nat) : Prop :=
  ∀ y, y < 2192 → g y ≠ 0 → g y ≤ m + 2 ∧ bp_R K qb Sd (g y - 1) (bp_ga y)
/-- y was tried in direction d -/
def bp_Ex (K : Nat → Int32) (qb : Bool) (m : Nat) (g : Nat → Nat) (y d : Nat) : Prop :=
  ∀ z, z < 2192 → bp_ns K (bp_ga y) d = some (bp_ga z) → 0 < g z ∧ g z ≤ m + 1 + bp_w qb (bp_ga y) (bp_ga z)
theorem bp_ExC {K : Nat → Int32} {qb : Bool} {m : Nat} {g g' : Nat → Nat} {y d : Nat} (h : bp_Ex K qb m g y d) (hc : bp_Chg m g g') : bp_Ex K qb m g' y d := by
  intro z hz hs
  have h1 := h z hz hs
  have h2 := hc z hz
  omega
/-- the cells of set n that are at level m are closed under what costs nothing -/
def bp_Cd (K : Nat → Int32) (qb : Bool) (m : Nat) (g : Nat → Nat) (n : Nat) : Prop :=
  ∀ y, y < 2192 → y / 16 = n → g y = m + 1 → ∀ d z, d < 4 → z < 2192 → bp_ns K (bp_ga y) d = some (bp_ga z) → bp_w qb (bp_ga y) (bp_ga z) = 0 → 0 < g z ∧ g z ≤ m + 1
theorem bp_same {qb : Bool} {y z : Nat} (hy : y < 2192) (hz : z < 2192) (h : bp_w qb (bp_ga y) (bp_ga z) = 0) : z / 16 = y / 16 := by
  have h1 := (bp_wq0 h).2
  rw [(bp_gaD y).1, (bp_gaD z).1] at h1
  exact (bp_tabI (by omega) (by omega) h1).symm
/-- one try: y at level m, direction d; what may have changed -/
def bp_St (K : Nat → Int32) (qb : Bool) (m : Nat) (g g' : Nat → Nat) (y d : Nat) (r : Bool) : Prop :=
  (g' = g ∧ bp_Ex K qb m g y d ∧ r = false) ∨
  (∃ z, z < 2192 ∧ bp_ns K (bp_ga y) d = some (bp_ga z) ∧ ¬ (0 < g z ∧ g z ≤ m + 1 + bp_w qb (bp_ga y) (bp_ga z)) ∧
    g' = (fun i => if i = z then m + 1 + bp_w qb (bp_ga y) (bp_ga z) else g i) ∧ (r = true ↔ bp_w qb (bp_ga y) (bp_ga z) = 0))
/-- the state of a sweep before (s, d): g0 at its beginning, g now -/
def bp_J (K : Nat → Int32) (qb : Bool) (Sd : Nat → Prop) (m : Nat) (g0 g : Nat → Nat) (s d : Nat) (more : Bool) : Prop :=
  bp_Chg m g0 g ∧ bp_So K qb Sd m g ∧
  (∀ y, y < 2192 → y < s → g0 y = m + 1 → ∀ e, e < 4 → bp_Ex K qb m g y e) ∧
  (g0 s = m + 1 → ∀ e, e < d → bp_Ex K qb m g s e) ∧
  (more = false → ∀ y, y < 2192 → g y = m + 1 → g0 y = m + 1) ∧
  (more = true → ∃ y, y < 2192 ∧ g y = m + 1 ∧ g0 y ≠ m + 1) ∧
  (∀ n, bp_Cd K qb m g0 n → ∀ y, y < 2192 → y / 16 = n → g y = m + 1 → g0 y = m + 1)
theorem bp_J0 {K : Nat → Int32} {qb : Bool} {Sd : Nat → Prop} {m : Nat} {g : Nat → Nat} (h : bp_So K qb Sd m g) : bp_J K qb Sd m g g 0 0 false :=
  ⟨bp_ChR, h, fun _ _ h => absurd h (Nat.not_lt_zero _), fun _ _ h => absurd h (Nat.not_lt_zero _), fun _ _ _ h => h, fun h => Bool.noConfusion h, fun _ _ _ _ _ h => h⟩
theorem bp_J1 {K : Nat → Int32} {qb : Bool} {Sd : Nat → Prop} {m : Nat} {g0 g : Nat → Nat} {s : Nat} {more : Bool} (h : bp_J K qb Sd m g0 g s 4 more) : bp_J K qb Sd m g0 g (s + 1) 0 more := by
  obtain ⟨a1, a2, a3, a4, a5, a6, a7⟩ := h
  refine ⟨a1, a2, fun y hy hs hg e he => ?_, fun _ e he => by omega, a5, a6, a7⟩
  by_cases z : y = s
  · subst z; exact a4 hg e he
  · exact a3 y hy (by omega) hg e he
/-- s is not at level m: nothing is tried -/
theorem bp_J2 {K : Nat → Int32} {qb : Bool} {Sd : Nat → Prop} {m : Nat} {g0 g : Nat → Nat} {s d : Nat} {more : Bool} (hs : s < 2192) (h : bp_J K qb Sd m g0 g s d more) (hg : ¬ g s = m + 1) : bp_J K qb Sd m g0 g s (d + 1) more := by
  obtain ⟨a1, a2, a3, a4, a5, a6, a7⟩ := h
  refine ⟨a1, a2, a3, fun hg0 => ?_, a5, a6, a7⟩
  have h1 := a1 s hs
  exfalso
  omega
/-- s is at level m: direction d is tried -/
theorem bp_J3 {K : Nat → Int32} {qb : Bool} {Sd : Nat → Prop} {m : Nat} {g0 g g' : Nat → Nat} {s d : Nat} {more r : Bool} (hs : s < 2192) (hd : d < 4) (h : bp_J K qb Sd m g0 g s d more) (hg : g s = m + 1) (hst : bp_St K qb m g g' s d r) : bp_J K qb Sd m g0 g' s (d + 1) (more || r) := by
  obtain ⟨a1, a2, a3, a4, a5, a6, a7⟩ := h
  rcases hst with ⟨e1, e2, e3⟩ | ⟨z, z1, z2, z3, z4, z5⟩
  · subst e1 e3
    rw [Bool.or_false]
    refine ⟨a1, a2, a3, fun hg0 e he => ?_, a5, a6, a7⟩
    by_cases w : e = d
    · subst w; exact e2
    · exact a4 hg0 e (by omega)
  · have hw := bp_w01 qb (bp_ga s) (bp_ga z)
    have gz : g' z = m + 1 + bp_w qb (bp_ga s) (bp_ga z) := by rw [z4]; exact if_pos rfl
    have gn : ∀ i, i ≠ z → g' i = g i := fun i hi => by rw [z4]; exact if_neg hi
    have hc : bp_Chg m g g' := by
      intro y hy
      by_cases e : y = z
      · subst e; omega
      · exact Or.inl (gn y e)
    have hR : bp_R K qb Sd (m + bp_w qb (bp_ga s) (bp_ga z)) (bp_ga z) := by
      have := bp_R1 (a2 s hs (by omega)).2 hd z2
      rw [hg] at this
      exact this
    refine ⟨bp_ChT a1 hc, ?_, ?_, ?_, ?_, ?_, ?_⟩
    · intro y hy hne
      by_cases e : y = z
      · subst e
        refine ⟨by omega, ?_⟩
        have e2 : g' y - 1 = m + bp_w qb (bp_ga s) (bp_ga y) := by omega
        rw [e2]
        exact hR
      · rw [gn y e] at hne ⊢
        exact a2 y hy hne
    · intro y hy hys hg0 e he
      exact bp_ExC (a3 y hy hys hg0 e he) hc
    · intro hg0 e he
      by_cases w : e = d
      · subst w
        intro x hx hns
        rw [z2] at hns
        have : z = x := bp_gaI z1 hx (Option.some.inj hns)
        subst this
        omega
      · exact bp_ExC (a4 hg0 e (by omega)) hc
    · intro hm y hy hgy
      have hm1 : more = false := by cases more with
        | false => rfl
        | true => exact absurd hm (by simp)
      have hr1 : r = false := by cases r with
        | false => rfl
        | true => exact absurd hm (by simp)
      by_cases e : y = z
      · subst e
        have : ¬ bp_w qb (bp_ga s) (bp_ga y) = 0 := fun w => by rw [hr1] at z5; exact Bool.noConfusion (z5.mpr w)
        omega
      · rw [gn y e] at hgy
        exact a5 hm1 y hy hgy
    · intro hm
      by_cases hm1 : more = true
      · obtain ⟨y, hy, h1, h2⟩ := a6 hm1
        refine ⟨y, hy, ?_, h2⟩
        have := hc y hy
        omega
      · have hr1 : r = true := by cases r with
          | false => rw [Bool.or_false] at hm; exact absurd hm hm1
          | true => rfl
        have hw0 := z5.mp hr1
        refine ⟨z, z1, by omega, ?_⟩
        have := a1 z z1
        omega
    · intro n hn y hy hyn hgy
      by_cases e : y = z
      · subst e
        have hw0 : bp_w qb (bp_ga s) (bp_ga y) = 0 := by omega
        have hsn := bp_same hs z1 hw0
        have hg0 := a7 n hn s hs (by omega) hg
        have hcd := hn s hs (by omega) hg0 d y hd hy z2 hw0
        have h1 := a1 y hy
        omega
      · rw [gn y e] at hgy
        exact a7 n hn y hy hyn hgy
/-- a sweep is through: s = 2192 -/
def bp_Sw (K : Nat → Int32) (qb : Bool) (Sd : Nat → Prop) (m : Nat) (g0 g : Nat → Nat) (more : Bool) : Prop :=
  bp_Chg m g0 g ∧ bp_So K qb Sd m g ∧
  (∀ y, y < 2192 → g0 y = m + 1 → ∀ e, e < 4 → bp_Ex K qb m g y e) ∧
  (more = false → ∀ y, y < 2192 → g y = m + 1 → g0 y = m + 1) ∧
  (more = true → ∃ y, y < 2192 ∧ g y = m + 1 ∧ g0 y ≠ m + 1) ∧
  (∀ n, bp_Cd K qb m g0 n → ∀ y, y < 2192 → y / 16 = n → g y = m + 1 → g0 y = m + 1)
theorem bp_J4 {K : Nat → Int32} {qb : Bool} {Sd : Nat → Prop} {m : Nat} {g0 g : Nat → Nat} {more : Bool} (h : bp_J K qb Sd m g0 g 2192 0 more) : bp_Sw K qb Sd m g0 g more :=
  ⟨h.1, h.2.1, fun y hy => h.2.2.1 y hy hy, h.2.2.2.2.1, h.2.2.2.2.2.1, h.2.2.2.2.2.2⟩
/-- before sweep k of level m -/
def bp_L (K : Nat → Int32) (qb : Bool) (Sd : Nat → Prop) (m : Nat) (gt g : Nat → Nat) (k : Nat) (more : Bool) : Prop :=
  bp_Chg m gt g ∧ bp_So K qb Sd m g ∧
  ((more = false ∧ ∀ y, y < 2192 → g y = m + 1 → ∀ e, e < 4 → bp_Ex K qb m g y e) ∨
   (more = true ∧ k ≤ 16 ∧ ∀ n, n < 137 → bp_Cd K qb m g n ∨ k ≤ bp_cnt (fun c => decide (g (n * 16 + c) = m + 1)) 16))
theorem bp_L0 {K : Nat → Int32} {qb : Bool} {Sd : Nat → Prop} {m : Nat} {g : Nat → Nat} (h : bp_So K qb Sd m g) : bp_L K qb Sd m g g 0 true :=
  ⟨bp_ChR, h, Or.inr ⟨rfl, by omega, fun _ _ => Or.inr (Nat.zero_le _)⟩⟩
theorem bp_L1 {K : Nat → Int32} {qb : Bool} {Sd : Nat → Prop} {m : Nat} {gt g g' : Nat → Nat} {k : Nat} {more : Bool} (h : bp_L K qb Sd m gt g k true) (hs : bp_Sw K qb Sd m g g' more) : bp_L K qb Sd m gt g' (k + 1) more := by
  obtain ⟨a1, a2, a3⟩ := h
  obtain ⟨b1, b2, b3, b4, b5, b6⟩ := hs
  refine ⟨bp_ChT a1 b1, b2, ?_⟩
  rcases a3 with ⟨z, _⟩ | ⟨_, hk, hn⟩
  · exact Bool.noConfusion z
  · by_cases hm : more = true
    · refine Or.inr ⟨hm, ?_, ?_⟩
      · obtain ⟨y, hy, h1, h2⟩ := b5 hm
        rcases hn (y / 16) (by omega) with z | z
        · exact absurd (b6 (y / 16) z y hy rfl h1) h2
        · have hlt := bp_clt (f := fun c => decide (g (y / 16 * 16 + c) = m + 1)) (n := 16) (i := y % 16) (by omega) (by
            apply decide_eq_false
            rw [show y / 16 * 16 + y % 16 = y by omega]
            exact h2)
          omega
      · intro n hn1
        rcases hn n hn1 with z | z
        · refine Or.inl ?_
          intro y hy hyn hgy d x hd hx hns hw
          have h1 := z y hy hyn (b6 n z y hy hyn hgy) d x hd hx hns hw
          have h2 := b1 x hx
          omega
        · by_cases hnew : ∃ c, c < 16 ∧ g (n * 16 + c) ≠ m + 1 ∧ g' (n * 16 + c) = m + 1
          · obtain ⟨c, hc, c1, c2⟩ := hnew
            refine Or.inr (Nat.le_trans (Nat.succ_le_succ z) (bp_cstr (fun i hi hgi => ?_) ⟨c, hc, decide_eq_false c1, decide_eq_true c2⟩))
            apply decide_eq_true
            have h1 := of_decide_eq_true hgi
            have h2 := b1 (n * 16 + i) (by omega)
            omega
          · refine Or.inl ?_
            intro y hy hyn hgy d x hd hx hns hw
            have h0 : g y = m + 1 := by
              apply Classical.byContradiction
              intro hne
              exact hnew ⟨y % 16, by omega, by rw [show n * 16 + y % 16 = y by omega]; exact hne, by rw [show n * 16 + y % 16 = y by omega]; exact hgy⟩
            have h1 := b3 y hy h0 d hd x hx hns
            omega
    · have hm' : more = false := by cases more with
        | false => rfl
        | true => exact absurd rfl hm
      refine Or.inl ⟨hm', fun y hy hgy e he => ?_⟩
      exact b3 y hy (b4 hm' y hy hgy) e he
/-- a level's sweeps are through: also when seventeen were made -/
theorem bp_L2 {K : Nat → Int32} {qb : Bool} {Sd : Nat → Prop} {m : Nat} {gt g : Nat → Nat} {k : Nat} {more : Bool} (h : bp_L K qb Sd m gt g k more) (hx : 17 ≤ k ∨ more = false) :
    bp_Chg m gt g ∧ bp_So K qb Sd m g ∧ ∀ y, y < 2192 → g y = m + 1 → ∀ e, e < 4 → bp_Ex K qb m g y e := by
  obtain ⟨a1, a2, a3⟩ := h
  refine ⟨a1, a2, ?_⟩
  rcases a3 with ⟨_, z⟩ | ⟨z, hk, _⟩
  · exact z
  · rcases hx with hx | hx
    · omega
    · rw [z] at hx; exact Bool.noConfusion hx
/-- the head of level m of the reference's search -/
def bp_U (K : Nat → Int32) (qb : Bool) (Sd : Nat → Prop) (m : Nat) (g : Nat → Nat) : Prop :=
  (∀ y, y < 2192 → g y ≠ 0 → g y ≤ m + 1 ∧ bp_R K qb Sd (g y - 1) (bp_ga y)) ∧
  (∀ y, y < 2192 → 0 < g y → g y ≤ m → ¬ bp_D K (bp_tab (y / 16)) ∧ ∀ d z, d < 4 → z < 2192 → bp_ns K (bp_ga y) d = some (bp_ga z) → 0 < g z ∧ g z ≤ g y + bp_w qb (bp_ga y) (bp_ga z)) ∧
  (∀ N, Sd N → ∃ y, y < 2192 ∧ bp_ga y = N ∧ g y = 1) ∧
  m ≤ bp_cnt (fun y => decide (0 < g y ∧ g y ≤ m)) 2192 ∧
  (m = 0 ∨ ∃ y, y < 2192 ∧ g y = m + 1)
theorem bp_USo {K : Nat → Int32} {qb : Bool} {Sd : Nat → Prop} {m : Nat} {g : Nat → Nat} (h : bp_U K qb Sd m g) : bp_So K qb Sd m g :=
  fun y hy hne => ⟨by have := (h.1 y hy hne).1; omega, (h.1 y hy hne).2⟩
/-- what is come to with cost at most m is labelled with no more, once level m is swept -/
theorem bp_Uc {K : Nat → Int32} {qb : Bool} {Sd : Nat → Prop} (hS : ∀ N, Sd N → bp_VN N) {m : Nat} {g : Nat → Nat}
    (h0 : ∀ N, Sd N → ∃ y, y < 2192 ∧ bp_ga y = N ∧ g y = 1)
    (hcl : ∀ y, y < 2192 → 0 < g y → g y ≤ m + 1 → ∀ d z, d < 4 → z < 2192 → bp_ns K (bp_ga y) d = some (bp_ga z) → 0 < g z ∧ g z ≤ g y + bp_w qb (bp_ga y) (bp_ga z)) :
    ∀ j N, bp_R K qb Sd j N → j ≤ m → ∃ y, y < 2192 ∧ bp_ga y = N ∧ 0 < g y ∧ g y ≤ j + 1 := by
  intro j N hR
  refine bp_Ri (K := K) (q := qb) (Sd := Sd) (fun j N => j ≤ m → ∃ y, y < 2192 ∧ bp_ga y = N ∧ 0 < g y ∧ g y ≤ j + 1) ?_ ?_ hR
  · intro N hN _
    obtain ⟨y, h1, h2, h3⟩ := h0 N hN
    exact ⟨y, h1, h2, by omega, by omega⟩
  · intro j M d M' hRj hQ hd hs hle
    obtain ⟨y, h1, h2, h3, h4⟩ := hQ (by omega)
    obtain ⟨z, z1, z2⟩ := bp_gaS (bp_VNs (bp_RV hS hRj) hd hs)
    subst h2 z2
    have := hcl y h1 h3 (by omega) d z hd z1 hs
    exact ⟨z, z1, rfl, by omega, by omega⟩
/-- level m is swept: a store that is done is at level m, or none is, and the next level is empty, or it isn't -/
theorem bp_Uyes {K : Nat → Int32} {qb : Bool} {Sd : Nat → Prop} (hS : ∀ N, Sd N → bp_VN N) {m : Nat} {gt g : Nat → Nat} (hm : m < 4624) (h : bp_U K qb Sd m gt)
    (h1 : bp_Chg m gt g) (h2 : bp_So K qb Sd m g) (h3 : ∀ y, y < 2192 → g y = m + 1 → ∀ e, e < 4 → bp_Ex K qb m g y e)
    {y : Nat} (hy : y < 2192) (hg : g y = m + 1) (hD : bp_D K (bp_tab (y / 16))) : bp_A K qb Sd (nI m) := by
  obtain ⟨u1, u2, u3, u4, u5⟩ := h
  have hR := (h2 y hy (by omega)).2
  rw [hg] at hR
  refine Or.inl ⟨m, by omega, rfl, ⟨bp_ga y, hR, by rw [(bp_gaD y).1]; exact hD⟩, ?_⟩
  intro j N hj hRj
  have hcl : ∀ y, y < 2192 → 0 < g y → g y ≤ m + 1 → ∀ d z, d < 4 → z < 2192 → bp_ns K (bp_ga y) d = some (bp_ga z) → 0 < g z ∧ g z ≤ g y + bp_w qb (bp_ga y) (bp_ga z) := by
    intro y hy g0 g1 d z hd hz hs
    by_cases e : g y = m + 1
    · have := h3 y hy e d hd z hz hs
      omega
    · have c1 := h1 y hy
      have := (u2 y hy (by omega) (by omega)).2 d z hd hz hs
      have c2 := h1 z hz
      omega
  have h0 : ∀ N, Sd N → ∃ y, y < 2192 ∧ bp_ga y = N ∧ g y = 1 := by
    intro N hN
    obtain ⟨y, y1, y2, y3⟩ := u3 N hN
    have := h1 y y1
    exact ⟨y, y1, y2, by omega⟩
  obtain ⟨x, x1, x2, x3, x4⟩ := bp_Uc hS h0 hcl j N hRj (by omega)
  have c1 := h1 x x1
  rw [← x2, (bp_gaD x).1]
  have e : g x = gt x := by omega
  exact (u2 x x1 (by omega) (by omega)).1
theorem bp_Uno {K : Nat → Int32} {qb : Bool} {Sd : Nat → Prop} (hS : ∀ N, Sd N → bp_VN N) {m : Nat} {gt g : Nat → Nat} (h : bp_U K qb Sd m gt)
    (h1 : bp_Chg m gt g) (h2 : bp_So K qb Sd m g) (h3 : ∀ y, y < 2192 → g y = m + 1 → ∀ e, e < 4 → bp_Ex K qb m g y e)
    (hD : ∀ y, y < 2192 → g y = m + 1 → ¬ bp_D K (bp_tab (y / 16))) (hE : ∀ y, y < 2192 → g y ≠ m + 2) : bp_A K qb Sd (-6) := by
  obtain ⟨u1, u2, u3, u4, u5⟩ := h
  refine Or.inr ⟨rfl, fun j N hR => ?_⟩
  have hh : ∃ y, y < 2192 ∧ bp_ga y = N ∧ 0 < g y := by
    refine bp_Ri (K := K) (q := qb) (Sd := Sd) (fun _ N => ∃ y, y < 2192 ∧ bp_ga y = N ∧ 0 < g y) ?_ ?_ hR
    · intro N hN
      obtain ⟨y, y1, y2, y3⟩ := u3 N hN
      have := h1 y y1
      exact ⟨y, y1, y2, by omega⟩
    · intro j M d M' hRj hQ hd hs
      obtain ⟨y, y1, y2, y3⟩ := hQ
      obtain ⟨z, z1, z2⟩ := bp_gaS (bp_VNs (bp_RV hS hRj) hd hs)
      subst y2 z2
      refine ⟨z, z1, rfl, ?_⟩
      have hl := (h2 y y1 (by omega)).1
      have hne := hE y y1
      by_cases e : g y = m + 1
      · exact (h3 y y1 e d hd z z1 hs).1
      · have c1 := h1 y y1
        have c2 := h1 z z1
        have := (u2 y y1 (by omega) (by omega)).2 d z hd z1 hs
        omega
  obtain ⟨y, y1, y2, y3⟩ := hh
  rw [← y2, (bp_gaD y).1]
  have hl := (h2 y y1 (by omega)).1
  have hne := hE y y1
  by_cases e : g y = m + 1
  · exact hD y y1 e
  · have c1 := h1 y y1
    exact (u2 y y1 (by omega) (by omega)).1
theorem bp_Unext {K : Nat → Int32} {qb : Bool} {Sd : Nat → Prop} {m : Nat} {gt g : Nat → Nat} (h : bp_U K qb Sd m gt)
    (h1 : bp_Chg m gt g) (h2 : bp_So K qb Sd m g) (h3 : ∀ y, y < 2192 → g y = m + 1 → ∀ e, e < 4 → bp_Ex K qb m g y e)
    (hD : ∀ y, y < 2192 → g y = m + 1 → ¬ bp_D K (bp_tab (y / 16))) (hE : ∃ y, y < 2192 ∧ g y = m + 2) : bp_U K qb Sd (m + 1) g := by
  obtain ⟨u1, u2, u3, u4, u5⟩ := h
  have h0 : ∀ N, Sd N → ∃ y, y < 2192 ∧ bp_ga y = N ∧ g y = 1 := by
    intro N hN
    obtain ⟨y, y1, y2, y3⟩ := u3 N hN
    have := h1 y y1
    exact ⟨y, y1, y2, by omega⟩
  refine ⟨?_, ?_, h0, ?_, Or.inr hE⟩
  · intro y hy hne
    exact h2 y hy hne
  · intro y hy g0 g1
    by_cases e : g y = m + 1
    · refine ⟨hD y hy e, fun d z hd hz hs => ?_⟩
      have := h3 y hy e d hd z hz hs
      omega
    · have c1 := h1 y hy
      have e2 : g y = gt y := by omega
      obtain ⟨v1, v2⟩ := u2 y hy (by omega) (by omega)
      refine ⟨v1, fun d z hd hz hs => ?_⟩
      have := v2 d z hd hz hs
      have c2 := h1 z hz
      omega
  · have hex : ∃ y, y < 2192 ∧ gt y = m + 1 := by
      rcases u5 with e | e
      · obtain ⟨y, y1, y2⟩ := hE
        obtain ⟨N, hN⟩ := bp_RS (h2 y y1 (by omega)).2
        obtain ⟨x, x1, _, x3⟩ := u3 N hN
        exact ⟨x, x1, by omega⟩
      · exact e
    obtain ⟨y, y1, y2⟩ := hex
    have c1 := h1 y y1
    refine Nat.le_trans (Nat.succ_le_succ u4) (bp_cstr (fun i hi hgi => ?_) ⟨y, y1, decide_eq_false (by omega), decide_eq_true (by omega)⟩)
    apply decide_eq_true
    have g1 := of_decide_eq_true hgi
    have c2 := h1 i hi
    omega
/-- there are no 1921 levels -/
theorem bp_Ubig {K : Nat → Int32} {qb : Bool} {Sd : Nat → Prop} (hS : ∀ N, Sd N → bp_VN N) {m : Nat} {g : Nat → Nat} (h : bp_U K qb Sd m g) : m ≤ 1920 := by
  obtain ⟨u1, u2, u3, u4, u5⟩ := h
  refine Nat.le_trans u4 (Nat.le_trans (bp_cmono (fun i hi hgi => ?_)) (Nat.le_of_eq bp_cntN))
  have g1 := of_decide_eq_true hgi
  apply decide_eq_true
  refine ⟨fun e => ?_, ?_⟩
  · apply (u2 i hi g1.1 g1.2).1
    rw [e]
    intro c hc hh
    have : (0 : Nat) / 2 ^ c % 2 = 1 := hh
    rw [Nat.zero_div] at this
    exact absurd this (by decide)
  · obtain ⟨x, hx, e⟩ := bp_RV hS (u1 i hi (by omega)).2
    obtain ⟨a1, a2⟩ := bp_gaD i
    obtain ⟨b1, b2⟩ := bp_ndD hx
    obtain ⟨hp, ha, hb, hab, hpa, hpb⟩ := hx.2
    rw [e, a2] at b1
    rw [e, a1] at b2
    rw [b2]
    intro hh
    have := (bp_bmH _ ha _ hb (i % 16) (by omega) hab).mp hh
    omega
/-- a search of the reference begins -/
theorem bp_U0 {K : Nat → Int32} {qb : Bool} {Sd : Nat → Prop} {g : Nat → Nat} (h1 : ∀ N, Sd N → ∃ y, y < 2192 ∧ bp_ga y = N ∧ g y = 1) (h2 : ∀ y, y < 2192 → g y = 0 ∨ (g y = 1 ∧ Sd (bp_ga y))) : bp_U K qb Sd 0 g := by
  refine ⟨fun y hy hne => ?_, fun y hy g0 g1 => by omega, h1, Nat.zero_le _, Or.inl rfl⟩
  rcases h2 y hy with e | ⟨e, hs⟩
  · exact absurd e hne
  · refine ⟨by omega, ?_⟩
    rw [e]
    exact bp_R0 hs
end
section
/-! cells come to without pushing; taking a move back -/
def bp_S1 (N : Nat) : Nat → Prop := fun M => M = N
theorem bp_S1V {x : Nat} (hx : bp_V x) : ∀ N, bp_S1 (bp_nd x) N → bp_VN N := fun _ h => ⟨x, hx, Eq.symm h⟩
/-- the number of found states, all of them of one pair of boxes, by the cells -/
theorem bp_regX {seen queue : Nat → Int32} {q : Nat → Nat} {f B : Nat} (h : bp_Rep seen queue q f) (hq : ∀ i, i < f → q i / 16 = B) (hB : B < 289) : f = bp_cnt (fun c => decide (seen (B * 16 + c) = 1)) 16 := by
  have h3 := h.2.2
  have hz : ∀ s, s < 4624 → s / 16 ≠ B → decide (seen s = 1) = false := by
    intro s hs hne
    apply decide_eq_false
    intro e
    rcases h.2.1 s hs with ⟨_, i, hi, hqi⟩ | ⟨e0, _⟩
    · apply hne; rw [← hqi]; exact hq i hi
    · rw [e0] at e; exact absurd e (by decide)
  have e1 : 4624 = B * 16 + (16 + (4624 - B * 16 - 16)) := by omega
  rw [e1, bp_cadd, bp_cadd] at h3
  rw [bp_czero (n := B * 16) (fun i hi => hz i (by omega) (by omega))] at h3
  rw [bp_czero (n := 4624 - B * 16 - 16) (fun i hi => hz _ (by omega) (by omega))] at h3
  rw [Nat.zero_add, Nat.add_zero] at h3
  exact h3.symm
/-- what costs nothing from a valid node: a walk -/
theorem bp_walk {K : Nat → Int32} {N d M : Nat} (h : bp_VN N) (hd : d < 4) (hs : bp_ns K N d = some M) (hw : bp_w true N M = 0) : M = N / 16 * 16 + bp_nb (N % 16) d ∧ bp_op K (bp_nb (N % 16) d) ∧ ¬ bp_has (N / 16) (bp_nb (N % 16) d) := by
  obtain ⟨x, hx, rfl⟩ := h
  obtain ⟨d1, d2⟩ := bp_ndD hx
  have hq := (bp_wq0 hw).2
  rcases bp_comm K hx hd with ⟨_, h2⟩ | ⟨t, h1, h2, h3, h4, h5, h6⟩
  · rw [hs] at h2; cases h2
  · rw [hs] at h2
    have e := Option.some.inj h2
    subst e
    obtain ⟨t1, t2⟩ := bp_ndD h3
    rcases h6 with ⟨_, _, c⟩ | ⟨_, b, _⟩
    · rw [d1, ← h4]
      refine ⟨?_, h5, c⟩
      rw [hq]
      have : bp_nd t % 16 = t % 16 := t1
      omega
    · exact absurd hq b
theorem bp_walkI {K : Nat → Int32} {m c d : Nat} (hc : c < 16) (h1 : bp_op K (bp_nb c d)) (h2 : ¬ bp_has m (bp_nb c d)) : bp_ns K (m * 16 + c) d = some (m * 16 + bp_nb c d) ∧ bp_w true (m * 16 + c) (m * 16 + bp_nb c d) = 0 := by
  have e1 : (m * 16 + c) % 16 = c := by omega
  have e2 : (m * 16 + c) / 16 = m := by omega
  have hlt := h1.1
  have e3 : (m * 16 + bp_nb c d) / 16 = m := by omega
  refine ⟨?_, bp_wt0 (by rw [e2, e3])⟩
  unfold bp_ns
  rw [e1, e2]
  unfold bp_ns2
  rw [if_pos h1, if_pos h2]
/-- the reference's set w of cells: closed -/
def bp_Wc (K : Nat → Int32) (m w : Nat) : Prop := ∀ c d, c < 16 → d < 4 → bp_has w c → bp_op K (bp_nb c d) → ¬ bp_has m (bp_nb c d) → bp_has w (bp_nb c d)
theorem bp_Wfull {K : Nat → Int32} {m p w : Nat} (hp : p < 16) (hV : bp_VN (m * 16 + p)) (h0 : bp_has w p) (hc : bp_Wc K m w) : ∀ c, c < 16 → bp_R K true (bp_S1 (m * 16 + p)) 0 (m * 16 + c) → bp_has w c := by
  intro c hc16 hR
  have key : ∀ j N, bp_R K true (bp_S1 (m * 16 + p)) j N → j = 0 → N / 16 = m ∧ bp_has w (N % 16) := by
    intro j N hR
    refine bp_Ri (K := K) (q := true) (Sd := bp_S1 (m * 16 + p)) (fun j N => j = 0 → N / 16 = m ∧ bp_has w (N % 16)) ?_ ?_ hR
    · intro N hN _
      have e : N = m * 16 + p := hN
      rw [e, show (m * 16 + p) / 16 = m by omega, show (m * 16 + p) % 16 = p by omega]
      exact ⟨rfl, h0⟩
    · intro j M d M' hRj hQ hd hs hle
      have hw0 : bp_w true M M' = 0 := by omega
      obtain ⟨q1, q2⟩ := hQ (by omega)
      have hVM : bp_VN M := bp_RV (fun N hN => by have e : N = m * 16 + p := hN; rw [e]; exact hV) hRj
      obtain ⟨a1, a2, a3⟩ := bp_walk hVM hd hs hw0
      rw [q1] at a1 a3
      have hlt := a2.1
      rw [a1, show (m * 16 + bp_nb (M % 16) d) / 16 = m by omega, show (m * 16 + bp_nb (M % 16) d) % 16 = bp_nb (M % 16) d by omega]
      exact ⟨rfl, hc (M % 16) d (by omega) hd q2 a2 a3⟩
  have := (key 0 _ hR rfl).2
  rw [show (m * 16 + c) % 16 = c by omega] at this
  exact this
/-- bits of sums -/
theorem bp_hasOr (a b c : Nat) : bp_has (a ||| b) c ↔ (bp_has a c ∨ bp_has b c) := by
  have h : ∀ x : Nat, bp_has x c ↔ x.testBit c = true := by
    intro x
    rw [Nat.testBit_eq_decide_div_mod_eq, decide_eq_true_iff]
  rw [h, h, h, Nat.testBit_or, Bool.or_eq_true]
theorem bp_hasP : ∀ a, a < 16 → ∀ c, c < 16 → (bp_has (2 ^ a) c ↔ c = a) := by decide +kernel
theorem bp_has0 (c : Nat) : ¬ bp_has 0 c := by
  intro h
  have : (0 : Nat) / 2 ^ c % 2 = 1 := h
  rw [Nat.zero_div] at this
  exact absurd this (by decide)
theorem bp_hasLe {m c : Nat} (h : bp_has m c) : 2 ^ c ≤ m := by
  rcases Nat.lt_or_ge m (2 ^ c) with z | z
  · have e : m / 2 ^ c = 0 := Nat.div_eq_of_lt z
    have h' : m / 2 ^ c % 2 = 1 := h
    rw [e] at h'
    exact absurd h' (by decide)
  · exact z
/-- a move taken back -/
theorem bp_back {K : Nat → Int32} {x d t : Nat} (hx : bp_V x) (hd : d < 4) (ho : bp_op K (x % 16)) (hs : bp_step K x d = some t) :
    bp_V t ∧ bp_op K (t % 16) ∧ bp_nb (t % 16) (d ^^^ 1) = x % 16 ∧ d ^^^ 1 < 4 ∧
    ((x / 16 = t / 16 ∧ bp_nd x / 16 = bp_nd t / 16) ∨
     (x / 16 ≠ t / 16 ∧ bp_op K (bp_nb (t % 16) d) ∧ bp_has (bp_nd t / 16) (bp_nb (t % 16) d) ∧ ¬ bp_has (bp_nd t / 16) (t % 16) ∧ bp_nd x / 16 = bp_nd t / 16 - 2 ^ (bp_nb (t % 16) d) + 2 ^ (t % 16))) := by
  obtain ⟨n1, n2, n3, n4⟩ := bp_nbL (x % 16) (by omega) d hd
  rcases bp_comm K hx hd with ⟨h1, _⟩ | ⟨t', h1, h2, h3, h4, h5, h6⟩
  · rw [hs] at h1; cases h1
  · rw [hs] at h1
    have e := Option.some.inj h1
    subst e
    obtain ⟨t1, t2⟩ := bp_ndD h3
    obtain ⟨v1, v2, v3, v4, v5, v6⟩ := h3.2
    refine ⟨h3, h5, ?_, n4, ?_⟩
    · rw [h4]; exact n3 (by rw [← h4]; exact h5.1)
    · rcases h6 with ⟨a, b, _⟩ | ⟨a, b, c1, c2, c3, c4, c5⟩
      · exact Or.inl ⟨a, b⟩
      · refine Or.inr ⟨a, c2, c5, ?_, ?_⟩
        · rw [t2]
          intro z
          have := (bp_bmH _ v2 _ v3 (t % 16) v1 v4).mp z
          omega
        · have hle := bp_hasLe c1
          omega
end
section
/-! numbers of the two classes as Int32 -/
theorem bi_p16 {s : Nat} (h : s < 2 ^ 31) : nI s - nI s / 16 * 16 = nI (s % 16) := pk_rem (d := 16) h (by decide) (by decide)
theorem bi_p4 {s : Nat} (h : s < 2 ^ 31) : nI s - nI s / 4 * 4 = nI (s % 4) := pk_rem (d := 4) h (by decide) (by decide)
theorem bi_p17 {s : Nat} (h : s < 2 ^ 31) : nI s - nI s / 17 * 17 = nI (s % 17) := pk_rem (d := 17) h (by decide) (by decide)
theorem bi_d16 {s : Nat} (h : s < 2 ^ 31) : nI s / 16 = nI (s / 16) := pk_div (d := 16) h (by decide) (by decide)
theorem bi_d17 {s : Nat} (h : s < 2 ^ 31) : nI s / 17 = nI (s / 17) := pk_div (d := 17) h (by decide) (by decide)
theorem bi_d4 {s : Nat} (h : s < 2 ^ 31) : nI s / 4 = nI (s / 4) := pk_div (d := 4) h (by decide) (by decide)
theorem bi_enc (p a b : Nat) : (nI a * 17 + nI b) * 16 + nI p = nI (bp_enc p a b) := by
  unfold bp_enc
  rw [← nI_add, ← pk_mul, ← nI_add, ← pk_mul]
  rfl
theorem bi_enc16 (p a b : Nat) : (nI a * 17 + nI b) * 16 + nI p = nI ((a * 17 + b) * 16 + p) := bi_enc p a b
theorem bi_or (a b : Nat) : nI a ||| nI b = nI (a ||| b) := by
  apply Int32.toBitVec_inj.1
  show BitVec.ofNat 32 a ||| BitVec.ofNat 32 b = BitVec.ofNat 32 (a ||| b)
  apply BitVec.eq_of_getLsbD_eq
  intro i hi
  simp [hi]
theorem bi_shl : ∀ c, c < 16 → (1 : Int32) <<< (nI c &&& 31) = nI (2 ^ c) := by decide +kernel
theorem bi_has {m c : Nat} (hm : m < 65536) (hc : c < 16) : (nI m >>> (nI c &&& 31)) &&& 1 = nI (m / 2 ^ c % 2) := by
  rw [pk_shrN (by omega) _ c (s_l c (by omega))]
  have h : m / 2 ^ c < 2 ^ 32 := Nat.lt_of_le_of_lt (Nat.div_le_self _ _) (by omega)
  exact pk_andN h 1 (by decide)
theorem bi_mv : ∀ a, a < 16 → ∀ b, b < 17 → ∀ h, h < 16 → a ≠ b → h ≠ b → (nI (bp_bm a b) &&& (((1 : Int32) <<< (nI a &&& 31)) ^^^ (-1))) ||| ((1 : Int32) <<< (nI h &&& 31)) = nI (bp_bm h b) := fun a ha b hb h hh =>
  of_decide_eq_true (bp_all3 (A := 16) (B := 17) (C := 16) (p := fun a b h => decide (a ≠ b → h ≠ b → (nI (bp_bm a b) &&& (((1 : Int32) <<< (nI a &&& 31)) ^^^ (-1))) ||| ((1 : Int32) <<< (nI h &&& 31)) = nI (bp_bm h b))) (by decide +kernel) a ha b hb h hh)
theorem bi_put : ∀ a, a < 16 → nI 0 ||| ((1 : Int32) <<< (nI a &&& 31)) = nI (bp_bm a 16) := by decide +kernel
theorem bi_put2 : ∀ a, a < 16 → ∀ b, b < 16 → a ≠ b → nI (bp_bm a 16) ||| ((1 : Int32) <<< (nI b &&& 31)) = nI (bp_bm a b) := by decide +kernel
theorem bi_take : ∀ a, a < 16 → ∀ b, b < 17 → a ≠ b → nI (bp_bm a b) &&& (((1 : Int32) <<< (nI a &&& 31)) ^^^ (-1)) = nI (bp_bm 16 b) := by decide +kernel
/-- a box moved on in a valid set, or moved back -/
theorem bi_mvN {a b c h : Nat} (ha : a < 17) (hb : b < 17) (hab : a = b → a = 16) (hc : c < 16) (hh : h < 16) (h1 : bp_has (bp_bm a b) c) (h2 : ¬ bp_has (bp_bm a b) h) :
    (nI (bp_bm a b) &&& (((1 : Int32) <<< (nI c &&& 31)) ^^^ (-1))) ||| ((1 : Int32) <<< (nI h &&& 31)) = nI (bp_bm a b - 2 ^ c + 2 ^ h) := by
  have g1 := (bp_bmH a ha b hb c hc hab).mp h1
  have g2 : ¬ (h = a ∨ h = b) := fun z => h2 ((bp_bmH a ha b hb h hh hab).mpr z)
  rcases g1 with g1 | g1
  · subst g1
    rw [bp_bmM c hc b hb h hh (by omega) (by omega)]
    exact bi_mv c hc b hb h hh (by omega) (by omega)
  · subst g1
    rw [bp_bmC a c, bp_bmM c hc a ha h hh (by omega) (by omega)]
    exact bi_mv c hc a ha h hh (by omega) (by omega)
/-- labels as the reference's level numbers -/
def bi_lv (n : Nat) : Int32 := nI n - 1
theorem bi_lv0 : bi_lv 0 = -1 := by decide +kernel
theorem bi_lvS (n : Nat) : bi_lv (n + 1) = nI n := nI_pred n
theorem bi_lvT {n : Nat} (h : n < 2 ^ 30) : (bi_lv n).toInt = (n : Int) - 1 := pk_sub_toInt (b := 1) h (by decide)
theorem bi_lvE {n m : Nat} (h : n < 2 ^ 30) (hm : m < 2 ^ 30) : bi_lv n = nI m ↔ n = m + 1 := by
  rw [← Int32.toInt_inj, bi_lvT h, nI_toInt (by omega)]
  omega
theorem bi_lvL {n m : Nat} (h : n < 2 ^ 30) (hm : m < 2 ^ 30) : bi_lv n ≤ nI m ↔ n ≤ m + 1 := by
  rw [Int32.le_iff_toInt_le, bi_lvT h, nI_toInt (by omega)]
  omega
theorem bi_lvN {n : Nat} (h : n < 2 ^ 30) : bi_lv n < 0 ↔ n = 0 := by
  rw [Int32.lt_iff_toInt_lt, bi_lvT h, show (0 : Int32).toInt = 0 from by decide]
  omega
theorem bi_lvP {n : Nat} (h : n < 2 ^ 30) : 0 ≤ bi_lv n ↔ 0 < n := by
  rw [Int32.le_iff_toInt_le, bi_lvT h, show (0 : Int32).toInt = 0 from by decide]
  omega
def bp_Lev (lev : Nat → Int32) (g : Nat → Nat) : Prop := ∀ y, y < 2192 → lev y = bi_lv (g y) ∧ g y ≤ 4000
end
section
/-! the row of moves that can be taken back, on both sides -/
def bz_ps (x t : Nat) : Nat := if x / 16 = t / 16 then 0 else 1
def bz_Kp (K kS kD mv : Nat → Int32) (n x : Nat) : Prop :=
  ∃ xs ds : Nat → Nat, xs n = x ∧ ∀ i, i < n → ds i < 4 ∧ bp_V (xs i) ∧ bp_op K (xs i % 16) ∧ bp_step K (xs i) (ds i) = some (xs (i + 1)) ∧
    kS i = nI (xs i) ∧ kD i = nI (ds i) ∧ mv i = nI (ds i + 4 * bz_ps (xs i) (xs (i + 1)))
theorem bz_K0 {K kS kD mv : Nat → Int32} {x : Nat} : bz_Kp K kS kD mv 0 x := ⟨fun _ => x, fun _ => 0, rfl, fun i hi => by omega⟩
theorem bz_Kpush {K kS kD mv : Nat → Int32} {n x d t : Nat} (h : bz_Kp K kS kD mv n x) (hd : d < 4) (hx : bp_V x) (ho : bp_op K (x % 16)) (hs : bp_step K x d = some t) :
    bz_Kp K (upd kS n (nI x)) (upd kD n (nI d)) (upd mv n (nI (d + 4 * bz_ps x t))) (n + 1) t := by
  obtain ⟨xs, ds, e, h⟩ := h
  refine ⟨fun i => if i = n + 1 then t else xs i, fun i => if i = n then d else ds i, if_pos rfl, fun i hi => ?_⟩
  have a1 : (if i = n + 1 then t else xs i) = xs i := if_neg (by omega)
  show (if i = n then d else ds i) < 4 ∧ bp_V (if i = n + 1 then t else xs i) ∧ bp_op K ((if i = n + 1 then t else xs i) % 16) ∧ bp_step K (if i = n + 1 then t else xs i) (if i = n then d else ds i) = some (if i + 1 = n + 1 then t else xs (i + 1)) ∧
    upd kS n (nI x) i = nI (if i = n + 1 then t else xs i) ∧ upd kD n (nI d) i = nI (if i = n then d else ds i) ∧ upd mv n (nI (d + 4 * bz_ps x t)) i = nI ((if i = n then d else ds i) + 4 * bz_ps (if i = n + 1 then t else xs i) (if i + 1 = n + 1 then t else xs (i + 1)))
  rw [a1]
  by_cases z : i = n
  · have a2 : (if i = n then d else ds i) = d := if_pos z
    have a3 : (if i + 1 = n + 1 then t else xs (i + 1)) = t := if_pos (by omega)
    rw [a2, a3, z, e]
    exact ⟨hd, hx, ho, hs, pk_us, pk_us, pk_us⟩
  · have a2 : (if i = n then d else ds i) = ds i := if_neg z
    have a3 : (if i + 1 = n + 1 then t else xs (i + 1)) = xs (i + 1) := if_neg (by omega)
    rw [a2, a3, pk_un z, pk_un z, pk_un z]
    exact h i (by omega)
theorem bz_Kshift {K kS kD mv kS' kD' mv' : Nat → Int32} {n x : Nat} (h : bz_Kp K kS kD mv (n + 1) x) (h1 : ∀ j, j < n → kS' j = kS (j + 1)) (h2 : ∀ j, j < n → kD' j = kD (j + 1)) (h3 : ∀ j, j < n → mv' j = mv (j + 1)) : bz_Kp K kS' kD' mv' n x := by
  obtain ⟨xs, ds, e, h⟩ := h
  refine ⟨fun i => xs (i + 1), fun i => ds (i + 1), e, fun i hi => ?_⟩
  rw [h1 i hi, h2 i hi, h3 i hi]
  exact h (i + 1) (by omega)
theorem bz_Kpop {K kS kD mv : Nat → Int32} {n x : Nat} (h : bz_Kp K kS kD mv (n + 1) x) : ∃ y d, d < 4 ∧ bp_V y ∧ bp_op K (y % 16) ∧ bp_step K y d = some x ∧ kS n = nI y ∧ kD n = nI d ∧ mv n = nI (d + 4 * bz_ps y x) ∧ bz_Kp K kS kD mv n y := by
  obtain ⟨xs, ds, e, h⟩ := h
  have h1 := h n (by omega)
  rw [e] at h1
  exact ⟨xs n, ds n, h1.1, h1.2.1, h1.2.2.1, h1.2.2.2.1, h1.2.2.2.2.1, h1.2.2.2.2.2.1, h1.2.2.2.2.2.2, xs, ds, rfl, fun i hi => h i (by omega)⟩
end
section
/-! the class's small methods -/
section
variable {st pc kp fd : Int32} {K kD kS se qu : Nat → Int32}
theorem wx_stateOf {post : Int32 → Prop} {p a b : Nat} (h : post (nI (bp_enc p a b))) : wpX_stateOf post (nI p) (nI a) (nI b) := by
  unfold wpX_stateOf
  rw [bi_enc]
  exact h
theorem wx_isCell {post : Int32 → Prop} {c : Nat} (hc : c < 2 ^ 31) (h1 : c < 16 → post 1) (h0 : 16 ≤ c → post 0) : wpX_isCell post (nI c) :=
  br_f (nI_pos hc) (pk_le 16 c (fun z => h0 z) (fun z => h1 z))
theorem wx_isCellN {post : Int32 → Prop} {x : Int32} (hx : x < 0 ∨ nI 16 ≤ x) (h0 : post 0) : wpX_isCell post x := by
  unfold wpX_isCell
  by_cases z : x < 0
  · exact br_t z h0
  · exact br_f z (br_t (hx.resolve_left z) h0)
theorem wx_first {post : Int32 → Prop} {s : Nat} (hs : s < 2 ^ 31) (h : post (nI (s / 16 / 17))) : wpX_firstBoxOf post (nI s) := by
  refine ⟨by decide, by decide, ?_⟩
  rw [bi_d16 hs, bi_d17 (by omega)]
  exact h
theorem wx_second {post : Int32 → Prop} {s : Nat} (hs : s < 2 ^ 31) (h : post (nI (s / 16 % 17))) : wpX_secondBoxOf post (nI s) := by
  refine ⟨by decide, by decide, ?_⟩
  rw [bi_d16 hs, bi_p17 (by omega)]
  exact h
theorem wx_pusherOf {post : Int32 → Prop} {s : Nat} (hs : s < 2 ^ 31) (h : post (nI (s % 16))) : wpX_pusherOf post (nI s) := by
  refine ⟨by decide, ?_⟩
  rw [bi_p16 hs]
  exact h
theorem wx_isBoxOn {post : Int32 → Prop} {s c : Nat} (hs : s < 4624) (hc : c < 2 ^ 31) (h1 : (c = s / 16 / 17 ∨ c = s / 16 % 17) → post 1) (h0 : ¬ (c = s / 16 / 17 ∨ c = s / 16 % 17) → post 0) : wpX_isBoxOn post (nI s, pc, kp, fd, K, kD, kS, se, qu) (nI c) := by
  unfold wpX_isBoxOn
  dsimp only
  refine wx_first (by omega) ?_
  refine pk_eq (s / 16 / 17) c (fun z => h1 (Or.inl z.symm)) (fun z => ?_)
  refine wx_second (by omega) ?_
  exact pk_eq (s / 16 % 17) c (fun y => h1 (Or.inr y.symm)) (fun y => h0 (by omega))
theorem bp_nb0 (c : Nat) : bp_nb c 0 = if c < 4 then 16 else c - 4 := rfl
theorem bp_nb1 (c : Nat) : bp_nb c 1 = if c < 12 then c + 4 else 16 := rfl
theorem bp_nb2 (c : Nat) : bp_nb c 2 = if c % 4 = 0 then 16 else c - 1 := rfl
theorem bp_nb3 (c : Nat) : bp_nb c 3 = if c % 4 = 3 then 16 else c + 1 := rfl
theorem wx_neighbour {post : Int32 → Prop} {c d : Nat} (hc : c < 16) (hd : d < 4) (h : post (nI (bp_nb c d))) : wpX_neighbour post (nI c) (nI d) := by
  refine ⟨by decide, nm_r (bi_d4 (by omega)) ⟨by decide, nm_r (bi_p4 (by omega)) ?_⟩⟩
  refine pk_eq d 0 (fun z => pk_le (c / 4) 0 (fun y => ?_) (fun y => ?_)) (fun z0 => pk_eq d 1 (fun z => pk_le 3 (c / 4) (fun y => ?_) (fun y => ?_)) (fun z1 => pk_eq d 2 (fun z => pk_le (c % 4) 0 (fun y => ?_) (fun y => ?_)) (fun z2 => pk_le 3 (c % 4) (fun y => ?_) (fun y => ?_))))
  · rw [z, bp_nb0, if_pos (by omega)] at h; exact h
  · rw [z, bp_nb0, if_neg (by omega)] at h
    have e : nI c - 4 = nI (c - 4) := pk_sub (b := 4) (by omega)
    rw [e]; exact h
  · rw [z, bp_nb1, if_neg (by omega)] at h; exact h
  · rw [z, bp_nb1, if_pos (by omega)] at h
    have e : nI c + 4 = nI (c + 4) := nI_add c 4
    rw [e]; exact h
  · rw [z, bp_nb2, if_pos (by omega)] at h; exact h
  · rw [z, bp_nb2, if_neg (by omega)] at h
    have e : nI c - 1 = nI (c - 1) := pk_sub (b := 1) (by omega)
    rw [e]; exact h
  · rw [show d = 3 by omega, bp_nb3, if_pos (by omega)] at h; exact h
  · rw [show d = 3 by omega, bp_nb3, if_neg (by omega)] at h
    have e : nI c + 1 = nI (c + 1) := nI_1 c
    rw [e]; exact h
theorem wx_isOpen {post : Int32 → Prop} {c : Nat} (hc : c < 2 ^ 31) (h1 : bp_op K c → post 1) (h0 : ¬ bp_op K c → post 0) : wpX_isOpen post (st, pc, kp, fd, K, kD, kS, se, qu) (nI c) := by
  unfold wpX_isOpen
  dsimp only
  refine br_f (nI_pos hc) (pk_le 16 c (fun z => h0 (fun y => by have := y.1; omega)) (fun z => ⟨vp_in_nI z (by decide), ?_⟩))
  rw [nI_clamp hc]
  exact br_c (fun y => h0 (fun x => x.2 y)) (fun y => h1 ⟨z, y⟩)
theorem wx_stateAfter {post : Int32 → Prop} {s d : Nat} (hV : bp_V s) (hd : d < 4) (h0 : bp_step K s d = none → post (-1)) (h1 : ∀ t, bp_step K s d = some t → post (nI t)) : wpX_stateAfter post (st, pc, kp, fd, K, kD, kS, se, qu) (nI s) (nI d) := by
  have hs : s < 4624 := hV.1
  obtain ⟨n1, n2, n3, n4⟩ := bp_nbL (s % 16) (by omega) d hd
  unfold bp_step bp_st2 at h0 h1
  unfold wpX_stateAfter
  dsimp only
  refine wx_pusherOf (by omega) ?_
  refine wx_first (by omega) ?_
  refine wx_second (by omega) ?_
  refine wx_neighbour (by omega) hd ?_
  refine wx_isOpen (by omega) (fun ho => ?_) (fun ho => ?_)
  · rw [if_pos ho] at h0 h1
    have ht : bp_nb (s % 16) d < 16 := ho.1
    obtain ⟨m1, m2, m3, m4⟩ := bp_nbL _ ht d hd
    refine br_f (by decide) ?_
    have key : ¬ (bp_nb (s % 16) d ≠ s / 16 / 17 ∧ bp_nb (s % 16) d ≠ s / 16 % 17) → wX_stateAfter_59 post (nI d) (nI (s / 16 / 17)) (nI (s / 16 % 17)) (nI (bp_nb (s % 16) d)) st pc kp fd K kD kS se qu := by
      intro hn
      rw [if_neg hn] at h0 h1
      unfold wX_stateAfter_59
      refine wx_neighbour ht hd ?_
      refine wx_isOpen (by omega) (fun hp => ?_) (fun hp => ?_)
      · refine br_f (by decide) ?_
        have he : bp_nb (bp_nb (s % 16) d) d < 16 := hp.1
        refine pk_eq (bp_nb (bp_nb (s % 16) d) d) (s / 16 / 17) (fun z => h0 (if_neg (fun y => y.2.1 z))) (fun z => ?_)
        refine pk_eq (bp_nb (bp_nb (s % 16) d) d) (s / 16 % 17) (fun y => h0 (if_neg (fun x => x.2.2 y))) (fun y => ?_)
        rw [if_pos ⟨hp, z, y⟩] at h1
        refine pk_eq (bp_nb (s % 16) d) (s / 16 / 17) (fun x => ?_) (fun x => ?_)
        · rw [if_pos x] at h1
          exact wx_stateOf (h1 _ rfl)
        · rw [if_neg x] at h1
          exact wx_stateOf (h1 _ rfl)
      · exact br_t rfl (h0 (if_neg (fun y => hp y.1)))
    refine pk_eq (bp_nb (s % 16) d) (s / 16 / 17) (fun z => key (fun y => y.1 z)) (fun z => ?_)
    refine pk_eq (bp_nb (s % 16) d) (s / 16 % 17) (fun y => key (fun x => x.2 y)) (fun y => ?_)
    rw [if_pos ⟨z, y⟩] at h1
    exact wx_stateOf (h1 _ rfl)
  · exact br_t rfl (h0 (if_neg ho))
theorem wx_isPush {post : Int32 → Prop} {s t : Nat} (hs : s < 2 ^ 31) (ht : t < 2 ^ 31) (h0 : s / 16 = t / 16 → post 0) (h1 : s / 16 ≠ t / 16 → post 1) : wpX_isPush post (nI s) (nI t) := by
  refine ⟨by decide, by decide, ?_⟩
  rw [bi_d16 hs, bi_d16 ht]
  exact pk_eq (s / 16) (t / 16) h0 h1
theorem wx_isHome {post : Int32 → Prop} {c : Nat} (hc : c < 2 ^ 31) (h1 : (c < 16 → K c = 2) → post 1) (h0 : ¬ (c < 16 → K c = 2) → post 0) : wpX_isHome post (st, pc, kp, fd, K, kD, kS, se, qu) (nI c) := by
  unfold wpX_isHome
  dsimp only
  refine wx_isCell hc (fun z => br_f (by decide) ⟨vp_in_nI z (by decide), ?_⟩) (fun z => br_t rfl (h1 (fun y => by omega)))
  rw [nI_clamp hc]
  exact br_c (fun y => h1 (fun _ => y)) (fun y => h0 (fun x => y (x z)))
theorem bp_Dnd {K : Nat → Int32} {s : Nat} (hV : bp_V s) : bp_D K (bp_nd s / 16) ↔ ((s / 16 / 17 < 16 → K (s / 16 / 17) = 2) ∧ (s / 16 % 17 < 16 → K (s / 16 % 17) = 2)) := by
  obtain ⟨hp, ha, hb, hab, _⟩ := hV.2
  rw [(bp_ndD hV).2]
  constructor
  · intro h
    exact ⟨fun z => h _ z ((bp_bmH _ ha _ hb _ z hab).mpr (Or.inl rfl)), fun z => h _ z ((bp_bmH _ ha _ hb _ z hab).mpr (Or.inr rfl))⟩
  · intro h c hc hh
    rcases (bp_bmH _ ha _ hb c hc hab).mp hh with z | z
    · subst z; exact h.1 hc
    · subst z; exact h.2 hc
theorem wx_isDone {post : Int32 → Prop} {s : Nat} (hV : bp_V s) (h1 : bp_D K (bp_nd s / 16) → post 1) (h0 : ¬ bp_D K (bp_nd s / 16) → post 0) : wpX_isDone post (st, pc, kp, fd, K, kD, kS, se, qu) (nI s) := by
  have hs : s < 4624 := hV.1
  rw [bp_Dnd hV] at h1 h0
  unfold wpX_isDone
  dsimp only
  refine wx_first (by omega) ?_
  refine wx_second (by omega) ?_
  refine wx_isHome (by omega) (fun z => ?_) (fun z => ?_)
  · refine br_f (by decide) ?_
    refine wx_isHome (by omega) (fun y => ?_) (fun y => ?_)
    · exact br_f (by decide) (h1 ⟨z, y⟩)
    · exact br_t rfl (h0 (fun x => y x.2))
  · exact br_t rfl (h0 (fun x => z x.1))
end
end
section
/-! the class's searches -/
section
variable {st pc kp fd : Int32} {K kD kS se qu : Nat → Int32}
theorem wx_nb0 : vp_nar .boolean 0 = 0 := rfl
theorem wx_nb1 : vp_nar .boolean 1 = 1 := rfl
theorem wx_reach {post : SX → Prop} {q : Nat → Nat} {f s : Nat} (hR : bp_Rep se qu q f) (hV : bp_V s)
    (h : ∀ se' qu' q' f', bp_Rep se' qu' q' f' → bp_G q f q' f' (fun x => x = s) → post (st, pc, kp, nI f', K, kD, kS, se', qu')) :
    wpX_reach post (st, pc, kp, nI f, K, kD, kS, se, qu) (nI s) := by
  have hs : s < 4624 := hV.1
  have hf := bp_RepLe hR
  unfold wpX_reach
  dsimp only
  refine br_f (nI_pos (by omega)) (br_f (nI_ge (b := 4624) hs (by decide)) ?_)
  by_cases e : se s = 1
  · have hk := h se qu q f hR (bp_Rin hR hs e)
    refine pk_lt f 4624 (fun z => ⟨vp_in_nI hs (by decide), ?_⟩) (fun _ => hk)
    rw [nI_clamp (by omega)]
    exact br_f (by rw [e]; decide) hk
  · obtain ⟨hlt, hR', hG⟩ := bp_Rnew hR hV e
    have e0 : se s = 0 := by
      rcases hR.2.1 s hs with z | z
      · exact absurd z.1 e
      · exact z.1
    refine pk_lt f 4624 (fun z => ⟨vp_in_nI hs (by decide), ?_⟩) (fun z => absurd hlt (by omega))
    rw [nI_clamp (by omega)]
    refine br_t e0 ⟨vp_in_nI hs (by decide), nm_e ⟨vp_in_nI hlt (by decide), nm_e (nm_r (nI_1 f) ?_)⟩⟩
    rw [nI_clamp (by omega), wx_nb1]
    exact h _ _ _ _ hR' hG
theorem wx_clear {post : SX → Prop} (h : ∀ se', (∀ s, s < 4624 → se' s = 0) → post (st, pc, kp, nI 0, K, kD, kS, se', qu)) : wpX_clearSearch post (st, pc, kp, fd, K, kD, kS, se, qu) := by
  unfold wpX_clearSearch
  dsimp only
  refine loop_0 (fun n i s => wX_clearSearch_2 post st pc kp fd n (nI i) K kD kS s qu) (fun i s => ∀ j, j < i → s j = 0) 4624 se (fun j hj => by omega) ?_ ?_
  · intro n s hI
    exact br_t (nI_le (b := 4624) (Nat.le_refl _) (by decide)) (h s hI)
  · intro n i s hi hI hk
    refine br_f (nI_ge (b := 4624) hi (by decide)) ⟨vp_in_nI hi (by decide), nm_e (nm_r (nI_1 i) (hk _ ?_))⟩
    intro j hj
    rw [nI_clamp (by omega), wx_nb0]
    by_cases z : j = i
    · rw [z]; exact pk_us
    · rw [pk_un z]; exact hI j (by omega)
theorem wx_searchFrom {post : SX → Prop} {s : Nat} (hV : bp_V s)
    (h : ∀ se' qu' q' f', bp_Rep se' qu' q' f' → (∀ i, i < f' → q' i = s) → (∃ i, i < f' ∧ q' i = s) → post (st, pc, kp, nI f', K, kD, kS, se', qu')) :
    wpX_searchFrom post (st, pc, kp, fd, K, kD, kS, se, qu) (nI s) := by
  unfold wpX_searchFrom
  dsimp only
  refine wx_clear (fun se' h0 => ?_)
  refine wx_reach (q := fun _ => 0) (bp_Rep0 h0) hV (fun se'' qu'' q' f' hR hG => ?_)
  exact h se'' qu'' q' f' hR (fun i hi => hG.2.2.1 i (Nat.zero_le i) hi) (hG.2.2.2 s rfl)
def wx_pf (s x : Nat) : Int32 := if s / 16 = x / 16 then 0 else 1
theorem wx_reachByMoves {post : SX → Prop} {q : Nat → Nat} {f s : Nat} {pf : Int32} (hR : bp_Rep se qu q f) (hV : bp_V s)
    (h : ∀ se' qu' q' f', bp_Rep se' qu' q' f' → bp_G q f q' f' (fun x => ∃ d, d < 4 ∧ bp_step K s d = some x ∧ wx_pf s x = pf) → post (st, pc, kp, nI f', K, kD, kS, se', qu')) :
    wpX_reachByMoves post (st, pc, kp, nI f, K, kD, kS, se, qu) (nI s) pf := by
  have hs : s < 4624 := hV.1
  unfold wpX_reachByMoves
  dsimp only
  refine loop_0 (σ := (Nat → Int32) × (Nat → Int32) × Int32) (fun n i s3 => wX_reachByMoves_2 post (nI s) pf n (nI i) st pc kp s3.2.2 K kD kS s3.1 s3.2.1)
    (fun i s3 => ∃ q' f', s3.2.2 = nI f' ∧ bp_Rep s3.1 s3.2.1 q' f' ∧ bp_G q f q' f' (fun x => ∃ d, d < i ∧ bp_step K s d = some x ∧ wx_pf s x = pf)) 4 (se, qu, nI f) ?_ ?_ ?_
  · exact ⟨q, f, rfl, hR, bp_Gr (fun x ⟨d, hd, _⟩ => by omega)⟩
  · intro n ⟨se1, qu1, fd1⟩ ⟨q', f', e1, e2, e3⟩
    dsimp only at e1 e2 e3 ⊢
    subst e1
    exact br_t (nI_le (b := 4) (Nat.le_refl _) (by decide)) (h _ _ _ _ e2 e3)
  · intro n i ⟨se1, qu1, fd1⟩ hi ⟨q', f', e1, e2, e3⟩ hk
    dsimp only at e1 e2 e3 ⊢
    subst e1
    refine br_f (nI_ge (b := 4) hi (by decide)) ?_
    have skip : (∀ x, (∃ d, d < i + 1 ∧ bp_step K s d = some x ∧ wx_pf s x = pf) → ∃ d, d < i ∧ bp_step K s d = some x ∧ wx_pf s x = pf) → wX_reachByMoves_2 post (nI s) pf n (nI (i + 1)) st pc kp (nI f') K kD kS se1 qu1 := by
      intro hsk
      exact hk (se1, qu1, nI f') ⟨q', f', rfl, e2, bp_Gi e3 (fun x => ⟨fun ⟨d, hd, y⟩ => ⟨d, by omega, y⟩, hsk x⟩)⟩
    refine wx_stateAfter hV hi (fun hn => ?_) (fun t ht => ?_)
    · refine br_t rfl (nm_r (nI_1 i) (skip ?_))
      intro x ⟨d, hd, y1, y2⟩
      by_cases z : d = i
      · rw [z, hn] at y1; cases y1
      · exact ⟨d, by omega, y1, y2⟩
    · obtain ⟨vt, _⟩ := bp_stV hV hi ht
      have ht4 : t < 4624 := vt.1
      have hne : ¬ nI t = -1 := by
        intro z
        have h1 : ¬ nI t < 0 := nI_pos (by omega)
        rw [z] at h1
        exact h1 (by decide)
      refine br_f hne ?_
      have yes : wx_pf s t = pf → wpX_reach (fun u => match u with | (f_state_18, f_pushCount_19, f_kept_20, f_found_21, a_kinds_22, a_keptDirections_23, a_keptStates_24, a_seen_25, a_queue_26) => ∀ x3_27 : Int32, x3_27 = nI i + 1 → wX_reachByMoves_2 post (nI s) pf n x3_27 f_state_18 f_pushCount_19 f_kept_20 f_found_21 a_kinds_22 a_keptDirections_23 a_keptStates_24 a_seen_25 a_queue_26) (st, pc, kp, nI f', K, kD, kS, se1, qu1) (nI t) := by
        intro hp
        refine wx_reach e2 vt (fun se2 qu2 q2 f2 r2 g2 => nm_r (nI_1 i) ?_)
        refine hk (se2, qu2, nI f2) ⟨q2, f2, rfl, r2, bp_Gi (bp_Gt e3 g2) (fun x => ⟨?_, ?_⟩)⟩
        · rintro (⟨d, hd, y⟩ | y)
          · exact ⟨d, by omega, y⟩
          · exact ⟨i, by omega, by rw [y]; exact ht, by rw [y]; exact hp⟩
        · rintro ⟨d, hd, y1, y2⟩
          by_cases z : d = i
          · rw [z, ht] at y1
            exact Or.inr (Option.some.inj y1).symm
          · exact Or.inl ⟨d, by omega, y1, y2⟩
      have no : ¬ wx_pf s t = pf → wX_reachByMoves_2 post (nI s) pf n (nI (i + 1)) st pc kp (nI f') K kD kS se1 qu1 := by
        intro hp
        refine skip ?_
        intro x ⟨d, hd, y1, y2⟩
        by_cases z : d = i
        · rw [z, ht] at y1
          have := Option.some.inj y1
          rw [← this] at y2
          exact absurd y2 hp
        · exact ⟨d, by omega, y1, y2⟩
      refine wx_isPush (by omega) (by omega) (fun z => ?_) (fun z => ?_)
      · have e : wx_pf s t = 0 := if_pos z
        rw [e] at yes no
        exact br_c (fun y => yes y) (fun y => nm_r (nI_1 i) (no y))
      · have e : wx_pf s t = 1 := if_neg z
        rw [e] at yes no
        exact br_c (fun y => yes y) (fun y => nm_r (nI_1 i) (no y))
theorem wx_pf01 (s x : Nat) : wx_pf s x = 0 ∨ wx_pf s x = 1 := by
  unfold wx_pf
  split
  · exact Or.inl rfl
  · exact Or.inr rfl
theorem wx_pfw {K : Nat → Int32} {x d t : Nat} (hx : bp_V x) (hd : d < 4) (hs : bp_step K x d = some t) : (wx_pf x t = 1 ↔ bp_w true (bp_nd x) (bp_nd t) = 1) ∧ (wx_pf x t = 0 ↔ bp_w true (bp_nd x) (bp_nd t) = 0) := by
  rw [bp_wst hx hd hs]
  unfold wx_pf
  by_cases z : x / 16 = t / 16
  · rw [if_pos z, if_pos ⟨rfl, z⟩]
    exact ⟨⟨fun y => absurd y (by decide), fun y => absurd y (by decide)⟩, ⟨fun _ => rfl, fun _ => rfl⟩⟩
  · rw [if_neg z, if_neg (fun y => z y.2)]
    exact ⟨⟨fun _ => rfl, fun _ => rfl⟩, ⟨fun y => absurd y (by decide), fun y => absurd y (by decide)⟩⟩
/-- a level of movesUntilDone, then all of them -/
theorem wx_mud {post : Int32 → SX → Prop} {Sd : Nat → Prop} (h : ∀ r fd' se' qu', bp_A K false Sd r → post r (st, pc, kp, fd', K, kD, kS, se', qu')) :
    ∀ n m q f ls se qu, 4624 < n + m → m ≤ 4624 → bp_Rep se qu q f → bp_T K false Sd m q f ls → wX_movesUntilDone_4 post n (nI ls) (nI m) st pc kp (nI f) K kD kS se qu := by
  intro n
  induction n with
  | zero => intro m q f ls se qu h1 h2; omega
  | succ n ih =>
    intro m q f ls se qu hn hm hR hT
    have hf := bp_RepLe hR
    have hV : ∀ i, i < f → bp_V (q i) := fun i hi => (hR.1 i hi).1
    have hls := hT.2.2.2.2.1
    have hle := hT.2.2.2.2.2
    rw [wX_movesUntilDone_4]
    refine pk_le 4624 m (fun z => h _ _ _ _ (bp_Tno hV hT (by omega))) (fun z => ?_)
    refine pk_le f ls (fun y => h _ _ _ _ (bp_Tno hV hT y)) (fun y => ?_)
    refine pk_loop (σ := (Nat → Int32) × (Nat → Int32) × Int32) (fun k i s3 => wX_movesUntilDone_27 post (wX_movesUntilDone_4 post n) (nI m) (nI f) k (nI i) st pc kp s3.2.2 K kD kS s3.1 s3.2.1)
      (fun i s3 => ls ≤ i ∧ (∃ q' f', s3.2.2 = nI f' ∧ bp_Rep s3.1 s3.2.1 q' f' ∧ bp_G q f q' f' (fun x => ∃ j, ls ≤ j ∧ j < i ∧ ∃ d, d < 4 ∧ bp_step K (q j) d = some x)) ∧ ∀ j, ls ≤ j → j < i → ¬ bp_D K (bp_nd (q j) / 16)) f ls (se, qu, nI f) (by omega) ?_ ?_ ?_
    · exact ⟨Nat.le_refl _, ⟨q, f, rfl, hR, bp_Gr (fun x ⟨j, j1, j2, _⟩ => by omega)⟩, fun j j1 j2 => by omega⟩
    · intro k ⟨se1, qu1, fd1⟩ ⟨_, ⟨q', f', e1, e2, e3⟩, e4⟩
      dsimp only at e1 e2 e3 ⊢
      subst e1
      refine br_t (nI_le (Nat.le_refl _) (by omega)) (nm_r (nI_1 m) ?_)
      refine ih (m + 1) q' f' f se1 qu1 (by omega) (by omega) e2 (bp_Tnext hV hT bp_Clf (by omega) e4 (bp_Gi e3 (fun x => ⟨?_, ?_⟩)))
      · rintro ⟨j, j1, j2, d, hd, hs⟩
        exact ⟨j, j1, j2, d, hd, hs, bp_wf _ _⟩
      · rintro ⟨j, j1, j2, d, hd, hs, _⟩
        exact ⟨j, j1, j2, d, hd, hs⟩
    · intro k i ⟨se1, qu1, fd1⟩ hi ⟨h0, ⟨q', f', e1, e2, e3⟩, e4⟩ hk
      dsimp only at e1 e2 e3 ⊢
      subst e1
      have hqi : qu1 i = nI (q i) := by
        rw [(e2.1 i (Nat.lt_of_lt_of_le hi e3.1)).2, e3.2.1 i hi]
      have hf' := bp_RepLe e2
      refine br_f (nI_ge hi (by omega)) ⟨vp_in_nI (by omega) (by decide), ?_⟩
      rw [nI_clamp (by omega), hqi]
      refine wx_isDone (hV i hi) (fun hD => br_f (by decide) (h _ _ _ _ (bp_Tyes hT h0 hi hm hD))) (fun hD => br_t rfl ⟨vp_in_nI (by omega) (by decide), ?_⟩)
      refine wx_reachByMoves e2 (hV i hi) (fun se2 qu2 q2 f2 r2 g2 => ?_)
      have hf2 := bp_RepLe r2
      have hqi2 : qu2 i = nI (q i) := by
        rw [(r2.1 i (Nat.lt_of_lt_of_le (Nat.lt_of_lt_of_le hi e3.1) g2.1)).2, g2.2.1 i (Nat.lt_of_lt_of_le hi e3.1), e3.2.1 i hi]
      refine ⟨vp_in_nI (by omega) (by decide), ?_⟩
      rw [hqi2]
      refine wx_reachByMoves r2 (hV i hi) (fun se3 qu3 q3 f3 r3 g3 => nm_r (nI_1 i) ?_)
      refine hk (se3, qu3, nI f3) ⟨by omega, ⟨q3, f3, rfl, r3, bp_Gi (bp_Gt (bp_Gt e3 g2) g3) (fun x => ⟨?_, ?_⟩)⟩, fun j j1 j2 => ?_⟩
      · rintro ((⟨j, j1, j2, y⟩ | ⟨d, hd, y, _⟩) | ⟨d, hd, y, _⟩)
        · exact ⟨j, j1, by omega, y⟩
        · exact ⟨i, h0, by omega, d, hd, y⟩
        · exact ⟨i, h0, by omega, d, hd, y⟩
      · rintro ⟨j, j1, j2, d, hd, y⟩
        by_cases z : j = i
        · rw [z] at y
          rcases wx_pf01 (q i) x with w | w
          · exact Or.inl (Or.inr ⟨d, hd, y, w⟩)
          · exact Or.inr ⟨d, hd, y, w⟩
        · exact Or.inl (Or.inl ⟨j, j1, by omega, d, hd, y⟩)
      · by_cases z : j = i
        · rw [z]; exact hD
        · exact e4 j j1 (by omega)
theorem wx_movesUntilDone {post : Int32 → SX → Prop} {Sd : Nat → Prop} {q : Nat → Nat} {f : Nat} (hR : bp_Rep se qu q f) (h1 : ∀ N, Sd N → ∃ i, i < f ∧ bp_nd (q i) = N) (h2 : ∀ i, i < f → Sd (bp_nd (q i)))
    (h : ∀ r fd' se' qu', bp_A K false Sd r → post r (st, pc, kp, fd', K, kD, kS, se', qu')) : wpX_movesUntilDone post (st, pc, kp, nI f, K, kD, kS, se, qu) :=
  ⟨4625, wx_mud h 4625 0 q f 0 se qu (by omega) (by omega) hR (bp_T0 h1 h2)⟩
theorem wx_leastMoves {post : Int32 → SX → Prop} {s : Nat} (hV : bp_V s)
    (h : ∀ r fd' se' qu', bp_A K false (bp_S1 (bp_nd s)) r → post r (nI s, pc, kp, fd', K, kD, kS, se', qu')) : wpX_leastMoves post (nI s, pc, kp, fd, K, kD, kS, se, qu) := by
  unfold wpX_leastMoves
  dsimp only
  refine wx_searchFrom hV (fun se1 qu1 q1 f1 r1 a1 a2 => ?_)
  refine wx_movesUntilDone (Sd := bp_S1 (bp_nd s)) r1 ?_ ?_ (fun r fd' se' qu' hA => h r fd' se' qu' hA)
  · intro N hN
    obtain ⟨i, hi, e⟩ := a2
    exact ⟨i, hi, by rw [e]; exact Eq.symm hN⟩
  · intro i hi
    rw [a1 i hi]
    exact rfl
end
end
section
/-! the class: walking, leastPushes, region, bestMove, dead -/
def bp_Bq (K : Nat → Int32) (N : Nat) (r : Int32) (d : Nat) : Prop := ∃ M, bp_ns K N d = some M ∧ bp_A K false (bp_S1 M) (r - 1)
def bp_B (K : Nat → Int32) (N : Nat) (r ans : Int32) : Prop :=
  (∃ d, d < 4 ∧ ans = nI d ∧ bp_Bq K N r d ∧ ∀ e, e < d → ¬ bp_Bq K N r e) ∨ (ans = -6 ∧ ∀ d, d < 4 → ¬ bp_Bq K N r d)
def bp_BM (K : Nat → Int32) (N : Nat) (ans : Int32) : Prop :=
  ∃ r, bp_A K false (bp_S1 N) r ∧ (((r = -6 ∨ r = 0) ∧ ans = -6) ∨ (¬ (r = -6 ∨ r = 0) ∧ bp_B K N r ans))
theorem bp_Bu {K : Nat → Int32} {N : Nat} {r a b : Int32} (h : bp_B K N r a) (h' : bp_B K N r b) : b = a := by
  rcases h with ⟨d, d1, d2, d3, d4⟩ | ⟨e, d4⟩
  · rcases h' with ⟨d', d1', d2', d3', d4'⟩ | ⟨e', d4'⟩
    · have : d' = d := by
        rcases Nat.lt_trichotomy d d' with z | z | z
        · exact absurd d3 (d4' d z)
        · exact z.symm
        · exact absurd d3' (d4 d' z)
      rw [d2, d2', this]
    · exact absurd d3 (d4' d d1)
  · rcases h' with ⟨d', d1', d2', d3', d4'⟩ | ⟨e', d4'⟩
    · exact absurd d3' (d4 d' d1')
    · rw [e, e']
theorem bp_BMu {K : Nat → Int32} {N : Nat} {a b : Int32} (h : bp_BM K N a) (h' : bp_BM K N b) : b = a := by
  obtain ⟨r, h1, h2⟩ := h
  obtain ⟨r', h1', h2'⟩ := h'
  have e := bp_Au h1 h1'
  subst e
  rcases h2 with ⟨z, e⟩ | ⟨z, e⟩
  · rcases h2' with ⟨z', e'⟩ | ⟨z', e'⟩
    · rw [e, e']
    · exact absurd z z'
  · rcases h2' with ⟨z', e'⟩ | ⟨z', e'⟩
    · exact absurd z' z
    · exact bp_Bu e e'
def bp_Sc (K : Nat → Int32) (c : Nat) : Nat → Prop := fun N => ∃ p, p < 16 ∧ p ≠ c ∧ ¬ K p = 1 ∧ N = 2 ^ c * 16 + p
theorem bp_bm16 : ∀ c, c < 16 → bp_bm c 16 = 2 ^ c := by decide +kernel
theorem bp_encC {p c : Nat} (hp : p < 16) (hc : c < 16) (hne : p ≠ c) : bp_V (bp_enc p c 16) ∧ bp_nd (bp_enc p c 16) = 2 ^ c * 16 + p :=
  ⟨bp_VE ⟨hp, by omega, by omega, by omega, hne, by omega⟩, by rw [bp_ndE hp (by omega), bp_bm16 c hc]⟩
theorem bp_ScV {K : Nat → Int32} {c : Nat} (hc : c < 16) : ∀ N, bp_Sc K c N → bp_VN N := by
  intro N ⟨p, p1, p2, p3, p4⟩
  exact ⟨bp_enc p c 16, (bp_encC p1 hc p2).1, by rw [p4]; exact (bp_encC p1 hc p2).2⟩
def bp_Rg (K : Nat → Int32) (N r : Nat) : Prop := ∃ P : Nat → Bool, r = bp_cnt P 16 ∧ ∀ c, c < 16 → (P c = true ↔ bp_R K true (bp_S1 N) 0 (N / 16 * 16 + c))
theorem bp_Rgu {K : Nat → Int32} {N r r' : Nat} (h : bp_Rg K N r) (h' : bp_Rg K N r') : r' = r := by
  obtain ⟨P, e, h⟩ := h
  obtain ⟨P', e', h'⟩ := h'
  rw [e, e']
  apply bp_ccong
  intro c hc
  have h1 := (h c hc).trans (h' c hc).symm
  cases hP : P c with
  | true => exact h1.mp hP
  | false =>
    cases hP' : P' c with
    | true => rw [h1.mpr hP'] at hP; exact Bool.noConfusion hP
    | false => rfl
section
variable {st pc kp fd : Int32} {K kD kS se qu : Nat → Int32}
theorem wx_walkL {post : SX → Prop} {I : Nat → Prop} {q : Nat → Nat} {f ls : Nat} (hI : ∀ s d t, bp_V s → I s → d < 4 → bp_step K s d = some t → wx_pf s t = 0 → I t)
    (h : ∀ se' qu' q' f', bp_Rep se' qu' q' f' → f ≤ f' → (∀ i, i < f → q' i = q i) → (∀ i, ls ≤ i → i < f' → I (q' i)) → (∀ i, ls ≤ i → i < f' → ∀ d t, d < 4 → bp_step K (q' i) d = some t → wx_pf (q' i) t = 0 → ∃ j, j < f' ∧ q' j = t) → post (st, pc, kp, nI f', K, kD, kS, se', qu')) :
    ∀ n i q' f' se qu, 4624 < n + i → ls ≤ i → i ≤ f' → bp_Rep se qu q' f' → f ≤ f' → (∀ j, j < f → q' j = q j) → (∀ j, ls ≤ j → j < f' → I (q' j)) →
      (∀ j, ls ≤ j → j < i → ∀ d t, d < 4 → bp_step K (q' j) d = some t → wx_pf (q' j) t = 0 → ∃ l, l < f' ∧ q' l = t) → wX_reachByWalkingSince_2 post n (nI i) st pc kp (nI f') K kD kS se qu := by
  intro n
  induction n with
  | zero =>
    intro i q' f' se qu h1 h2 h3 hR
    have := bp_RepLe hR
    omega
  | succ n ih =>
    intro i q' f' se qu h1 h2 h3 hR h4 h5 h6 h7
    have hf := bp_RepLe hR
    rw [wX_reachByWalkingSince_2]
    refine pk_le f' i (fun z => h se qu q' f' hR h4 h5 h6 (fun j j1 j2 => h7 j j1 (by omega))) (fun z => ?_)
    refine br_f (nI_ge (b := 4624) (by omega) (by decide)) ⟨vp_in_nI (by omega) (by decide), ?_⟩
    rw [nI_clamp (by omega), (hR.1 i z).2]
    refine wx_reachByMoves hR (hR.1 i z).1 (fun se2 qu2 q2 f2 r2 g2 => nm_r (nI_1 i) ?_)
    obtain ⟨g1, g3, g4, g5⟩ := g2
    refine ih (i + 1) q2 f2 se2 qu2 (by omega) (by omega) (by omega) r2 (by omega) (fun j hj => by rw [g3 j (by omega)]; exact h5 j hj) ?_ ?_
    · intro j j1 j2
      rcases Nat.lt_or_ge j f' with y | y
      · rw [g3 j y]; exact h6 j j1 y
      · obtain ⟨d, hd, hs, hw⟩ := g4 j y j2
        exact hI _ d _ (hR.1 i z).1 (h6 i h2 z) hd hs hw
    · intro j j1 j2 d t hd hs hw
      rw [g3 j (by omega)] at hs hw
      by_cases y : j = i
      · rw [y] at hs hw
        exact g5 t ⟨d, hd, hs, hw⟩
      · obtain ⟨l, l1, l2⟩ := h7 j j1 (by omega) d t hd hs hw
        exact ⟨l, by omega, by rw [g3 l l1]; exact l2⟩
theorem wx_walk {post : SX → Prop} {I : Nat → Prop} {q : Nat → Nat} {f ls : Nat} (hR : bp_Rep se qu q f) (hls : ls ≤ f) (hI : ∀ s d t, bp_V s → I s → d < 4 → bp_step K s d = some t → wx_pf s t = 0 → I t) (h0 : ∀ i, ls ≤ i → i < f → I (q i))
    (h : ∀ se' qu' q' f', bp_Rep se' qu' q' f' → f ≤ f' → (∀ i, i < f → q' i = q i) → (∀ i, ls ≤ i → i < f' → I (q' i)) → (∀ i, ls ≤ i → i < f' → ∀ d t, d < 4 → bp_step K (q' i) d = some t → wx_pf (q' i) t = 0 → ∃ j, j < f' ∧ q' j = t) → post (st, pc, kp, nI f', K, kD, kS, se', qu')) :
    wpX_reachByWalkingSince post (st, pc, kp, nI f, K, kD, kS, se, qu) (nI ls) :=
  ⟨4625, wx_walkL hI h 4625 ls q f se qu (by omega) (Nat.le_refl _) hls hR (Nat.le_refl _) (fun _ _ => rfl) h0 (fun j j1 j2 => by omega)⟩
theorem wx_lp {post : Int32 → SX → Prop} {Sd : Nat → Prop} (h : ∀ r fd' se' qu', bp_A K true Sd r → post r (st, pc, kp, fd', K, kD, kS, se', qu')) :
    ∀ n m q f ls se qu, 4624 < n + m → m ≤ 4624 → bp_Rep se qu q f → bp_T K true Sd m q f ls → wX_leastPushes_12 post n (nI ls) (nI m) st pc kp (nI f) K kD kS se qu := by
  intro n
  induction n with
  | zero => intro m q f ls se qu h1 h2; omega
  | succ n ih =>
    intro m q0 f0 ls se qu hn hm hR0 hT0
    have hf0 := bp_RepLe hR0
    have hls := hT0.2.2.2.2.1
    have hle0 := hT0.2.2.2.2.2
    rw [wX_leastPushes_12]
    refine pk_le 4624 m (fun z => h _ _ _ _ (bp_Tno (fun i hi => (hR0.1 i hi).1) hT0 (by omega))) (fun z => ?_)
    refine pk_le f0 ls (fun y => h _ _ _ _ (bp_Tno (fun i hi => (hR0.1 i hi).1) hT0 y)) (fun y => ?_)
    refine wx_walk (I := fun s => bp_R K true Sd m (bp_nd s)) hR0 hle0 ?_ hT0.2.2.2.1 (fun se1 qu1 q f hR w1 w2 w3 w4 => ?_)
    · intro s d t vs hs hd hst hw
      have hR1 := bp_R1 hs hd (bp_stV vs hd hst).2.1
      rw [((wx_pfw vs hd hst).2).mp hw] at hR1
      exact hR1
    have hT := bp_Tw hT0 w1 w2 w3
    have hf := bp_RepLe hR
    have hV : ∀ i, i < f → bp_V (q i) := fun i hi => (hR.1 i hi).1
    have hCl : bp_Cl K true q f ls := fun i i1 i2 d t hd hst hw => w4 i i1 i2 d t hd hst (((wx_pfw (hV i i2) hd hst).2).mpr hw)
    refine pk_loop (σ := (Nat → Int32) × (Nat → Int32) × Int32) (fun k i s3 => wX_leastPushes_40 post (wX_leastPushes_12 post n) (nI m) (nI f) k (nI i) st pc kp s3.2.2 K kD kS s3.1 s3.2.1)
      (fun i s3 => ls ≤ i ∧ (∃ q' f', s3.2.2 = nI f' ∧ bp_Rep s3.1 s3.2.1 q' f' ∧ bp_G q f q' f' (fun x => ∃ j, ls ≤ j ∧ j < i ∧ ∃ d, d < 4 ∧ bp_step K (q j) d = some x ∧ wx_pf (q j) x = 1)) ∧ ∀ j, ls ≤ j → j < i → ¬ bp_D K (bp_nd (q j) / 16)) f ls (se1, qu1, nI f) (by omega) ?_ ?_ ?_
    · exact ⟨Nat.le_refl _, ⟨q, f, rfl, hR, bp_Gr (fun x ⟨j, j1, j2, _⟩ => by omega)⟩, fun j j1 j2 => by omega⟩
    · intro k ⟨se2, qu2, fd2⟩ ⟨_, ⟨q', f', e1, e2, e3⟩, e4⟩
      dsimp only at e1 e2 e3 ⊢
      subst e1
      refine br_t (nI_le (Nat.le_refl _) (by omega)) (nm_r (nI_1 m) ?_)
      refine ih (m + 1) q' f' f se2 qu2 (by omega) (by omega) e2 (bp_Tnext hV hT hCl (by omega) e4 (bp_Gi e3 (fun x => ⟨?_, ?_⟩)))
      · rintro ⟨j, j1, j2, d, hd, hs, hw⟩
        exact ⟨j, j1, j2, d, hd, hs, ((wx_pfw (hV j j2) hd hs).1).mp hw⟩
      · rintro ⟨j, j1, j2, d, hd, hs, hw⟩
        exact ⟨j, j1, j2, d, hd, hs, ((wx_pfw (hV j j2) hd hs).1).mpr hw⟩
    · intro k i ⟨se2, qu2, fd2⟩ hi ⟨h0, ⟨q', f', e1, e2, e3⟩, e4⟩ hk
      dsimp only at e1 e2 e3 ⊢
      subst e1
      have hqi : qu2 i = nI (q i) := by
        rw [(e2.1 i (Nat.lt_of_lt_of_le hi e3.1)).2, e3.2.1 i hi]
      have hf' := bp_RepLe e2
      refine br_f (nI_ge hi (by omega)) ⟨vp_in_nI (by omega) (by decide), ?_⟩
      rw [nI_clamp (by omega), hqi]
      refine wx_isDone (hV i hi) (fun hD => br_f (by decide) (h _ _ _ _ (bp_Tyes hT h0 hi hm hD))) (fun hD => br_t rfl ⟨vp_in_nI (by omega) (by decide), ?_⟩)
      refine wx_reachByMoves e2 (hV i hi) (fun se3 qu3 q3 f3 r3 g3 => nm_r (nI_1 i) ?_)
      refine hk (se3, qu3, nI f3) ⟨by omega, ⟨q3, f3, rfl, r3, bp_Gi (bp_Gt e3 g3) (fun x => ⟨?_, ?_⟩)⟩, fun j j1 j2 => ?_⟩
      · rintro (⟨j, j1, j2, y⟩ | ⟨d, hd, y, w⟩)
        · exact ⟨j, j1, by omega, y⟩
        · exact ⟨i, h0, by omega, d, hd, y, w⟩
      · rintro ⟨j, j1, j2, d, hd, y, w⟩
        by_cases z : j = i
        · rw [z] at y w
          exact Or.inr ⟨d, hd, y, w⟩
        · exact Or.inl ⟨j, j1, by omega, d, hd, y, w⟩
      · by_cases z : j = i
        · rw [z]; exact hD
        · exact e4 j j1 (by omega)
theorem wx_leastPushes {post : Int32 → SX → Prop} {s : Nat} (hV : bp_V s)
    (h : ∀ r fd' se' qu', bp_A K true (bp_S1 (bp_nd s)) r → post r (nI s, pc, kp, fd', K, kD, kS, se', qu')) : wpX_leastPushes post (nI s, pc, kp, fd, K, kD, kS, se, qu) := by
  unfold wpX_leastPushes
  dsimp only
  refine wx_searchFrom hV (fun se1 qu1 q1 f1 r1 a1 a2 => ?_)
  refine ⟨4625, wx_lp (Sd := bp_S1 (bp_nd s)) h 4625 0 q1 f1 0 se1 qu1 (by omega) (by omega) r1 (bp_T0 ?_ ?_)⟩
  · intro N hN
    obtain ⟨i, hi, e⟩ := a2
    exact ⟨i, hi, by rw [e]; exact Eq.symm hN⟩
  · intro i hi
    rw [a1 i hi]
    exact rfl
theorem wx_region {post : Int32 → SX → Prop} {s : Nat} (hV : bp_V s)
    (h : ∀ r se' qu', bp_Rg K (bp_nd s) r → post (nI r) (nI s, pc, kp, nI r, K, kD, kS, se', qu')) : wpX_region post (nI s, pc, kp, fd, K, kD, kS, se, qu) := by
  have hs : s < 4624 := hV.1
  unfold wpX_region
  dsimp only
  refine wx_searchFrom hV (fun se1 qu1 q1 f1 r1 a1 a2 => ?_)
  have hT0 : bp_T K true (bp_S1 (bp_nd s)) 0 q1 f1 0 := by
    apply bp_T0
    · intro N hN
      obtain ⟨i, hi, e⟩ := a2
      exact ⟨i, hi, by rw [e]; exact Eq.symm hN⟩
    · intro i hi
      rw [a1 i hi]
      exact rfl
  refine wx_walk (ls := 0) (I := fun x => x / 16 = s / 16 ∧ bp_R K true (bp_S1 (bp_nd s)) 0 (bp_nd x)) r1 (Nat.zero_le _) ?_ ?_ (fun se' qu' q f hR w1 w2 w3 w4 => h f se' qu' ?_)
  · intro x d t vx hx hd hst hw
    have hw0 : x / 16 = t / 16 := by
      unfold wx_pf at hw
      split at hw
      · assumption
      · exact absurd hw (by decide)
    have hR1 := bp_R1 hx.2 hd (bp_stV vx hd hst).2.1
    rw [((wx_pfw vx hd hst).2).mp hw] at hR1
    exact ⟨by omega, hR1⟩
  · intro i _ hi
    rw [a1 i hi]
    exact ⟨rfl, bp_R0 rfl⟩
  · have hVq : ∀ i, i < f → bp_V (q i) := fun i hi => (hR.1 i hi).1
    have hT := bp_Tw hT0 w1 w2 (fun i i1 i2 => (w3 i i1 i2).2)
    have hCl : bp_Cl K true q f 0 := fun i i1 i2 d t hd hst hw => w4 i i1 i2 d t hd hst (((wx_pfw (hVq i i2) hd hst).2).mpr hw)
    have hF := bp_Tfull hVq hT hCl
    have hnd : ∀ x, bp_V x → x / 16 = s / 16 → bp_nd x = bp_nd s / 16 * 16 + x % 16 := by
      intro x vx hx
      have h1 := (bp_ndD vx).1
      have h2 := (bp_ndD vx).2
      have h3 := (bp_ndD hV).2
      rw [hx] at h2
      omega
    refine ⟨fun c => decide (se' (s / 16 * 16 + c) = 1), bp_regX hR (fun i hi => (w3 i (Nat.zero_le i) hi).1) (by omega), fun c hc => ⟨fun hp => ?_, fun hp => ?_⟩⟩
    · have hp1 : se' (s / 16 * 16 + c) = 1 := of_decide_eq_true hp
      rcases hR.2.1 (s / 16 * 16 + c) (by omega) with ⟨_, i, hi, e⟩ | ⟨e0, _⟩
      · have hR0 := (w3 i (Nat.zero_le i) hi).2
        rw [hnd (q i) (hVq i hi) (w3 i (Nat.zero_le i) hi).1, e, show (s / 16 * 16 + c) % 16 = c by omega] at hR0
        exact hR0
      · rw [e0] at hp1; exact absurd hp1 (by decide)
    · apply decide_eq_true
      obtain ⟨i, hi, e⟩ := hF 0 _ hp (Nat.le_refl 0)
      have e1 := (w3 i (Nat.zero_le i) hi).1
      rw [hnd (q i) (hVq i hi) e1] at e
      have e2 : q i = s / 16 * 16 + c := by omega
      rcases hR.2.1 (s / 16 * 16 + c) (by omega) with ⟨y, _⟩ | ⟨_, y⟩
      · exact y
      · exact absurd e2 (y i hi)
theorem wx_bestMove {post : Int32 → SX → Prop} {s : Nat} (hV : bp_V s)
    (h : ∀ r fd' se' qu', bp_BM K (bp_nd s) r → post r (nI s, pc, kp, fd', K, kD, kS, se', qu')) : wpX_bestMove post (nI s, pc, kp, fd, K, kD, kS, se, qu) := by
  unfold wpX_bestMove
  dsimp only
  refine wx_searchFrom hV (fun se1 qu1 q1 f1 r1 a1 a2 => ?_)
  refine wx_movesUntilDone (Sd := bp_S1 (bp_nd s)) r1 ?_ ?_ (fun r fd2 se2 qu2 hA => ?_)
  · intro N hN
    obtain ⟨i, hi, e⟩ := a2
    exact ⟨i, hi, by rw [e]; exact Eq.symm hN⟩
  · intro i hi
    rw [a1 i hi]
    exact rfl
  · refine br_c (fun z => h _ _ _ _ ⟨r, hA, Or.inl ⟨Or.inl z, rfl⟩⟩) (fun z => br_c (fun y => h _ _ _ _ ⟨r, hA, Or.inl ⟨Or.inr y, rfl⟩⟩) (fun y => ?_))
    have hne : ¬ (r = -6 ∨ r = 0) := fun x => x.elim z y
    refine loop_0 (σ := (Nat → Int32) × (Nat → Int32) × Int32) (fun n i s3 => wX_bestMove_28 post r n (nI i) (nI s) pc kp s3.2.2 K kD kS s3.1 s3.2.1) (fun i _ => ∀ e, e < i → ¬ bp_Bq K (bp_nd s) r e) 4 (se2, qu2, fd2) (fun e he => by omega) ?_ ?_
    · intro n ⟨se3, qu3, fd3⟩ hI
      exact br_t (nI_le (b := 4) (Nat.le_refl _) (by decide)) (h _ _ _ _ ⟨r, hA, Or.inr ⟨hne, Or.inr ⟨rfl, hI⟩⟩⟩)
    · intro n i ⟨se3, qu3, fd3⟩ hi hI hk
      refine br_f (nI_ge (b := 4) hi (by decide)) ?_
      dsimp only at hI ⊢
      have next : ∀ se4 qu4 fd4, ¬ bp_Bq K (bp_nd s) r i → ∀ x2_35 : Int32, x2_35 = nI i + 1 → wX_bestMove_28 post r n x2_35 (nI s) pc kp fd4 K kD kS se4 qu4 := by
        intro se4 qu4 fd4 hn
        refine nm_r (nI_1 i) (hk (se4, qu4, fd4) (fun e he => ?_))
        by_cases w : e = i
        · rw [w]; exact hn
        · exact hI e (by omega)
      refine wx_stateAfter hV hi (fun hn => ?_) (fun t ht => ?_)
      · refine br_t rfl (next _ _ _ ?_)
        rintro ⟨M, m1, _⟩
        rcases bp_comm K hV hi with ⟨_, c2⟩ | ⟨t, c1, _⟩
        · rw [m1] at c2; cases c2
        · rw [hn] at c1; cases c1
      · obtain ⟨vt, hns, _⟩ := bp_stV hV hi ht
        have ht4 : t < 4624 := vt.1
        have hneg : ¬ nI t = -1 := by
          intro z
          have h1 : ¬ nI t < 0 := nI_pos (by omega)
          rw [z] at h1
          exact h1 (by decide)
        refine br_f hneg ?_
        refine wx_searchFrom vt (fun se4 qu4 q4 f4 r4 b1 b2 => ?_)
        refine wx_movesUntilDone (Sd := bp_S1 (bp_nd t)) r4 ?_ ?_ (fun r' fd5 se5 qu5 hA' => ?_)
        · intro N hN
          obtain ⟨i, hi, e⟩ := b2
          exact ⟨i, hi, by rw [e]; exact Eq.symm hN⟩
        · intro i hi
          rw [b1 i hi]
          exact rfl
        · refine br_c (fun w => ?_) (fun w => next _ _ _ ?_)
          · refine h _ _ _ _ ⟨r, hA, Or.inr ⟨hne, Or.inl ⟨i, hi, rfl, ⟨bp_nd t, hns, ?_⟩, hI⟩⟩⟩
            rw [← w]; exact hA'
          · rintro ⟨M, m1, m2⟩
            rw [hns] at m1
            cases Option.some.inj m1
            exact w (bp_Au m2 hA')
theorem wx_dead {post : Int32 → SX → Prop} {c : Nat} (hc : c < 16) (hK : K c = 0)
    (h : ∀ r fd' se' qu', bp_A K false (bp_Sc K c) r → ((r = -6 → post 1 (st, pc, kp, fd', K, kD, kS, se', qu')) ∧ (¬ r = -6 → post 0 (st, pc, kp, fd', K, kD, kS, se', qu')))) : wpX_dead post (st, pc, kp, fd, K, kD, kS, se, qu) (nI c) := by
  unfold wpX_dead
  dsimp only
  refine wx_isCell (by omega) (fun _ => br_f (by decide) ⟨vp_in_nI hc (by decide), ?_⟩) (fun z => absurd hc (by omega))
  rw [nI_clamp (by omega)]
  refine br_t hK (wx_clear (fun se1 h1 => ?_))
  refine loop_0 (σ := (Nat → Int32) × (Nat → Int32) × Int32) (fun n i s3 => wX_dead_24 post (nI c) n (nI i) st pc kp s3.2.2 K kD kS s3.1 s3.2.1)
    (fun i s3 => ∃ q f, s3.2.2 = nI f ∧ bp_Rep s3.1 s3.2.1 q f ∧ (∀ j, j < f → ∃ p, p < 16 ∧ p ≠ c ∧ ¬ K p = 1 ∧ q j = bp_enc p c 16) ∧ (∀ p, p < i → p ≠ c → ¬ K p = 1 → ∃ j, j < f ∧ q j = bp_enc p c 16)) 16 (se1, qu, nI 0) ?_ ?_ ?_
  · exact ⟨fun _ => 0, 0, rfl, bp_Rep0 h1, fun j hj => by omega, fun p hp => by omega⟩
  · intro n ⟨se2, qu2, fd2⟩ ⟨q, f, e1, e2, e3, e4⟩
    dsimp only at e1 e2 ⊢
    subst e1
    refine br_t (nI_le (b := 16) (Nat.le_refl _) (by decide)) ?_
    refine wx_movesUntilDone (Sd := bp_Sc K c) e2 ?_ ?_ (fun r fd5 se5 qu5 hA => h r fd5 se5 qu5 hA)
    · intro N ⟨p, p1, p2, p3, p4⟩
      obtain ⟨j, hj, ej⟩ := e4 p p1 p2 p3
      exact ⟨j, hj, by rw [ej, (bp_encC p1 hc p2).2, p4]⟩
    · intro i hi
      obtain ⟨p, p1, p2, p3, p4⟩ := e3 i hi
      rw [p4, (bp_encC p1 hc p2).2]
      exact ⟨p, p1, p2, p3, rfl⟩
  · intro n i ⟨se2, qu2, fd2⟩ hi ⟨q, f, e1, e2, e3, e4⟩ hk
    dsimp only at e1 e2 ⊢
    subst e1
    refine br_f (nI_ge (b := 16) hi (by decide)) ?_
    refine pk_eq i c (fun z => nm_r (nI_1 i) (hk (se2, qu2, nI f) ⟨q, f, rfl, e2, e3, fun p hp hpc => ?_⟩)) (fun z => ⟨vp_in_nI hi (by decide), ?_⟩)
    · exact e4 p (by omega) hpc
    · rw [nI_clamp (by omega)]
      refine br_c (fun y => nm_r (nI_1 i) (hk (se2, qu2, nI f) ⟨q, f, rfl, e2, e3, fun p hp hpc hpK => ?_⟩)) (fun y => ?_)
      · by_cases w : p = i
        · rw [w] at hpK; exact absurd y hpK
        · exact e4 p (by omega) hpc hpK
      · refine wx_stateOf (b := 16) ?_
        refine wx_reach e2 (bp_encC hi hc z).1 (fun se3 qu3 q3 f3 r3 g3 => nm_r (nI_1 i) (hk (se3, qu3, nI f3) ⟨q3, f3, rfl, r3, fun j hj => ?_, fun p hp hpc hpK => ?_⟩))
        · rcases Nat.lt_or_ge j f with w | w
          · rw [g3.2.1 j w]; exact e3 j w
          · exact ⟨i, hi, z, y, g3.2.2.1 j w hj⟩
        · by_cases w : p = i
          · rw [w]; exact g3.2.2.2 _ rfl
          · exact bp_Gm g3 (e4 p (by omega) hpc hpK)
end
end
section
/-! the reference's small methods -/
def bi_b (b : Bool) : Int32 := if b = true then 1 else 0
theorem bi_bn (b : Bool) : narrow .boolean (.int (bi_b b)) = .int (bi_b b) := by
  cases b <;> rfl
theorem bi_b0 {b : Bool} : bi_b b = 0 ↔ b = false := by
  cases b <;> decide
theorem bi_p2 : ∀ t, t < 16 → ∀ e, e < 16 → t ≠ e → 2 ^ t ≠ 2 ^ e := by decide +kernel
section
variable {bo pu kp ps tc tb : Int32} {K mv ts lv : Nat → Int32}
theorem wy_bad {post : Int32 → Prop} {c : Nat} (hc : c < 2 ^ 31) (h0 : c < 16 → post 0) (h1 : 16 ≤ c → post 1) : wpY_bad post (bo, pu, kp, ps, tc, tb, K, mv, ts, lv) (nI c) := by
  unfold wpY_bad
  dsimp only
  exact br_f (nI_pos hc) (pk_le c 15 (fun z => h0 (by omega)) (fun z => h1 (by omega)))
theorem wy_badN {post : Int32 → Prop} {x : Int32} (hx : x < 0 ∨ nI 16 ≤ x) (h1 : post 1) : wpY_bad post (bo, pu, kp, ps, tc, tb, K, mv, ts, lv) x := by
  by_cases z : x < 0
  · unfold wpY_bad
    exact br_t z h1
  · obtain ⟨j, hj, rfl⟩ := nI_of z
    have h16 := (nI_leI (by decide) hj).mp (hx.resolve_left z)
    exact wy_bad hj (fun y => by omega) (fun _ => h1)
theorem wy_has {post : Int32 → Prop} {m c : Nat} (hm : m < 65536) (hc : c < 16) (h1 : bp_has m c → post 1) (h0 : ¬ bp_has m c → post 0) : wpY_has post (bo, pu, kp, ps, tc, tb, K, mv, ts, lv) (nI m) (nI c) := by
  unfold wpY_has
  dsimp only
  rw [bi_has hm hc]
  exact pk_eq (m / 2 ^ c % 2) 1 h1 h0 rfl rfl (Nat.lt_trans (Nat.mod_lt _ (by decide)) (by decide)) (by decide)
theorem wy_n62 {post : Int32 → Prop} {t : Nat} (ht : t < 16) (h1 : bp_op K t → post (nI t)) (h0 : ¬ bp_op K t → post (-1)) : wY_next_62 post (nI t) bo pu kp ps tc tb K mv ts lv := by
  unfold wY_next_62
  refine wy_bad (by omega) (fun _ => br_t rfl ⟨vp_in_nI ht (by decide), ?_⟩) (fun z => absurd ht (by omega))
  rw [nI_clamp (by omega)]
  exact br_c (fun y => h0 (fun x => x.2 y)) (fun y => h1 ⟨ht, y⟩)
theorem wy_n62N {post : Int32 → Prop} {x : Int32} (hx : x < 0 ∨ nI 16 ≤ x) (h0 : post (-1)) : wY_next_62 post x bo pu kp ps tc tb K mv ts lv := by
  unfold wY_next_62
  exact wy_badN hx (br_f (by decide) h0)
theorem wy_next {post : Int32 → Prop} {c d : Nat} (hc : c < 16) (hd : d < 4) (h1 : bp_op K (bp_nb c d) → post (nI (bp_nb c d))) (h0 : ¬ bp_op K (bp_nb c d) → post (-1)) : wpY_next post (bo, pu, kp, ps, tc, tb, K, mv, ts, lv) (nI c) (nI d) := by
  unfold wpY_next
  dsimp only
  refine pk_eq d 0 (fun z => ?_) (fun z0 => pk_eq d 1 (fun z => ?_) (fun z1 => pk_eq d 2 (fun z => ⟨by decide, ?_⟩) (fun z2 => ⟨by decide, ?_⟩)))
  · rw [z, bp_nb0] at h1 h0
    by_cases y : c < 4
    · rw [if_pos y] at h0
      exact nm_e (wy_n62N (Or.inl (pk_sneg (b := 4) (by decide) y)) (h0 (fun x => by have := x.1; omega)))
    · rw [if_neg y] at h0 h1
      exact nm_r (pk_sub (b := 4) (by omega)) (wy_n62 (by omega) h1 h0)
  · rw [z, bp_nb1] at h1 h0
    by_cases y : c < 12
    · rw [if_pos y] at h0 h1
      exact nm_r (nI_add c 4) (wy_n62 (by omega) h1 h0)
    · rw [if_neg y] at h0
      exact nm_r (nI_add c 4) (wy_n62N (Or.inr (nI_le (by omega) (by omega))) (h0 (fun x => by have := x.1; omega)))
  · rw [z, bp_nb2] at h1 h0
    rw [bi_p4 (by omega)]
    refine pk_eq (c % 4) 0 (fun y => ?_) (fun y => ?_)
    · rw [if_pos y] at h0
      exact wy_n62N (Or.inl (by decide)) (h0 (fun x => by have := x.1; omega))
    · rw [if_neg y] at h0 h1
      rw [show nI c - 1 = nI (c - 1) from pk_sub (b := 1) (by omega)]
      exact wy_n62 (by omega) h1 h0
  · rw [show d = 3 by omega, bp_nb3] at h1 h0
    rw [bi_p4 (by omega)]
    refine pk_eq (c % 4) 3 (fun y => ?_) (fun y => ?_)
    · rw [if_pos y] at h0
      exact wy_n62N (Or.inl (by decide)) (h0 (fun x => by have := x.1; omega))
    · rw [if_neg y] at h0 h1
      rw [nI_1 c]
      exact wy_n62 (by omega) h1 h0
theorem wy_step {post : Int32 → SY → Prop} {x d : Nat} (hV : bp_V x) (hd : d < 4)
    (h0 : bp_ns K (bp_nd x) d = none → ∀ tc' tb', post 0 (bo, pu, kp, ps, tc', tb', K, mv, ts, lv))
    (h1 : ∀ M, bp_ns K (bp_nd x) d = some M → post (if bp_nd x / 16 = M / 16 then 1 else 2) (bo, pu, kp, ps, nI (M % 16), nI (M / 16), K, mv, ts, lv)) :
    wpY_step post (bo, pu, kp, ps, tc, tb, K, mv, ts, lv) (nI (x % 16)) (nI (bp_nd x / 16)) (nI d) := by
  obtain ⟨d1, d2⟩ := bp_ndD hV
  obtain ⟨hp, ha, hb, hab, _⟩ := hV.2
  have hm := bp_bmL _ ha _ hb hab
  unfold bp_ns at h0 h1
  rw [d1] at h0 h1
  rw [d2] at h0 h1 ⊢
  obtain ⟨n1, n2, n3, n4⟩ := bp_nbL (x % 16) hp d hd
  generalize hmm : bp_bm (x / 16 / 17) (x / 16 % 17) = m at *
  unfold bp_ns2 at h0 h1
  unfold wpY_step
  dsimp only
  refine wy_next hp hd (fun ho => ?_) (fun ho => br_f (by decide) (h0 (if_neg ho) _ _))
  rw [if_pos ho] at h0 h1
  have ht : bp_nb (x % 16) d < 16 := ho.1
  obtain ⟨m1, m2, m3, m4⟩ := bp_nbL _ ht d hd
  refine br_t (nI_pos' (by omega)) ?_
  refine wy_has hm ht (fun hh => ?_) (fun hh => br_t rfl ?_)
  · rw [if_neg (not_not_intro hh)] at h0 h1
    refine br_f (by decide) ?_
    refine wy_next ht hd (fun he => ?_) (fun he => br_t (by decide) (h0 (if_neg (fun y => he y.1)) _ _))
    have he16 : bp_nb (bp_nb (x % 16) d) d < 16 := he.1
    refine br_f (nI_pos (by omega)) ?_
    refine wy_has hm he16 (fun hx => br_f (by decide) (h0 (if_neg (fun y => y.2 hx)) _ _)) (fun hx => br_t rfl ?_)
    have hle := bp_hasLe hh
    have hpw := bi_p2 _ ht _ he16 (Ne.symm m2)
    have hq := h1 _ (if_pos ⟨he, hx⟩)
    rw [show ((m - 2 ^ bp_nb (x % 16) d + 2 ^ bp_nb (bp_nb (x % 16) d) d) * 16 + bp_nb (x % 16) d) / 16 = m - 2 ^ bp_nb (x % 16) d + 2 ^ bp_nb (bp_nb (x % 16) d) d by omega,
      show ((m - 2 ^ bp_nb (x % 16) d + 2 ^ bp_nb (bp_nb (x % 16) d) d) * 16 + bp_nb (x % 16) d) % 16 = bp_nb (x % 16) d by omega,
      if_neg (show ¬ m = m - 2 ^ bp_nb (x % 16) d + 2 ^ bp_nb (bp_nb (x % 16) d) d by omega)] at hq
    refine nm_r ?_ hq
    rw [← hmm] at hh hx ⊢
    exact bi_mvN ha hb hab ht he16 hh hx
  · rw [if_pos hh] at h1
    have hq := h1 _ rfl
    rw [show (m * 16 + bp_nb (x % 16) d) / 16 = m by omega, show (m * 16 + bp_nb (x % 16) d) % 16 = bp_nb (x % 16) d by omega, if_pos rfl] at hq
    exact hq
theorem wy_number {post : Int32 → Prop} {n : Nat} (hn : n < 137) (hts : ∀ i, i < 137 → ts i = nI (bp_tab i)) (h : post (nI n)) : wpY_number post (bo, pu, kp, ps, tc, tb, K, mv, ts, lv) (nI (bp_tab n)) := by
  have key : ∀ k i, i ≤ n → n < k + i → wY_number_2 post (nI (bp_tab n)) bo pu kp ps tc tb K mv ts lv k (nI i) := by
    intro k
    induction k with
    | zero => intro i h1 h2; omega
    | succ k ih =>
      intro i h1 h2
      rw [wY_number_2]
      refine br_f (nI_ge (b := 137) (by omega) (by decide)) ⟨vp_in_nI (by omega) (by decide), ?_⟩
      rw [nI_clamp (by omega), hts i (by omega)]
      have l1 := bp_tabL i (by omega)
      have l2 := bp_tabL n hn
      refine pk_eq (bp_tab i) (bp_tab n) (fun z => ?_) (fun z => nm_r (nI_1 i) (ih (i + 1) ?_ (by omega)))
      · rw [bp_tabI (by omega) hn z]; exact h
      · rcases Nat.lt_or_ge i n with y | y
        · exact y
        · exact absurd (congrArg bp_tab (show i = n by omega)) z
  exact ⟨138, key 138 0 (Nat.zero_le _) (by omega)⟩
theorem wy_size {post : Int32 → Prop} {m : Nat} (hm : m < 65536) (h : post (nI (bp_cnt (fun c => decide (bp_has m c)) 16))) : wpY_size post (bo, pu, kp, ps, tc, tb, K, mv, ts, lv) (nI m) := by
  unfold wpY_size
  dsimp only
  refine loop_0 (fun n i s => wY_size_4 post (nI m) bo pu kp ps tc tb K mv ts lv n s (nI i)) (fun i s => s = nI (bp_cnt (fun c => decide (bp_has m c)) i)) 16 0 rfl ?_ ?_
  · intro n s hs
    exact br_t (nI_le (b := 16) (Nat.le_refl _) (by decide)) (by rw [hs]; exact h)
  · intro n i s hi hs hk
    refine br_f (nI_ge (b := 16) hi (by decide)) (nm_r ?_ (nm_r (nI_1 i) (hk _ rfl)))
    rw [hs, bi_has hm hi, nI_add]
    apply congrArg nI
    show _ = bp_cnt (fun c => decide (bp_has m c)) i + (if decide (bp_has m i) = true then 1 else 0)
    by_cases z : bp_has m i
    · have z' : m / 2 ^ i % 2 = 1 := z
      rw [decide_eq_true z, if_pos rfl, z']
    · have z' : ¬ m / 2 ^ i % 2 = 1 := z
      rw [decide_eq_false z, if_neg (by decide)]
      have := Nat.mod_lt (m / 2 ^ i) (show 0 < 2 by decide)
      omega
theorem wy_isDone {post : Int32 → Prop} {m : Nat} (hm : m < 65536) (h1 : bp_D K m → post 1) (h0 : ¬ bp_D K m → post 0) : wpY_isDone post (bo, pu, kp, ps, tc, tb, K, mv, ts, lv) (nI m) := by
  unfold wpY_isDone
  dsimp only
  refine loop_0 (σ := Unit) (fun n i _ => wY_isDone_2 post (nI m) bo pu kp ps tc tb K mv ts lv n (nI i)) (fun i _ => ∀ c, c < i → bp_has m c → K c = 2) 16 () (fun c hc => by omega) ?_ ?_
  · intro n _ hI
    exact br_t (nI_le (b := 16) (Nat.le_refl _) (by decide)) (h1 hI)
  · intro n i _ hi hI hk
    have next : (bp_has m i → K i = 2) → ∀ x : Int32, x = nI i + 1 → wY_isDone_2 post (nI m) bo pu kp ps tc tb K mv ts lv n x := by
      intro hz
      refine nm_r (nI_1 i) (hk () (fun c hc hh => ?_))
      by_cases e : c = i
      · rw [e] at hh ⊢; exact hz hh
      · exact hI c (by omega) hh
    refine br_f (nI_ge (b := 16) hi (by decide)) ?_
    refine wy_has hm hi (fun hh => br_f (by decide) ⟨vp_in_nI hi (by decide), ?_⟩) (fun hh => br_t rfl (next (fun z => absurd z hh)))
    rw [nI_clamp (by omega)]
    exact br_c (fun z => next (fun _ => z)) (fun z => h0 (fun hD => z (hD i hi hh)))
theorem wy_clear {post : SY → Prop} (h : ∀ lv', bp_Lev lv' (fun _ => 0) → post (bo, pu, kp, ps, tc, tb, K, mv, ts, lv')) : wpY_clearLevels post (bo, pu, kp, ps, tc, tb, K, mv, ts, lv) := by
  unfold wpY_clearLevels
  dsimp only
  refine loop_0 (fun n i s => wY_clearLevels_2 post bo pu kp ps tc tb n (nI i) K mv ts s) (fun i s => ∀ y, y < i → s y = -1) 2192 lv (fun y hy => by omega) ?_ ?_
  · intro n s hI
    exact br_t (nI_le (b := 2192) (Nat.le_refl _) (by decide)) (h s (fun y hy => ⟨by rw [hI y hy, bi_lv0], Nat.zero_le _⟩))
  · intro n i s hi hI hk
    refine br_f (nI_ge (b := 2192) hi (by decide)) ⟨vp_in_nI hi (by decide), nm_e (nm_r (nI_1 i) (hk _ ?_))⟩
    intro y hy
    rw [nI_clamp (by omega)]
    by_cases z : y = i
    · rw [z]; exact pk_us
    · rw [pk_un z]; exact hI y (by omega)
end
end
section
/-! the reference's searches -/
section
variable {bo pu kp ps tc tb : Int32} {K mv ts lv : Nat → Int32}
/-- the end of a try: label z with level m + w, unless it has one that is no greater -/
theorem wy_r80 {post : Int32 → SY → Prop} {qb : Bool} {g : Nat → Nat} {m y d z w : Nat} (hL : bp_Lev lv g) (hm : m ≤ 1920) (hz : z < 2192) (hns : bp_ns K (bp_ga y) d = some (bp_ga z)) (hw : bp_w qb (bp_ga y) (bp_ga z) = w)
    (h : ∀ lv' g' r, bp_St K qb m g g' y d r → bp_Lev lv' g' → post (bi_b r) (bo, pu, kp, ps, tc, tb, K, mv, ts, lv')) : wY_reach_80 post (nI m) (nI z) (nI (m + w)) bo pu kp ps tc tb K mv ts lv := by
  obtain ⟨e1, e2⟩ := hL z hz
  have hw01 := bp_w01 qb (bp_ga y) (bp_ga z)
  have hnew : ¬ (0 < g z ∧ g z ≤ m + 1 + w) → wY_reach_106 post (nI m) (nI z) (nI (m + w)) bo pu kp ps tc tb K mv ts lv := by
    intro hn
    have hL' : bp_Lev (upd lv z (nI (m + w))) (fun i => if i = z then m + 1 + w else g i) := by
      intro i hi
      show upd lv z (nI (m + w)) i = bi_lv (if i = z then m + 1 + w else g i) ∧ (if i = z then m + 1 + w else g i) ≤ 4000
      by_cases e : i = z
      · rw [e, if_pos rfl, pk_us]
        refine ⟨?_, by omega⟩
        rw [show m + 1 + w = (m + w) + 1 by omega, bi_lvS]
      · rw [if_neg e, pk_un e]
        exact hL i hi
    refine ⟨vp_in_nI hz (by decide), nm_e ?_⟩
    rw [nI_clamp (by omega)]
    refine pk_eq (m + w) m (fun e => ?_) (fun e => ?_)
    · exact h _ _ true (Or.inr ⟨z, hz, hns, by rw [hw]; exact hn, by rw [hw], ⟨fun _ => by omega, fun _ => rfl⟩⟩) hL'
    · exact h _ _ false (Or.inr ⟨z, hz, hns, by rw [hw]; exact hn, by rw [hw], ⟨fun x => Bool.noConfusion x, fun x => by omega⟩⟩) hL'
  refine ⟨vp_in_nI hz (by decide), ?_⟩
  rw [nI_clamp (by omega), e1]
  refine br_c (fun x => hnew ?_) (fun x => ⟨vp_in_nI hz (by decide), br_c (fun v => hnew ?_) (fun v => ?_)⟩)
  · rw [bi_lvN (by omega)] at x
    omega
  · rw [← Int32.not_le, bi_lvL (by omega) (by omega)] at v
    omega
  · rw [Int32.not_lt, bi_lvL (by omega) (by omega)] at v
    rw [bi_lvN (by omega)] at x
    refine h lv g false (Or.inl ⟨rfl, ?_, rfl⟩) hL
    intro z' hz' hns'
    rw [hns] at hns'
    have := bp_gaI hz hz' (Option.some.inj hns')
    subst this
    rw [hw]
    omega
theorem wy_r48 {post : Int32 → SY → Prop} {qb : Bool} {g : Nat → Nat} {m y d z : Nat} {how : Int32} (hL : bp_Lev lv g) (hm : m ≤ 1920) (hz : z < 2192) (hns : bp_ns K (bp_ga y) d = some (bp_ga z)) (hh : (how = 1 ∧ bp_ga y / 16 = bp_ga z / 16) ∨ (how = 2 ∧ bp_ga y / 16 ≠ bp_ga z / 16))
    (h : ∀ lv' g' r, bp_St K qb m g g' y d r → bp_Lev lv' g' → post (bi_b r) (bo, pu, kp, ps, nI (z % 16), tb, K, mv, ts, lv')) : wY_reach_48 post (nI m) (bi_b qb) how (nI (z / 16)) bo pu kp ps (nI (z % 16)) tb K mv ts lv := by
  unfold wY_reach_48
  refine nm_r (e' := nI z) ?_ ?_
  · rw [show nI (z / 16) * 16 = nI (z / 16 * 16) from pk_mul (z / 16) 16, nI_add]
    exact congrArg nI (by omega)
  · refine br_c (fun x => ?_) (fun x => ?_)
    · have hq := bi_b0.mp x
      unfold wY_reach_77
      rw [nI_1 m]
      refine wy_r80 (w := 1) hL hm hz hns ?_ h
      rw [hq]
      exact bp_wf _ _
    · have hq : qb = true := by
        cases qb with
        | true => rfl
        | false => exact absurd rfl x
      rcases hh with ⟨e, e2⟩ | ⟨e, e2⟩
      · refine br_t e ?_
        refine wy_r80 (w := 0) hL hm hz hns ?_ h
        rw [hq]
        exact bp_wt0 e2
      · refine br_f (by rw [e]; decide) ?_
        unfold wY_reach_77
        rw [nI_1 m]
        refine wy_r80 (w := 1) hL hm hz hns ?_ h
        rw [hq]
        exact bp_wt1 e2
theorem wy_reach {post : Int32 → SY → Prop} {qb : Bool} {g : Nat → Nat} {m y d : Nat} (hts : ∀ i, i < 137 → ts i = nI (bp_tab i)) (hL : bp_Lev lv g) (hm : m ≤ 1920) (hy : y < 2192) (hd : d < 4) (hVN : bp_VN (bp_ga y))
    (h : ∀ tc' tb' lv' g' r, bp_St K qb m g g' y d r → bp_Lev lv' g' → post (bi_b r) (bo, pu, kp, ps, tc', tb', K, mv, ts, lv')) : wpY_reach post (bo, pu, kp, ps, tc, tb, K, mv, ts, lv) (nI y) (nI d) (nI m) (bi_b qb) := by
  have hVN' := hVN
  obtain ⟨x, hx, ex⟩ := hVN
  obtain ⟨a1, a2⟩ := bp_gaD y
  obtain ⟨b1, b2⟩ := bp_ndD hx
  have e1 : y % 16 = x % 16 := by rw [← a2, ← ex, b1]
  unfold wpY_reach
  dsimp only
  refine ⟨by decide, by decide, ?_⟩
  rw [bi_d16 (by omega), nI_clamp (by omega)]
  refine ⟨vp_in_nI (by omega) (by decide), ?_⟩
  rw [hts _ (by omega), ← bi_d16 (by omega), bi_p16 (by omega), e1, ← a1, ← ex]
  refine wy_step hx hd (fun hn tc' tb' => br_t rfl (h tc' tb' lv g false (Or.inl ⟨rfl, ?_, rfl⟩) hL)) (fun M hM => ?_)
  · intro z hz hns
    rw [← ex, hn] at hns
    cases hns
  · obtain ⟨z, hz, ez⟩ := bp_gaS (bp_VNs ⟨x, hx, rfl⟩ hd hM)
    subst ez
    obtain ⟨c1, c2⟩ := bp_gaD z
    rw [ex] at hM ⊢
    rw [c2]
    by_cases e : bp_ga y / 16 = bp_ga z / 16
    · rw [if_pos e]
      refine br_f (by decide) (br_t rfl ⟨by decide, ?_⟩)
      have e2 : y / 16 = z / 16 := by
        rw [a1, c1] at e
        exact bp_tabI (by omega) (by omega) e
      rw [bi_d16 (by omega), e2]
      exact wy_r48 hL hm hz hM (Or.inl ⟨rfl, e⟩) (fun lv' g' r s1 s2 => h _ _ lv' g' r s1 s2)
    · rw [if_neg e]
      refine br_f (by decide) (br_f (by decide) ?_)
      rw [c1]
      exact wy_number (by omega) hts (wy_r48 hL hm hz hM (Or.inr ⟨rfl, e⟩) (fun lv' g' r s1 s2 => h _ _ lv' g' r s1 s2))
theorem wy_s51 {post : Int32 → SY → Prop} {J5 J16 : Int32 → Int32 → Int32 → Int32 → Int32 → Int32 → Int32 → Int32 → (Nat → Int32) → (Nat → Int32) → (Nat → Int32) → (Nat → Int32) → Prop} {x1 x2 x4 : Int32} {i : Nat} {more r : Bool}
    (h : J16 (bi_b (more || r)) (nI (i + 1)) bo pu kp ps tc tb K mv ts lv) : wY_spread_51 post J5 J16 x1 x2 (bi_b more) x4 (nI i) (bi_b r) bo pu kp ps tc tb K mv ts lv := by
  unfold wY_spread_51
  cases more with
  | true => exact br_f (by decide) (nm_r (nI_1 i) h)
  | false =>
    refine br_t rfl ?_
    cases r with
    | true => exact br_f (by decide) (nm_r (nI_1 i) h)
    | false => exact br_t rfl (nm_r (nI_1 i) h)
theorem wy_spread {post : Int32 → SY → Prop} {qb : Bool} {Sd : Nat → Prop} {g0 : Nat → Nat} {m : Nat} (hts : ∀ i, i < 137 → ts i = nI (bp_tab i)) (hS : ∀ N, Sd N → bp_VN N) (hL : bp_Lev lv g0) (hm : m ≤ 1920) (hSo : bp_So K qb Sd m g0)
    (h : ∀ tc' tb' lv' g' more, bp_Sw K qb Sd m g0 g' more → bp_Lev lv' g' → post (bi_b more) (bo, pu, kp, ps, tc', tb', K, mv, ts, lv')) : wpY_spread post (bo, pu, kp, ps, tc, tb, K, mv, ts, lv) (nI m) (bi_b qb) := by
  unfold wpY_spread
  dsimp only
  refine loop_0 (σ := Int32 × Int32 × Int32 × (Nat → Int32)) (fun n s t => wY_spread_5 post (nI m) (bi_b qb) n t.1 (nI s) bo pu kp ps t.2.1 t.2.2.1 K mv ts t.2.2.2)
    (fun s t => ∃ g more, t.1 = bi_b more ∧ bp_Lev t.2.2.2 g ∧ bp_J K qb Sd m g0 g s 0 more) 2192 (0, tc, tb, lv) ⟨g0, false, rfl, hL, bp_J0 hSo⟩ ?_ ?_
  · intro n ⟨mo, tc1, tb1, lv1⟩ ⟨g, more, e1, e2, e3⟩
    dsimp only at e1 e2 ⊢
    subst e1
    exact br_t (nI_le (b := 2192) (Nat.le_refl _) (by decide)) ⟨bi_bn more, h _ _ _ _ _ (bp_J4 e3) e2⟩
  · intro n s ⟨mo, tc1, tb1, lv1⟩ hs ⟨g, more, e1, e2, e3⟩ hk
    dsimp only at e1 e2 ⊢
    subst e1
    refine br_f (nI_ge (b := 2192) hs (by decide)) ?_
    refine loop_0 (σ := Int32 × Int32 × Int32 × (Nat → Int32)) (fun k i t => wY_spread_16 post (wY_spread_5 post (nI m) (bi_b qb) n) (nI m) (bi_b qb) (nI s) k t.1 (nI i) bo pu kp ps t.2.1 t.2.2.1 K mv ts t.2.2.2)
      (fun i t => ∃ g more, t.1 = bi_b more ∧ bp_Lev t.2.2.2 g ∧ bp_J K qb Sd m g0 g s i more) 4 (bi_b more, tc1, tb1, lv1) ⟨g, more, rfl, e2, e3⟩ ?_ ?_
    · intro k ⟨mo, tc2, tb2, lv2⟩ ⟨g, more, e1, e2, e3⟩
      dsimp only at e1 e2 ⊢
      subst e1
      exact br_t (nI_le (b := 4) (Nat.le_refl _) (by decide)) (nm_r (nI_1 s) (hk (_, _, _, _) ⟨g, more, rfl, e2, bp_J1 e3⟩))
    · intro k i ⟨mo, tc2, tb2, lv2⟩ hi ⟨g, more, e1, e2, e3⟩ hk2
      dsimp only at e1 e2 ⊢
      subst e1
      refine br_f (nI_ge (b := 4) hi (by decide)) ⟨vp_in_nI hs (by decide), ?_⟩
      rw [nI_clamp (by omega), (e2 s hs).1]
      have hg4 := (e2 s hs).2
      refine br_c (fun x => ?_) (fun x => ?_)
      · rw [bi_lvE (by omega) (by omega)] at x
        have hVN : bp_VN (bp_ga s) := bp_RV hS (e3.2.1 s hs (by omega)).2
        refine wy_reach hts e2 hm hs hi hVN (fun tc3 tb3 lv3 g3 r s1 s2 => ?_)
        have hJ := bp_J3 hs hi e3 x s1
        refine br_c (fun z => ?_) (fun z => ?_)
        · have hr := bi_b0.mp z
          subst hr
          exact wy_s51 (r := false) (hk2 (_, _, _, _) ⟨g3, _, rfl, s2, hJ⟩)
        · have hr : r = true := by
            cases r with
            | true => rfl
            | false => exact absurd rfl z
          subst hr
          exact wy_s51 (r := true) (hk2 (_, _, _, _) ⟨g3, _, rfl, s2, hJ⟩)
      · rw [bi_lvE (by omega) (by omega)] at x
        have hk3 := hk2 (bi_b more, tc2, tb2, lv2) ⟨g, more, rfl, e2, bp_J2 hs e3 x⟩
        refine wy_s51 (r := false) ?_
        rw [Bool.or_false]
        exact hk3
theorem wy_spreadAll {post : SY → Prop} {qb : Bool} {Sd : Nat → Prop} {gt : Nat → Nat} {m : Nat} (hts : ∀ i, i < 137 → ts i = nI (bp_tab i)) (hS : ∀ N, Sd N → bp_VN N) (hL : bp_Lev lv gt) (hm : m ≤ 1920) (hSo : bp_So K qb Sd m gt)
    (h : ∀ tc' tb' lv' g, bp_Lev lv' g → bp_Chg m gt g → bp_So K qb Sd m g → (∀ y, y < 2192 → g y = m + 1 → ∀ e, e < 4 → bp_Ex K qb m g y e) → post (bo, pu, kp, ps, tc', tb', K, mv, ts, lv')) : wpY_spreadAll post (bo, pu, kp, ps, tc, tb, K, mv, ts, lv) (nI m) (bi_b qb) := by
  unfold wpY_spreadAll
  dsimp only
  refine loop_0 (σ := Int32 × Int32 × Int32 × (Nat → Int32)) (fun n k t => wY_spreadAll_5 post (nI m) (bi_b qb) n t.1 (nI k) bo pu kp ps t.2.1 t.2.2.1 K mv ts t.2.2.2)
    (fun k t => ∃ g more, t.1 = bi_b more ∧ bp_Lev t.2.2.2 g ∧ bp_L K qb Sd m gt g k more) 17 (1, tc, tb, lv) ⟨gt, true, rfl, hL, bp_L0 hSo⟩ ?_ ?_
  · intro n ⟨mo, tc1, tb1, lv1⟩ ⟨g, more, e1, e2, e3⟩
    dsimp only at e1 e2 ⊢
    obtain ⟨l1, l2, l3⟩ := bp_L2 e3 (Or.inl (Nat.le_refl _))
    exact br_t (nI_le (b := 17) (Nat.le_refl _) (by decide)) (h _ _ _ g e2 l1 l2 l3)
  · intro n k ⟨mo, tc1, tb1, lv1⟩ hk ⟨g, more, e1, e2, e3⟩ hn
    dsimp only at e1 e2 ⊢
    subst e1
    refine br_f (nI_ge (b := 17) hk (by decide)) (br_c (fun z => ?_) (fun z => ?_))
    · obtain ⟨l1, l2, l3⟩ := bp_L2 e3 (Or.inr (bi_b0.mp z))
      exact h _ _ _ g e2 l1 l2 l3
    · have hmo : more = true := by
        cases more with
        | true => rfl
        | false => exact absurd rfl z
      subst hmo
      refine wy_spread hts hS e2 hm e3.2.1 (fun tc2 tb2 lv2 g2 more2 s1 s2 => nm_r (nI_1 k) ?_)
      exact hn (_, _, _, _) ⟨g2, more2, rfl, s2, bp_L1 e3 s1⟩
theorem wy_doneAt {post : Int32 → Prop} {g : Nat → Nat} {m : Nat} (hts : ∀ i, i < 137 → ts i = nI (bp_tab i)) (hL : bp_Lev lv g) (hm : m ≤ 1921)
    (h1 : ∀ y, y < 2192 → g y = m + 1 → bp_D K (bp_tab (y / 16)) → post 1) (h0 : (∀ y, y < 2192 → g y = m + 1 → ¬ bp_D K (bp_tab (y / 16))) → post 0) : wpY_doneAt post (bo, pu, kp, ps, tc, tb, K, mv, ts, lv) (nI m) := by
  unfold wpY_doneAt
  dsimp only
  refine loop_0 (σ := Unit) (fun n i _ => wY_doneAt_2 post (nI m) bo pu kp ps tc tb K mv ts lv n (nI i)) (fun i _ => ∀ y, y < 2192 → y < i → g y = m + 1 → ¬ bp_D K (bp_tab (y / 16))) 2192 () (fun y _ hy => by omega) ?_ ?_
  · intro n _ hI
    exact br_t (nI_le (b := 2192) (Nat.le_refl _) (by decide)) (h0 (fun y hy => hI y hy hy))
  · intro n i _ hi hI hk
    have next : (g i = m + 1 → ¬ bp_D K (bp_tab (i / 16))) → ∀ x : Int32, x = nI i + 1 → wY_doneAt_2 post (nI m) bo pu kp ps tc tb K mv ts lv n x := by
      intro hz
      refine nm_r (nI_1 i) (hk () (fun y hy hyi hg => ?_))
      by_cases e : y = i
      · rw [e] at hg ⊢; exact hz hg
      · exact hI y hy (by omega) hg
    obtain ⟨l1, l2⟩ := hL i hi
    refine br_f (nI_ge (b := 2192) hi (by decide)) ⟨vp_in_nI hi (by decide), ?_⟩
    rw [nI_clamp (by omega), l1]
    refine br_c (fun x => ⟨by decide, ?_⟩) (fun x => next (fun z => absurd ((bi_lvE (by omega) (by omega)).mpr z) x))
    rw [bi_lvE (by omega) (by omega)] at x
    rw [bi_d16 (by omega), nI_clamp (by omega), hts _ (by omega)]
    refine ⟨vp_in_nI (by omega) (by decide), ?_⟩
    exact wy_isDone (bp_tabL _ (by omega)) (fun hD => br_f (by decide) (h1 i hi x hD)) (fun hD => br_t rfl (next (fun _ => hD)))
theorem wy_some {post : Int32 → Prop} {g : Nat → Nat} {m : Nat} (hL : bp_Lev lv g) (hm : m ≤ 1922)
    (h1 : (∃ y, y < 2192 ∧ g y = m + 1) → post 1) (h0 : (∀ y, y < 2192 → g y ≠ m + 1) → post 0) : wpY_some post (bo, pu, kp, ps, tc, tb, K, mv, ts, lv) (nI m) := by
  unfold wpY_some
  dsimp only
  refine loop_0 (σ := Unit) (fun n i _ => wY_some_2 post (nI m) bo pu kp ps tc tb K mv ts lv n (nI i)) (fun i _ => ∀ y, y < 2192 → y < i → g y ≠ m + 1) 2192 () (fun y _ hy => by omega) ?_ ?_
  · intro n _ hI
    exact br_t (nI_le (b := 2192) (Nat.le_refl _) (by decide)) (h0 (fun y hy => hI y hy hy))
  · intro n i _ hi hI hk
    obtain ⟨l1, l2⟩ := hL i hi
    refine br_f (nI_ge (b := 2192) hi (by decide)) ⟨vp_in_nI hi (by decide), ?_⟩
    rw [nI_clamp (by omega), l1]
    refine br_c (fun x => h1 ⟨i, hi, (bi_lvE (by omega) (by omega)).mp x⟩) (fun x => nm_r (nI_1 i) (hk () (fun y hy hyi hg => ?_)))
    by_cases e : y = i
    · rw [e] at hg; exact x ((bi_lvE (by omega) (by omega)).mpr hg)
    · exact hI y hy (by omega) hg
theorem wy_searchL {post : Int32 → SY → Prop} {qb : Bool} {Sd : Nat → Prop} (hts : ∀ i, i < 137 → ts i = nI (bp_tab i)) (hS : ∀ N, Sd N → bp_VN N)
    (h : ∀ r tc' tb' lv', bp_A K qb Sd r → post r (bo, pu, kp, ps, tc', tb', K, mv, ts, lv')) :
    ∀ n m g tc tb lv, 1921 < n + m → bp_U K qb Sd m g → bp_Lev lv g → wY_search_2 post (bi_b qb) n (nI m) bo pu kp ps tc tb K mv ts lv := by
  intro n
  induction n with
  | zero =>
    intro m g tc tb lv h1 hU
    have := bp_Ubig hS hU
    omega
  | succ n ih =>
    intro m g tc tb lv h1 hU hL
    have hm := bp_Ubig hS hU
    rw [wY_search_2]
    refine br_f (nI_ge (b := 1921) (by omega) (by decide)) ?_
    refine wy_spreadAll hts hS hL hm (bp_USo hU) (fun tc1 tb1 lv1 g1 l1 c1 c2 c3 => ?_)
    refine wy_doneAt hts l1 (by omega) (fun y hy hg hD => ?_) (fun hD => ?_)
    · exact br_f (by decide) (h _ _ _ _ (bp_Uyes hS (by omega) hU c1 c2 c3 hy hg hD))
    · refine br_t rfl ?_
      rw [nI_1 m]
      refine wy_some l1 (by omega) (fun hE => br_f (by decide) (nm_e ?_)) (fun hE => br_t rfl (h _ _ _ _ (bp_Uno hS hU c1 c2 c3 hD hE)))
      exact ih (m + 1) g1 tc1 tb1 lv1 (by omega) (bp_Unext hU c1 c2 c3 hD hE) l1
theorem wy_search {post : Int32 → SY → Prop} {qb : Bool} {Sd : Nat → Prop} {g : Nat → Nat} (hts : ∀ i, i < 137 → ts i = nI (bp_tab i)) (hS : ∀ N, Sd N → bp_VN N) (hL : bp_Lev lv g) (h1 : ∀ N, Sd N → ∃ y, y < 2192 ∧ bp_ga y = N ∧ g y = 1) (h2 : ∀ y, y < 2192 → g y = 0 ∨ (g y = 1 ∧ Sd (bp_ga y)))
    (h : ∀ r tc' tb' lv', bp_A K qb Sd r → post r (bo, pu, kp, ps, tc', tb', K, mv, ts, lv')) : wpY_search post (bo, pu, kp, ps, tc, tb, K, mv, ts, lv) (bi_b qb) :=
  ⟨1922, wy_searchL hts hS h 1922 0 g tc tb lv (by omega) (bp_U0 h1 h2) hL⟩
theorem wy_least {post : Int32 → SY → Prop} {qb : Bool} {x : Nat} (hts : ∀ i, i < 137 → ts i = nI (bp_tab i)) (hx : bp_V x)
    (h : ∀ r tc' tb' lv', bp_A K qb (bp_S1 (bp_nd x)) r → post r (bo, pu, kp, ps, tc', tb', K, mv, ts, lv')) : wpY_least post (bo, pu, kp, ps, tc, tb, K, mv, ts, lv) (nI (x % 16)) (nI (bp_nd x / 16)) (bi_b qb) := by
  obtain ⟨y, hy, ey⟩ := bp_gaS ⟨x, hx, rfl⟩
  obtain ⟨a1, a2⟩ := bp_gaD y
  obtain ⟨b1, b2⟩ := bp_ndD hx
  unfold wpY_least
  dsimp only
  refine wy_clear (fun lv1 hL1 => ?_)
  rw [← ey, a1, ← b1, ← ey, a2]
  refine wy_number (by omega) hts ?_
  have e : nI (y / 16) * 16 + nI (y % 16) = nI y := by
    rw [show nI (y / 16) * 16 = nI (y / 16 * 16) from pk_mul (y / 16) 16, nI_add]
    exact congrArg nI (by omega)
  rw [e]
  refine ⟨vp_in_nI hy (by decide), nm_e ?_⟩
  rw [nI_clamp (by omega)]
  refine wy_search (g := fun i => if i = y then 1 else 0) hts (bp_S1V hx) ?_ ?_ ?_ (fun r tc' tb' lv' hA => h r tc' tb' lv' hA)
  · intro i hi
    show upd lv1 y 0 i = bi_lv (if i = y then 1 else 0) ∧ (if i = y then 1 else 0) ≤ 4000
    by_cases z : i = y
    · rw [z, if_pos rfl, pk_us]
      exact ⟨(bi_lvS 0).symm, by decide⟩
    · rw [if_neg z, pk_un z]
      exact hL1 i hi
  · intro N hN
    exact ⟨y, hy, by rw [ey]; exact Eq.symm hN, if_pos rfl⟩
  · intro i hi
    by_cases z : i = y
    · rw [z]
      exact Or.inr ⟨if_pos rfl, ey⟩
    · exact Or.inl (if_neg z)
end
end
section
/-! the reference: bestMove, dead, region, its table -/
theorem bi_tri : ∀ a, a < 16 → (a + 1) * (a + 1 + 1) / 2 = a * (a + 1) / 2 + (a + 1) := by decide +kernel
theorem bi_ixc : ∀ c, c < 16 → bp_ix c 16 < 137 ∧ bp_tab (bp_ix c 16) = 2 ^ c := by decide +kernel
/-- a sweep of region's over the cells: w0 before it, w now, c the next cell -/
def bp_Wj (K : Nat → Int32) (m p : Nat) (w0 w c : Nat) : Prop :=
  w < 65536 ∧ (∀ e, e < 16 → bp_has w0 e → bp_has w e) ∧
  (∀ b d, b < c → b < 16 → d < 4 → bp_has w0 b → bp_op K (bp_nb b d) → ¬ bp_has m (bp_nb b d) → bp_has w (bp_nb b d)) ∧
  (∀ e, e < 16 → bp_has w e → bp_R K true (bp_S1 (m * 16 + p)) 0 (m * 16 + e)) ∧
  (bp_Wc K m w0 → ∀ e, e < 16 → bp_has w e → bp_has w0 e)
theorem bp_Wj1 {K : Nat → Int32} {m p w0 w c : Nat} (h : bp_Wj K m p w0 w c) (hn : ¬ bp_has w c) : bp_Wj K m p w0 w (c + 1) := by
  obtain ⟨a1, a2, a3, a4, a5⟩ := h
  refine ⟨a1, a2, fun b d hb hb16 hd hw ho hm => ?_, a4, a5⟩
  by_cases e : b = c
  · rw [e] at hw hb16; exact absurd (a2 c hb16 hw) hn
  · exact a3 b d (by omega) hb16 hd hw ho hm
theorem bp_Wj2 {K : Nat → Int32} {m p w0 w c a : Nat} (hc : c < 16) (h : bp_Wj K m p w0 w c) (hw : bp_has w c) (ha : a < 65536) (hA : ∀ e, e < 16 → (bp_has a e ↔ ∃ d, d < 4 ∧ bp_nb c d = e ∧ bp_op K e ∧ ¬ bp_has m e)) : bp_Wj K m p w0 (w ||| a) (c + 1) := by
  obtain ⟨a1, a2, a3, a4, a5⟩ := h
  refine ⟨Nat.or_lt_two_pow (n := 16) a1 ha, fun e he hw0 => (bp_hasOr _ _ _).mpr (Or.inl (a2 e he hw0)), fun b d hb hb16 hd hw0 ho hm => ?_, fun e he hh => ?_, fun hcl e he hh => ?_⟩
  · by_cases e : b = c
    · rw [e] at ho hm ⊢
      exact (bp_hasOr _ _ _).mpr (Or.inr ((hA _ ho.1).mpr ⟨d, hd, rfl, ho, hm⟩))
    · exact (bp_hasOr _ _ _).mpr (Or.inl (a3 b d (by omega) hb16 hd hw0 ho hm))
  · rcases (bp_hasOr _ _ _).mp hh with z | z
    · exact a4 e he z
    · obtain ⟨d, hd, rfl, ho, hm⟩ := (hA e he).mp z
      obtain ⟨s1, s2⟩ := bp_walkI hc ho hm
      have hR := bp_R1 (a4 c hc hw) hd s1
      rw [s2] at hR
      exact hR
  · rcases (bp_hasOr _ _ _).mp hh with z | z
    · exact a5 hcl e he z
    · obtain ⟨d, hd, rfl, ho, hm⟩ := (hA e he).mp z
      exact hcl c d hc hd (a5 hcl c hc hw) ho hm
def bp_Wk (K : Nat → Int32) (m p k w : Nat) : Prop :=
  w < 65536 ∧ bp_has w p ∧ (∀ e, e < 16 → bp_has w e → bp_R K true (bp_S1 (m * 16 + p)) 0 (m * 16 + e)) ∧
  (bp_Wc K m w ∨ k + 1 ≤ bp_cnt (fun c => decide (bp_has w c)) 16)
theorem bp_Wk0 {K : Nat → Int32} {m p : Nat} (hp : p < 16) : bp_Wk K m p 0 (2 ^ p) := by
  have h1 : bp_has (2 ^ p) p := (bp_hasP p hp p hp).mpr rfl
  refine ⟨Nat.pow_lt_pow_right (a := 2) (by decide) hp, h1, fun e he hh => ?_, Or.inr ?_⟩
  · rw [(bp_hasP p hp e he).mp hh]
    exact bp_R0 rfl
  · have := bp_cstr (f := fun _ => false) (g := fun c => decide (bp_has (2 ^ p) c)) (n := 16) (fun _ _ z => Bool.noConfusion z) ⟨p, hp, rfl, decide_eq_true h1⟩
    omega
theorem bp_WkJ {K : Nat → Int32} {m p k w : Nat} (h : bp_Wk K m p k w) : bp_Wj K m p w w 0 :=
  ⟨h.1, fun _ _ z => z, fun b d hb => absurd hb (Nat.not_lt_zero _), h.2.2.1, fun _ _ _ z => z⟩
theorem bp_Wk1 {K : Nat → Int32} {m p k w0 w : Nat} (hp : p < 16) (h : bp_Wk K m p k w0) (hj : bp_Wj K m p w0 w 16) : bp_Wk K m p (k + 1) w := by
  obtain ⟨b1, b2, b3, b4⟩ := h
  obtain ⟨a1, a2, a3, a4, a5⟩ := hj
  refine ⟨a1, a2 p hp b2, a4, ?_⟩
  have same : (∀ e, e < 16 → bp_has w e → bp_has w0 e) → bp_Wc K m w := by
    intro hs c d hc hd hw ho hm
    exact a3 c d hc hc hd (hs c hc hw) ho hm
  rcases b4 with z | z
  · exact Or.inl (same (a5 z))
  · by_cases hn : ∃ e, e < 16 ∧ ¬ bp_has w0 e ∧ bp_has w e
    · obtain ⟨e, e1, e2, e3⟩ := hn
      refine Or.inr (Nat.le_trans (Nat.succ_le_succ z) (bp_cstr (fun i hi hgi => ?_) ⟨e, e1, decide_eq_false e2, decide_eq_true e3⟩))
      exact decide_eq_true (a2 i hi (of_decide_eq_true hgi))
    · refine Or.inl (same (fun e he hw => ?_))
      apply Classical.byContradiction
      intro hne
      exact hn ⟨e, he, hne, hw⟩
theorem bp_WkE {K : Nat → Int32} {m p w : Nat} (hp : p < 16) (hV : bp_VN (m * 16 + p)) (h : bp_Wk K m p 16 w) : bp_Rg K (m * 16 + p) (bp_cnt (fun c => decide (bp_has w c)) 16) := by
  obtain ⟨b1, b2, b3, b4⟩ := h
  have hcl : bp_Wc K m w := by
    rcases b4 with z | z
    · exact z
    · have := bp_cle (fun c => decide (bp_has w c)) 16
      omega
  refine ⟨fun c => decide (bp_has w c), rfl, fun c hc => ?_⟩
  rw [show (m * 16 + p) / 16 = m by omega]
  constructor
  · intro z
    exact b3 c hc (of_decide_eq_true z)
  · intro z
    exact decide_eq_true (bp_Wfull hp hV b2 hcl c hc z)
section
variable {bo pu kp ps tc tb : Int32} {K mv ts lv : Nat → Int32}
theorem wy_bestMove {post : Int32 → SY → Prop} {x : Nat} (hts : ∀ i, i < 137 → ts i = nI (bp_tab i)) (hx : bp_V x)
    (h : ∀ r tc' tb' lv', bp_BM K (bp_nd x) r → post r (nI (bp_nd x / 16), nI (x % 16), kp, ps, tc', tb', K, mv, ts, lv')) : wpY_bestMove post (nI (bp_nd x / 16), nI (x % 16), kp, ps, tc, tb, K, mv, ts, lv) := by
  unfold wpY_bestMove wpY_leastMoves
  dsimp only
  refine wy_least (qb := false) hts hx (fun r tc1 tb1 lv1 hA => ?_)
  rcases bp_Aval hA with e | ⟨k, hk, e⟩
  · subst e
    exact br_f (by decide) (h _ _ _ _ ⟨_, hA, Or.inl ⟨Or.inl rfl, rfl⟩⟩)
  · subst e
    refine pk_le 1 k (fun y => ?_) (fun y => h _ _ _ _ ⟨_, hA, Or.inl ⟨Or.inr ?_, rfl⟩⟩)
    · have hne : ¬ (nI k = -6 ∨ nI k = 0) := by
        rintro (z | z)
        · exact bp_m6 hk z
        · exact nI_ne0 (by omega) (by omega) z
      refine loop_0 (σ := Int32 × Int32 × (Nat → Int32)) (fun n i t => wY_bestMove_15 post (nI k) n (nI i) (nI (bp_nd x / 16)) (nI (x % 16)) kp ps t.1 t.2.1 K mv ts t.2.2) (fun i _ => ∀ e, e < i → ¬ bp_Bq K (bp_nd x) (nI k) e) 4 (tc1, tb1, lv1) (fun e he => by omega) ?_ ?_
      · intro n ⟨tc2, tb2, lv2⟩ hI
        exact br_t (nI_le (b := 4) (Nat.le_refl _) (by decide)) (h _ _ _ _ ⟨_, hA, Or.inr ⟨hne, Or.inr ⟨rfl, hI⟩⟩⟩)
      · intro n i ⟨tc2, tb2, lv2⟩ hi hI hn
        refine br_f (nI_ge (b := 4) hi (by decide)) ?_
        dsimp only at hI ⊢
        have next : ∀ tc3 tb3 lv3, ¬ bp_Bq K (bp_nd x) (nI k) i → ∀ x2 : Int32, x2 = nI i + 1 → wY_bestMove_15 post (nI k) n x2 (nI (bp_nd x / 16)) (nI (x % 16)) kp ps tc3 tb3 K mv ts lv3 := by
          intro tc3 tb3 lv3 hno
          refine nm_r (nI_1 i) (hn (tc3, tb3, lv3) (fun e he => ?_))
          by_cases w : e = i
          · rw [w]; exact hno
          · exact hI e (by omega)
        refine wy_step hx hi (fun hno tc3 tb3 => br_t (by decide) (next _ _ _ ?_)) (fun M hM => ?_)
        · rintro ⟨M, m1, _⟩
          rw [hno] at m1
          cases m1
        · rcases bp_comm K hx hi with ⟨_, c2⟩ | ⟨t, c1, c2, vt, _⟩
          · rw [hM] at c2; cases c2
          · have c3 := hM
            rw [c2] at c3
            have c4 := Option.some.inj c3
            subst c4
            obtain ⟨b1, b2⟩ := bp_ndD vt
            refine br_f ?_ ?_
            · split <;> decide
            · rw [b1]
              refine wy_least (qb := false) hts vt (fun r' tc4 tb4 lv4 hA' => br_c (fun w => ?_) (fun w => next _ _ _ ?_))
              · refine h _ _ _ _ ⟨_, hA, Or.inr ⟨hne, Or.inl ⟨i, hi, rfl, ⟨bp_nd t, hM, ?_⟩, hI⟩⟩⟩
                rw [← w]; exact hA'
              · rintro ⟨M, m1, m2⟩
                rw [hM] at m1
                cases Option.some.inj m1
                exact w (bp_Au m2 hA')
    · have e0 : k = 0 := by omega
      rw [e0]; rfl
theorem wy_dead {post : Int32 → SY → Prop} {c : Nat} (hts : ∀ i, i < 137 → ts i = nI (bp_tab i)) (hc : c < 16) (hK1 : ¬ K c = 1) (hK2 : ¬ K c = 2)
    (h : ∀ r tc' tb' lv', bp_A K true (bp_Sc K c) r → ((r = -6 → post 1 (bo, pu, kp, ps, tc', tb', K, mv, ts, lv')) ∧ (¬ r = -6 → post 0 (bo, pu, kp, ps, tc', tb', K, mv, ts, lv')))) : wpY_dead post (bo, pu, kp, ps, tc, tb, K, mv, ts, lv) (nI c) := by
  obtain ⟨i1, i2⟩ := bi_ixc c hc
  unfold wpY_dead
  dsimp only
  refine wy_bad (by omega) (fun _ => br_t rfl ⟨vp_in_nI hc (by decide), ?_⟩) (fun z => absurd hc (by omega))
  rw [nI_clamp (by omega)]
  refine br_f hK1 ⟨vp_in_nI hc (by decide), br_f hK2 ?_⟩
  refine wy_clear (fun lv1 hL1 => ?_)
  rw [bi_shl c hc, ← i2]
  refine wy_number i1 hts ?_
  refine loop_0 (fun n i t => wY_dead_44 post (nI c) (nI (bp_ix c 16)) bo pu kp ps tc tb n (nI i) K mv ts t)
    (fun i t => ∃ g, bp_Lev t g ∧ (∀ y, y < 2192 → g y = 0 ∨ (g y = 1 ∧ ∃ p, p < 16 ∧ p ≠ c ∧ ¬ K p = 1 ∧ y = bp_ix c 16 * 16 + p)) ∧ (∀ p, p < i → p ≠ c → ¬ K p = 1 → g (bp_ix c 16 * 16 + p) = 1)) 16 lv1 ⟨_, hL1, fun y _ => Or.inl rfl, fun p hp => by omega⟩ ?_ ?_
  · intro n t ⟨g, g1, g2, g3⟩
    refine br_t (nI_le (b := 16) (Nat.le_refl _) (by decide)) ?_
    have hga : ∀ p, p < 16 → bp_ga (bp_ix c 16 * 16 + p) = 2 ^ c * 16 + p := by
      intro p hp
      unfold bp_ga
      rw [show (bp_ix c 16 * 16 + p) / 16 = bp_ix c 16 by omega, show (bp_ix c 16 * 16 + p) % 16 = p by omega, i2]
    refine wy_search (qb := true) (Sd := bp_Sc K c) hts (bp_ScV hc) g1 ?_ ?_ (fun r tc' tb' lv' hA => h r tc' tb' lv' hA)
    · intro N ⟨p, p1, p2, p3, p4⟩
      exact ⟨bp_ix c 16 * 16 + p, by omega, by rw [hga p p1, p4], g3 p p1 p2 p3⟩
    · intro y hy
      rcases g2 y hy with z | ⟨z, p, p1, p2, p3, p4⟩
      · exact Or.inl z
      · exact Or.inr ⟨z, p, p1, p2, p3, by rw [p4, hga p p1]⟩
  · intro n i t hi ⟨g, g1, g2, g3⟩ hk
    refine br_f (nI_ge (b := 16) hi (by decide)) ?_
    refine pk_eq i c (fun z => nm_r (nI_1 i) (hk t ⟨g, g1, g2, fun p hp hpc => g3 p (by omega) hpc⟩)) (fun z => ⟨vp_in_nI hi (by decide), ?_⟩)
    rw [nI_clamp (by omega)]
    refine br_c (fun y => nm_r (nI_1 i) (hk t ⟨g, g1, g2, fun p hp hpc hpK => ?_⟩)) (fun y => ?_)
    · by_cases w : p = i
      · rw [w] at hpK; exact absurd y hpK
      · exact g3 p (by omega) hpc hpK
    · have e : nI (bp_ix c 16) * 16 + nI i = nI (bp_ix c 16 * 16 + i) := by
        rw [show nI (bp_ix c 16) * 16 = nI (bp_ix c 16 * 16) from pk_mul (bp_ix c 16) 16, nI_add]
      rw [e]
      refine ⟨vp_in_nI (by omega) (by decide), nm_e (nm_r (nI_1 i) (hk _ ⟨fun j => if j = bp_ix c 16 * 16 + i then 1 else g j, ?_, ?_, ?_⟩))⟩
      · rw [nI_clamp (by omega)]
        intro j hj
        show upd t (bp_ix c 16 * 16 + i) 0 j = bi_lv (if j = bp_ix c 16 * 16 + i then 1 else g j) ∧ (if j = bp_ix c 16 * 16 + i then 1 else g j) ≤ 4000
        by_cases w : j = bp_ix c 16 * 16 + i
        · rw [w, if_pos rfl, pk_us]
          exact ⟨(bi_lvS 0).symm, by decide⟩
        · rw [if_neg w, pk_un w]
          exact g1 j hj
      · intro j hj
        show (if j = bp_ix c 16 * 16 + i then 1 else g j) = 0 ∨ ((if j = bp_ix c 16 * 16 + i then 1 else g j) = 1 ∧ _)
        by_cases w : j = bp_ix c 16 * 16 + i
        · rw [if_pos w]
          exact Or.inr ⟨rfl, i, hi, z, y, w⟩
        · rw [if_neg w]
          exact g2 j hj
      · intro p hp hpc hpK
        show (if bp_ix c 16 * 16 + p = bp_ix c 16 * 16 + i then 1 else g (bp_ix c 16 * 16 + p)) = 1
        by_cases w : p = i
        · rw [w]; exact if_pos rfl
        · rw [if_neg (by omega)]
          exact g3 p (by omega) hpc hpK
theorem wy_around {post : Int32 → Prop} {m c : Nat} (hm : m < 65536) (hc : c < 16)
    (h : ∀ a, a < 65536 → (∀ e, e < 16 → (bp_has a e ↔ ∃ d, d < 4 ∧ bp_nb c d = e ∧ bp_op K e ∧ ¬ bp_has m e)) → post (nI a)) : wpY_around post (nI m, pu, kp, ps, tc, tb, K, mv, ts, lv) (nI c) := by
  unfold wpY_around
  dsimp only
  refine loop_0 (fun n i s => wY_around_4 post (nI c) (nI m) pu kp ps tc tb K mv ts lv n s (nI i)) (fun i s => ∃ a, s = nI a ∧ a < 65536 ∧ ∀ e, e < 16 → (bp_has a e ↔ ∃ d, d < i ∧ bp_nb c d = e ∧ bp_op K e ∧ ¬ bp_has m e)) 4 0 ?_ ?_ ?_
  · refine ⟨0, rfl, by decide, fun e he => ⟨fun z => absurd z (bp_has0 e), ?_⟩⟩
    rintro ⟨d, hd, _⟩
    omega
  · intro n s ⟨a, e1, e2, e3⟩
    subst e1
    exact br_t (nI_le (b := 4) (Nat.le_refl _) (by decide)) (h a e2 e3)
  · intro n i s hi ⟨a, e1, e2, e3⟩ hk
    subst e1
    have skip : ¬ (bp_op K (bp_nb c i) ∧ ¬ bp_has m (bp_nb c i)) → ∀ x3 : Int32, x3 = nI i + 1 → wY_around_4 post (nI c) (nI m) pu kp ps tc tb K mv ts lv n (nI a) x3 := by
      intro hno
      refine nm_r (nI_1 i) (hk (nI a) ⟨a, rfl, e2, fun e he => ⟨fun z => ?_, fun z => (e3 e he).mpr ?_⟩⟩)
      · obtain ⟨d, hd, y⟩ := (e3 e he).mp z
        exact ⟨d, by omega, y⟩
      · obtain ⟨d, hd, y1, y2, y3⟩ := z
        by_cases w : d = i
        · subst w
          rw [← y1] at y2 y3
          exact absurd ⟨y2, y3⟩ hno
        · exact ⟨d, by omega, y1, y2, y3⟩
    refine br_f (nI_ge (b := 4) hi (by decide)) ?_
    refine wy_next hc hi (fun ho => ?_) (fun ho => br_t (by decide) (skip (fun z => ho z.1)))
    have ht : bp_nb c i < 16 := ho.1
    refine br_f (nI_pos (by omega)) ?_
    refine wy_has hm ht (fun hh => br_f (by decide) (skip (fun z => z.2 hh))) (fun hh => br_t rfl ?_)
    rw [bi_shl _ ht, bi_or]
    refine nm_e (nm_r (nI_1 i) (hk _ ⟨_, rfl, Nat.or_lt_two_pow (n := 16) e2 (Nat.pow_lt_pow_right (a := 2) (by decide) ht), fun e he => ?_⟩))
    rw [bp_hasOr, e3 e he, bp_hasP _ ht e he]
    constructor
    · rintro (⟨d, hd, y⟩ | y)
      · exact ⟨d, by omega, y⟩
      · exact ⟨i, by omega, y.symm, by rw [y]; exact ho, by rw [y]; exact hh⟩
    · rintro ⟨d, hd, y1, y2⟩
      by_cases w : d = i
      · subst w; exact Or.inr y1.symm
      · exact Or.inl ⟨d, by omega, y1, y2⟩
theorem wy_region {post : Int32 → Prop} {m p : Nat} (hm : m < 65536) (hp : p < 16) (hV : bp_VN (m * 16 + p)) (h : ∀ r, bp_Rg K (m * 16 + p) r → post (nI r)) : wpY_region post (nI m, nI p, kp, ps, tc, tb, K, mv, ts, lv) := by
  unfold wpY_region
  dsimp only
  rw [bi_shl p hp]
  refine nm_e ?_
  refine loop_0 (fun n k s => wY_region_9 post (nI m) (nI p) kp ps tc tb K mv ts lv n s (nI k)) (fun k s => ∃ w, s = nI w ∧ bp_Wk K m p k w) 16 (nI (2 ^ p)) ⟨_, rfl, bp_Wk0 hp⟩ ?_ ?_
  · intro n s ⟨w, e, hw⟩
    subst e
    exact br_t (nI_le (b := 16) (Nat.le_refl _) (by decide)) (wy_size hw.1 (h _ (bp_WkE hp hV hw)))
  · intro n k s hk ⟨w0, e, hw0⟩ hn
    subst e
    refine br_f (nI_ge (b := 16) hk (by decide)) ?_
    refine loop_0 (fun j c t => wY_region_17 post (wY_region_9 post (nI m) (nI p) kp ps tc tb K mv ts lv n) (nI k) (nI m) (nI p) kp ps tc tb K mv ts lv j t (nI c)) (fun c t => ∃ w, t = nI w ∧ bp_Wj K m p w0 w c) 16 (nI w0) ⟨w0, rfl, bp_WkJ hw0⟩ ?_ ?_
    · intro j t ⟨w, e, hw⟩
      subst e
      exact br_t (nI_le (b := 16) (Nat.le_refl _) (by decide)) (nm_r (nI_1 k) (hn _ ⟨w, rfl, bp_Wk1 hp hw0 hw⟩))
    · intro j c t hc ⟨w, e, hw⟩ hj
      subst e
      refine br_f (nI_ge (b := 16) hc (by decide)) ?_
      refine wy_has hw.1 hc (fun hh => br_f (by decide) ?_) (fun hh => br_t rfl (nm_r (nI_1 c) (hj _ ⟨w, rfl, bp_Wj1 hw hh⟩)))
      refine wy_around hm hc (fun a ha hA => nm_r (bi_or w a) (nm_r (nI_1 c) (hj _ ⟨_, rfl, bp_Wj2 hc hw hh ha hA⟩)))
theorem wy_init {post : SY → Prop} (h : ∀ ts', (∀ i, i < 137 → ts' i = nI (bp_tab i)) → post (0, 0, 0, 0, 0, 0, (fun _ => 0), (fun _ => 0), ts', (fun _ => 0))) : wpY_init post := by
  unfold wpY_init
  refine loop_0 (σ := Int32 × (Nat → Int32)) (fun n a t => wY_init_42 post 0 0 0 0 0 0 n t.1 (nI a) (fun _ => 0) (fun _ => 0) t.2 (fun _ => 0)) (fun a t => t.1 = nI (a * (a + 1) / 2) ∧ ∀ i, i < a * (a + 1) / 2 → t.2 i = nI (bp_tab i)) 16 (0, fun _ => 0) ⟨rfl, fun i hi => by omega⟩ ?_ ?_
  · intro n ⟨x1, ts1⟩ ⟨e1, e2⟩
    dsimp only at e1 e2 ⊢
    subst e1
    refine br_t (nI_le (b := 16) (Nat.le_refl _) (by decide)) ⟨vp_in_nI (by decide) (by decide), nm_e (h _ (fun i hi => ?_))⟩
    rw [nI_clamp (by decide)]
    by_cases z : i = 136
    · rw [z]
      exact pk_us
    · rw [pk_un z]
      exact e2 i (by omega)
  · intro n a ⟨x1, ts1⟩ ha ⟨e1, e2⟩ hk
    dsimp only at e1 e2 ⊢
    subst e1
    refine br_f (nI_ge (b := 16) ha (by decide)) ?_
    refine loop_0 (σ := Int32 × (Nat → Int32)) (fun j b t => wY_init_50 post (wY_init_42 post 0 0 0 0 0 0 n) (nI a) 0 0 0 0 0 0 j t.1 (nI b) (fun _ => 0) (fun _ => 0) t.2 (fun _ => 0)) (fun b t => t.1 = nI (a * (a + 1) / 2 + b) ∧ ∀ i, i < a * (a + 1) / 2 + b → t.2 i = nI (bp_tab i)) (a + 1) (nI (a * (a + 1) / 2), ts1) ⟨rfl, e2⟩ ?_ ?_
    · intro j ⟨x2, ts2⟩ ⟨f1, f2⟩
      dsimp only at f1 f2 ⊢
      subst f1
      refine br_t (nI_lt (Nat.lt_succ_self a) (by omega)) (nm_r (nI_1 a) (hk (nI (a * (a + 1) / 2 + (a + 1)), ts2) ⟨?_, ?_⟩))
      · show nI (a * (a + 1) / 2 + (a + 1)) = nI ((a + 1) * (a + 1 + 1) / 2)
        rw [bi_tri a ha]
      · rw [bi_tri a ha]
        exact f2
    · intro j b ⟨x2, ts2⟩ hb ⟨f1, f2⟩ hj
      dsimp only at f1 f2 ⊢
      subst f1
      obtain ⟨t1, t2⟩ := bp_tabA a ha b hb
      refine br_f (nI_nlt (by omega) (by omega)) ⟨vp_in_nI (by omega) (by decide), nm_e (nm_r (nI_1 _) (nm_r (nI_1 b) (hj (_, _) ⟨rfl, fun i hi => ?_⟩)))⟩
      show upd ts2 (nI (a * (a + 1) / 2 + b)).toNatClampNeg (((1 : Int32) <<< (nI a &&& 31)) ||| ((1 : Int32) <<< (nI b &&& 31))) i = nI (bp_tab i)
      rw [nI_clamp (by omega), ← t2]
      by_cases z : i = a * (a + 1) / 2 + b
      · rw [z]; exact pk_us
      · rw [pk_un z]
        exact f2 i (by omega)
end
end
section
/-! the relation; the calls that change nothing but the searches' own arrays -/
def i_Rel (_ : Nat) (u : SX) (v : SY) : Prop :=
  ∃ (x n : Nat) (pc fd tc tb : Int32) (K kD kS se qu mv ts lv : Nat → Int32),
    u = (nI x, pc, nI n, fd, K, kD, kS, se, qu) ∧ v = (nI (bp_nd x / 16), nI (x % 16), nI n, pc, tc, tb, K, mv, ts, lv) ∧
    bp_V x ∧ bp_op K (x % 16) ∧ n ≤ 20 ∧ bz_Kp K kS kD mv n x ∧ (∀ i, i < 137 → ts i = nI (bp_tab i)) ∧ (∀ c, c < 16 → K c = 0 ∨ K c = 1 ∨ K c = 2)
theorem iz_mk {k x n : Nat} {pc fd tc tb : Int32} {K kD kS se qu mv ts lv : Nat → Int32} (h1 : bp_V x) (h2 : bp_op K (x % 16)) (h3 : n ≤ 20) (h4 : bz_Kp K kS kD mv n x) (h5 : ∀ i, i < 137 → ts i = nI (bp_tab i)) (h6 : ∀ c, c < 16 → K c = 0 ∨ K c = 1 ∨ K c = 2) :
    i_Rel k (nI x, pc, nI n, fd, K, kD, kS, se, qu) (nI (bp_nd x / 16), nI (x % 16), nI n, pc, tc, tb, K, mv, ts, lv) :=
  ⟨x, n, pc, fd, tc, tb, K, kD, kS, se, qu, mv, ts, lv, rfl, rfl, h1, h2, h3, h4, h5, h6⟩
theorem i_up {k : Nat} {u : SX} {v : SY} (h : i_Rel k u v) : i_Rel (k + 3) u v := h
theorem bp_ndL {x : Nat} (h : bp_V x) : bp_nd x / 16 < 65536 := by
  obtain ⟨hp, ha, hb, hab, _⟩ := h.2
  rw [(bp_ndD h).2]
  exact bp_bmL _ ha _ hb hab
theorem bp_ndB {x : Nat} (h : bp_V x) : bp_nd x / 16 * 16 + x % 16 = bp_nd x := by
  have := (bp_ndD h).1
  omega
theorem iz_e0 : bp_V (bp_enc 0 16 16) ∧ bp_nd (bp_enc 0 16 16) / 16 = 0 ∧ bp_enc 0 16 16 % 16 = 0 :=
  ⟨bp_VE ⟨by decide, by decide, by decide, by decide, by decide, by decide⟩, by decide, by decide⟩
theorem i_vc0 : wpX_init (fun u => wpY_init (fun v => i_Rel 0 u v)) := by
  unfold wpX_init
  refine wx_stateOf (p := 0) (a := 16) (b := 16) ?_
  refine wy_init (fun ts' hts => ?_)
  obtain ⟨e1, e2, e3⟩ := iz_e0
  refine ⟨bp_enc 0 16 16, 0, 0, 0, 0, 0, _, _, _, _, _, fun _ => 0, ts', fun _ => 0, rfl, ?_, e1, ?_, by omega, bz_K0, hts, fun c _ => Or.inl rfl⟩
  · rw [e2, e3]; rfl
  · rw [e3]; exact ⟨by decide, by decide⟩
theorem i_vc_done {k : Nat} {u : SX} {v : SY} (I : i_Rel k u v) (hk : k + 3 ≤ 1536) : wpX_done (fun r => wpY_done (fun r' => r' = r ∧ i_Rel (k + 3) u v) v) u := by
  have I' : i_Rel (k + 3) u v := I
  obtain ⟨x, n, pc, fd, tc, tb, K, kD, kS, se, qu, mv, ts, lv, rfl, rfl, hV, ho, hn, hKp, hts, hK⟩ := I
  unfold wpX_done
  dsimp only
  refine wx_isDone hV (fun hD => ⟨rfl, ?_⟩) (fun hD => ⟨rfl, ?_⟩)
  · unfold wpY_done
    dsimp only
    exact wy_isDone (bp_ndL hV) (fun _ => ⟨rfl, rfl, I'⟩) (fun z => absurd hD z)
  · unfold wpY_done
    dsimp only
    exact wy_isDone (bp_ndL hV) (fun z => absurd z hD) (fun _ => ⟨rfl, rfl, I'⟩)
theorem i_vc_leastMoves {k : Nat} {u : SX} {v : SY} (I : i_Rel k u v) (hk : k + 3 ≤ 1536) : wpX_leastMoves (fun r u' => wpY_leastMoves (fun r' v' => r' = r ∧ i_Rel (k + 3) u' v') v) u := by
  obtain ⟨x, n, pc, fd, tc, tb, K, kD, kS, se, qu, mv, ts, lv, rfl, rfl, hV, ho, hn, hKp, hts, hK⟩ := I
  refine wx_leastMoves hV (fun r fd' se' qu' hA => ?_)
  unfold wpY_leastMoves
  dsimp only
  exact wy_least (qb := false) hts hV (fun r' tc' tb' lv' hA' => ⟨bp_Au hA hA', iz_mk hV ho hn hKp hts hK⟩)
theorem i_vc_leastPushes {k : Nat} {u : SX} {v : SY} (I : i_Rel k u v) (hk : k + 3 ≤ 1536) : wpX_leastPushes (fun r u' => wpY_leastPushes (fun r' v' => r' = r ∧ i_Rel (k + 3) u' v') v) u := by
  obtain ⟨x, n, pc, fd, tc, tb, K, kD, kS, se, qu, mv, ts, lv, rfl, rfl, hV, ho, hn, hKp, hts, hK⟩ := I
  refine wx_leastPushes hV (fun r fd' se' qu' hA => ?_)
  unfold wpY_leastPushes
  dsimp only
  exact wy_least (qb := true) hts hV (fun r' tc' tb' lv' hA' => ⟨bp_Au hA hA', iz_mk hV ho hn hKp hts hK⟩)
theorem i_vc_bestMove {k : Nat} {u : SX} {v : SY} (I : i_Rel k u v) (hk : k + 3 ≤ 1536) : wpX_bestMove (fun r u' => wpY_bestMove (fun r' v' => r' = r ∧ i_Rel (k + 3) u' v') v) u := by
  obtain ⟨x, n, pc, fd, tc, tb, K, kD, kS, se, qu, mv, ts, lv, rfl, rfl, hV, ho, hn, hKp, hts, hK⟩ := I
  refine wx_bestMove hV (fun r fd' se' qu' hA => ?_)
  exact wy_bestMove hts hV (fun r' tc' tb' lv' hA' => ⟨bp_BMu hA hA', iz_mk hV ho hn hKp hts hK⟩)
theorem i_vc_region {k : Nat} {u : SX} {v : SY} (I : i_Rel k u v) (hk : k + 3 ≤ 1536) : wpX_region (fun r u' => wpY_region (fun r' => r' = r ∧ i_Rel (k + 3) u' v) v) u := by
  obtain ⟨x, n, pc, fd, tc, tb, K, kD, kS, se, qu, mv, ts, lv, rfl, rfl, hV, ho, hn, hKp, hts, hK⟩ := I
  have hs : x < 4624 := hV.1
  refine wx_region hV (fun r se' qu' hA => ?_)
  rw [← bp_ndB hV] at hA
  exact wy_region (bp_ndL hV) (by omega) ⟨x, hV, (bp_ndB hV).symm⟩ (fun r' hA' => ⟨congrArg nI (bp_Rgu hA hA'), iz_mk hV ho hn hKp hts hK⟩)
theorem i_vc_dead {k : Nat} {u : SX} {v : SY} (I : i_Rel k u v) (hk : k + 3 ≤ 1536) (v1 : Int32) : wpX_dead (fun r u' => wpY_dead (fun r' v' => r' = r ∧ i_Rel (k + 3) u' v') v v1) u v1 := by
  have I' : i_Rel (k + 3) u v := I
  obtain ⟨x, n, pc, fd, tc, tb, K, kD, kS, se, qu, mv, ts, lv, rfl, rfl, hV, ho, hn, hKp, hts, hK⟩ := I
  have out : (v1 < 0 ∨ nI 16 ≤ v1) → wpX_dead (fun r u' => wpY_dead (fun r' v' => r' = r ∧ i_Rel (k + 3) u' v') (nI (bp_nd x / 16), nI (x % 16), nI n, pc, tc, tb, K, mv, ts, lv) v1) (nI x, pc, nI n, fd, K, kD, kS, se, qu) v1 := by
    intro z
    unfold wpX_dead
    dsimp only
    refine wx_isCellN z (br_t rfl ?_)
    unfold wpY_dead
    dsimp only
    exact wy_badN z (br_f (by decide) ⟨rfl, I'⟩)
  rcases pk_ix v1 (n := 16) (by decide) with z | z | ⟨c, hc, rfl⟩
  · exact out (Or.inl z)
  · exact out (Or.inr z)
  · by_cases h0 : K c = 0
    · refine wx_dead hc h0 (fun r fd' se' qu' hA => ⟨fun z => ?_, fun z => ?_⟩)
      · refine wy_dead hts hc (by rw [h0]; decide) (by rw [h0]; decide) (fun r' tc' tb' lv' hA' => ⟨fun y => ⟨rfl, iz_mk hV ho hn hKp hts hK⟩, fun y => absurd ((bp_Anq hA hA').mp z) y⟩)
      · refine wy_dead hts hc (by rw [h0]; decide) (by rw [h0]; decide) (fun r' tc' tb' lv' hA' => ⟨fun y => absurd ((bp_Anq hA hA').mpr y) z, fun y => ⟨rfl, iz_mk hV ho hn hKp hts hK⟩⟩)
    · unfold wpX_dead
      dsimp only
      refine wx_isCell (by omega) (fun _ => br_f (by decide) ⟨vp_in_nI hc (by decide), ?_⟩) (fun z => absurd hc (by omega))
      rw [nI_clamp (by omega)]
      refine br_f h0 ?_
      unfold wpY_dead
      dsimp only
      refine wy_bad (by omega) (fun _ => br_t rfl ⟨vp_in_nI hc (by decide), ?_⟩) (fun z => absurd hc (by omega))
      rw [nI_clamp (by omega)]
      refine br_c (fun _ => ⟨rfl, I'⟩) (fun z => ⟨vp_in_nI hc (by decide), br_t ?_ ⟨rfl, I'⟩⟩)
      rcases hK c hc with y | y | y
      · exact absurd y h0
      · exact absurd y z
      · exact y
theorem i_vc_hasBox {k : Nat} {u : SX} {v : SY} (I : i_Rel k u v) (hk : k + 3 ≤ 1536) (v1 : Int32) : wpX_hasBox (fun r => wpY_hasBox (fun r' => r' = r ∧ i_Rel (k + 3) u v) v v1) u v1 := by
  have I' : i_Rel (k + 3) u v := I
  obtain ⟨x, n, pc, fd, tc, tb, K, kD, kS, se, qu, mv, ts, lv, rfl, rfl, hV, ho, hn, hKp, hts, hK⟩ := I
  unfold wpX_hasBox wpY_hasBox
  dsimp only
  rcases pk_ix v1 (n := 16) (by decide) with z | z | ⟨c, hc, rfl⟩
  · exact wx_isCellN (Or.inl z) (br_t rfl (wy_badN (Or.inl z) (br_f (by decide) ⟨rfl, I'⟩)))
  · exact wx_isCellN (Or.inr z) (br_t rfl (wy_badN (Or.inr z) (br_f (by decide) ⟨rfl, I'⟩)))
  · obtain ⟨hp, ha, hb, hab, _⟩ := hV.2
    have hH := bp_bmH _ ha _ hb c hc hab
    rw [← (bp_ndD hV).2] at hH
    refine wx_isCell (by omega) (fun _ => br_f (by decide) ?_) (fun z => absurd hc (by omega))
    refine wx_isBoxOn hV.1 (by omega) (fun z => br_f (by decide) ?_) (fun z => br_t rfl ?_)
    · exact wy_bad (by omega) (fun _ => br_t rfl (wy_has (bp_ndL hV) hc (fun _ => br_f (by decide) ⟨rfl, I'⟩) (fun y => absurd (hH.mpr z) y))) (fun y => absurd hc (by omega))
    · exact wy_bad (by omega) (fun _ => br_t rfl (wy_has (bp_ndL hV) hc (fun y => absurd (hH.mp y) z) (fun _ => br_t rfl ⟨rfl, I'⟩))) (fun y => absurd hc (by omega))
theorem i_vc_pusher {k : Nat} {u : SX} {v : SY} (I : i_Rel k u v) (hk : k + 3 ≤ 1536) : wpX_pusher (fun r => wpY_pusher (fun r' => r' = r ∧ i_Rel (k + 3) u v) v) u := by
  have I' : i_Rel (k + 3) u v := I
  obtain ⟨x, n, pc, fd, tc, tb, K, kD, kS, se, qu, mv, ts, lv, rfl, rfl, hV, ho, hn, hKp, hts, hK⟩ := I
  have hs : x < 4624 := hV.1
  unfold wpX_pusher
  dsimp only
  exact wx_pusherOf (by omega) ⟨rfl, I'⟩
theorem i_vc_pushes {k : Nat} {u : SX} {v : SY} (I : i_Rel k u v) (hk : k + 3 ≤ 1536) : wpX_pushes (fun r => wpY_pushes (fun r' => r' = r ∧ i_Rel (k + 3) u v) v) u := by
  have I' : i_Rel (k + 3) u v := I
  obtain ⟨x, n, pc, fd, tc, tb, K, kD, kS, se, qu, mv, ts, lv, rfl, rfl, hV, ho, hn, hKp, hts, hK⟩ := I
  exact ⟨rfl, I'⟩
end
section
/-! the calls that change the store -/
theorem bz_size : ∀ a, a < 17 → ∀ b, b < 17 → (a = b → a = 16) → bp_cnt (fun c => decide (bp_has (bp_bm a b) c)) 16 = (if a = 16 then 0 else 1) + (if b = 16 then 0 else 1) := by decide +kernel
theorem bz_put : ∀ b, b < 17 → ∀ c, c < 16 → c ≠ b → nI (bp_bm 16 b) ||| ((1 : Int32) <<< (nI c &&& 31)) = nI (bp_bm c b) := by decide +kernel
theorem bz_op {K : Nat → Int32} {c p : Nat} {k : Int32} (h : bp_op K p) (hk : k = 1 → p ≠ c) : bp_op (upd K c k) p := by
  refine ⟨h.1, ?_⟩
  by_cases z : p = c
  · rw [z, pk_us]
    exact fun y => hk y z
  · rw [pk_un z]; exact h.2
theorem bz_kinds {K : Nat → Int32} {c : Nat} {k : Int32} (h : ∀ c, c < 16 → K c = 0 ∨ K c = 1 ∨ K c = 2) (hk : k = 0 ∨ k = 1 ∨ k = 2) : ∀ e, e < 16 → upd K c k e = 0 ∨ upd K c k e = 1 ∨ upd K c k e = 2 := by
  intro e he
  by_cases z : e = c
  · rw [z, pk_us]; exact hk
  · rw [pk_un z]; exact h e he
section
variable {st pc kp fd : Int32} {K kD kS se qu : Nat → Int32}
theorem wx_cell48 {post : Int32 → SX → Prop} {c : Nat} {k : Int32} (hc : c < 16) (h : post (K c) (st, 0, 0, fd, upd K c k, kD, kS, se, qu)) : wX_cell_48 post (nI c) k st pc kp fd K kD kS se qu := by
  unfold wX_cell_48
  rw [nI_clamp (by omega)]
  exact ⟨vp_in_nI hc (by decide), nm_e ⟨vp_in_nI hc (by decide), nm_e h⟩⟩
theorem wx_boxCount {post : Int32 → Prop} {s : Nat} (hs : s < 4624) (h : post (nI ((if s / 16 / 17 = 16 then 0 else 1) + (if s / 16 % 17 = 16 then 0 else 1)))) : wpX_boxCount post (nI s, pc, kp, fd, K, kD, kS, se, qu) := by
  unfold wpX_boxCount
  dsimp only
  refine wx_first (by omega) ?_
  refine pk_eq (s / 16 / 17) 16 (fun z => ?_) (fun z => nm_e ?_)
  · rw [if_pos z] at h
    unfold wX_boxCount_17
    refine wx_second (by omega) ?_
    refine pk_eq (s / 16 % 17) 16 (fun y => ?_) (fun y => nm_e ?_)
    · rw [if_pos y] at h; exact h
    · rw [if_neg y] at h; exact h
  · rw [if_neg z] at h
    unfold wX_boxCount_17
    refine wx_second (by omega) ?_
    refine pk_eq (s / 16 % 17) 16 (fun y => ?_) (fun y => nm_e ?_)
    · rw [if_pos y] at h; exact h
    · rw [if_neg y] at h; exact h
end
section
variable {bo pu kp ps tc tb : Int32} {K mv ts lv : Nat → Int32}
theorem wy_cell50 {post : Int32 → SY → Prop} {c : Nat} {k : Int32} (hc : c < 16) (h : post (K c) (bo, pu, 0, 0, tc, tb, upd K c k, mv, ts, lv)) : wY_cell_50 post (nI c) k bo pu kp ps tc tb K mv ts lv := by
  unfold wY_cell_50
  rw [nI_clamp (by omega)]
  exact ⟨vp_in_nI hc (by decide), nm_e ⟨vp_in_nI hc (by decide), nm_e h⟩⟩
end
theorem i_vc_cell {k : Nat} {u : SX} {v : SY} (I : i_Rel k u v) (hk : k + 3 ≤ 1536) (v1 : Int32) (v2 : Int32) : wpX_cell (fun r u' => wpY_cell (fun r' v' => r' = r ∧ i_Rel (k + 3) u' v') v v1 v2) u v1 v2 := by
  have I' : i_Rel (k + 3) u v := I
  obtain ⟨x, n, pc, fd, tc, tb, K, kD, kS, se, qu, mv, ts, lv, rfl, rfl, hV, ho, hn, hKp, hts, hK⟩ := I
  have hs : x < 4624 := hV.1
  unfold wpX_cell wpY_cell
  dsimp only
  rcases pk_ix v1 (n := 16) (by decide) with z | z | ⟨c, hc, rfl⟩
  · exact wx_isCellN (Or.inl z) (br_t rfl (wy_badN (Or.inl z) (br_f (by decide) ⟨rfl, I'⟩)))
  · exact wx_isCellN (Or.inr z) (br_t rfl (wy_badN (Or.inr z) (br_f (by decide) ⟨rfl, I'⟩)))
  · obtain ⟨hp, ha, hb, hab, _⟩ := hV.2
    have hH := bp_bmH _ ha _ hb c hc hab
    rw [← (bp_ndD hV).2] at hH
    refine wx_isCell (by omega) (fun _ => br_f (by decide) ?_) (fun z => absurd hc (by omega))
    refine br_c (fun z => wy_bad (by omega) (fun _ => br_t rfl (br_t z ⟨rfl, I'⟩)) (fun y => absurd hc (by omega))) (fun z => ?_)
    refine br_c (fun y => ?_) (fun y => wy_bad (by omega) (fun _ => br_t rfl (br_f z (br_f y ⟨rfl, I'⟩))) (fun y => absurd hc (by omega)))
    obtain ⟨j, hj, ej⟩ := nI_of2 (M := 2) (n := 2) (by decide) z y
    have hk2 : v2 = 0 ∨ v2 = 1 ∨ v2 = 2 := by
      rcases (show j = 0 ∨ j = 1 ∨ j = 2 by omega) with e | e | e
      · exact Or.inl (by rw [ej, e]; rfl)
      · exact Or.inr (Or.inl (by rw [ej, e]; rfl))
      · exact Or.inr (Or.inr (by rw [ej, e]; rfl))
    have fin : (v2 = 1 → x % 16 ≠ c) → ∀ {kp1 : Int32}, i_Rel (k + 3) (nI x, 0, nI 0, fd, upd K c v2, kD, kS, se, qu) (nI (bp_nd x / 16), nI (x % 16), nI 0, 0, tc, tb, upd K c v2, mv, ts, lv) :=
      fun hne {_} => iz_mk hV (bz_op ho hne) (by omega) bz_K0 hts (bz_kinds hK hk2)
    refine br_c (fun w => ?_) (fun w => ?_)
    · refine wx_isBoxOn hs (by omega) (fun hbx => br_f (by decide) ?_) (fun hbx => br_t rfl ?_)
      · exact wy_bad (by omega) (fun _ => br_t rfl (br_f z (br_t y (br_t w (wy_has (bp_ndL hV) hc (fun _ => br_f (by decide) ⟨rfl, I'⟩) (fun q => absurd (hH.mpr hbx) q)))))) (fun y => absurd hc (by omega))
      · refine wx_pusherOf (by omega) ?_
        refine pk_eq (x % 16) c (fun e => ?_) (fun e => wx_cell48 hc ?_)
        · exact wy_bad (by omega) (fun _ => br_t rfl (br_f z (br_t y (br_t w (wy_has (bp_ndL hV) hc (fun q => absurd (hH.mp q) hbx) (fun _ => br_t rfl (br_t (congrArg nI e.symm) ⟨rfl, I'⟩))))))) (fun y => absurd hc (by omega))
        · refine wy_bad (by omega) (fun _ => br_t rfl (br_f z (br_t y (br_t w (wy_has (bp_ndL hV) hc (fun q => absurd (hH.mp q) hbx) (fun _ => br_t rfl (br_f (fun q => ?_) (wy_cell50 hc ⟨rfl, fin (fun _ => e) (kp1 := 0)⟩)))))))) (fun y => absurd hc (by omega))
          exact e ((nI_eq (by omega) (by omega)).mp q).symm
    · refine wx_cell48 hc ?_
      exact wy_bad (by omega) (fun _ => br_t rfl (br_f z (br_t y (br_f w (wy_cell50 hc ⟨rfl, fin (fun q => absurd q w) (kp1 := 0)⟩))))) (fun y => absurd hc (by omega))
theorem i_vc_place {k : Nat} {u : SX} {v : SY} (I : i_Rel k u v) (hk : k + 3 ≤ 1536) (v1 : Int32) : wpX_place (fun r u' => wpY_place (fun r' v' => r' = r ∧ i_Rel (k + 3) u' v') v v1) u v1 := by
  have I' : i_Rel (k + 3) u v := I
  obtain ⟨x, n, pc, fd, tc, tb, K, kD, kS, se, qu, mv, ts, lv, rfl, rfl, hV, ho, hn, hKp, hts, hK⟩ := I
  have hs : x < 4624 := hV.1
  unfold wpX_place wpY_place
  dsimp only
  rcases pk_ix v1 (n := 16) (by decide) with z | z | ⟨c, hc, rfl⟩
  · exact wx_isCellN (Or.inl z) (br_t rfl (wy_badN (Or.inl z) (br_f (by decide) ⟨rfl, I'⟩)))
  · exact wx_isCellN (Or.inr z) (br_t rfl (wy_badN (Or.inr z) (br_f (by decide) ⟨rfl, I'⟩)))
  · obtain ⟨hp, ha, hb, hab, _⟩ := hV.2
    have hH := bp_bmH _ ha _ hb c hc hab
    rw [← (bp_ndD hV).2] at hH
    refine wx_isCell (by omega) (fun _ => br_f (by decide) ⟨vp_in_nI hc (by decide), ?_⟩) (fun z => absurd hc (by omega))
    rw [nI_clamp (by omega)]
    refine br_c (fun z => wy_bad (by omega) (fun _ => br_t rfl ⟨vp_in_nI hc (by decide), br_t z ⟨rfl, I'⟩⟩) (fun y => absurd hc (by omega))) (fun z => ?_)
    refine wx_isBoxOn hs (by omega) (fun hbx => br_f (by decide) ?_) (fun hbx => br_t rfl ?_)
    · exact wy_bad (by omega) (fun _ => br_t rfl ⟨vp_in_nI hc (by decide), br_f z (wy_has (bp_ndL hV) hc (fun _ => br_f (by decide) ⟨rfl, I'⟩) (fun q => absurd (hH.mpr hbx) q))⟩) (fun y => absurd hc (by omega))
    · refine wx_pusherOf (by omega) ?_
      refine wx_first (by omega) ?_
      refine wx_second (by omega) ?_
      refine wx_stateOf ?_
      have hok : bp_ok c (x / 16 / 17) (x / 16 % 17) := ⟨hc, ha, hb, hab, by omega, by omega⟩
      have hVe := bp_VE hok
      have h1 := (bp_dec (a := x / 16 / 17) hc hb).1
      have h2 : bp_nd (bp_enc c (x / 16 / 17) (x / 16 % 17)) / 16 = bp_nd x / 16 := by
        rw [bp_ndE hc hb, (bp_ndD hV).2]
        omega
      unfold wpX_forgetMoves
      dsimp only
      refine wy_bad (by omega) (fun _ => br_t rfl ⟨vp_in_nI hc (by decide), ?_⟩) (fun y => absurd hc (by omega))
      refine br_f z (wy_has (bp_ndL hV) hc (fun q => absurd (hH.mp q) hbx) (fun _ => br_t rfl ⟨rfl, ?_⟩))
      have hR := iz_mk (k := k + 3) (n := 0) (pc := 0) (fd := fd) (tc := tc) (tb := tb) (K := K) (kD := kD) (kS := kS) (se := se) (qu := qu) (mv := mv) (ts := ts) (lv := lv) hVe (by rw [h1]; exact ⟨hc, z⟩) (by omega) bz_K0 hts hK
      rw [h1, h2] at hR
      exact hR
def bz_n (a b : Nat) : Nat := (if a = 16 then 0 else 1) + (if b = 16 then 0 else 1)
section
variable {pc kp fd : Int32} {K kD kS se qu : Nat → Int32}
theorem wx_take {post : Int32 → SX → Prop} {s c : Nat} (hs : s < 4624) (hc : c < 16) (hN : ¬ (c = s / 16 / 17 ∨ c = s / 16 % 17) → post (-6) (nI s, pc, kp, fd, K, kD, kS, se, qu))
    (hY : ∀ a' b', a' < 17 → b' < 17 → ((c = s / 16 / 17 ∧ a' = 16 ∧ b' = s / 16 % 17) ∨ (c ≠ s / 16 / 17 ∧ c = s / 16 % 17 ∧ a' = s / 16 / 17 ∧ b' = 16)) → post (nI (bz_n a' b')) (nI (bp_enc (s % 16) a' b'), 0, 0, fd, K, kD, kS, se, qu)) :
    wpX_takeBox post (nI s, pc, kp, fd, K, kD, kS, se, qu) (nI c) := by
  have t54 : ∀ a' b', a' < 17 → b' < 17 → post (nI (bz_n a' b')) (nI (bp_enc (s % 16) a' b'), 0, 0, fd, K, kD, kS, se, qu) → wX_takeBox_54 post (nI (s % 16)) (nI a') (nI b') (nI s) pc kp fd K kD kS se qu := by
    intro a' b' ha hb h
    obtain ⟨d1, d2, d3, d4⟩ := bp_dec (p := s % 16) (a := a') (b := b') (by omega) hb
    unfold wX_takeBox_54
    refine wx_stateOf ?_
    unfold wpX_forgetMoves
    dsimp only
    refine wx_boxCount (by unfold bp_enc; omega) ?_
    rw [d3, d4]
    exact h
  unfold wpX_takeBox
  dsimp only
  refine wx_pusherOf (by omega) ?_
  refine wx_first (by omega) ?_
  refine wx_second (by omega) ?_
  refine pk_eq (s / 16 / 17) c (fun z => ?_) (fun z => pk_eq (s / 16 % 17) c (fun y => ?_) (fun y => hN (by omega)))
  · unfold wX_takeBox_39
    exact br_t (congrArg nI z) (t54 16 _ (by omega) (by omega) (hY _ _ (by omega) (by omega) (Or.inl ⟨z.symm, rfl, rfl⟩)))
  · unfold wX_takeBox_39
    exact br_f (fun w => z ((nI_eq (by omega) (by omega)).mp w)) (t54 _ 16 (by omega) (by omega) (hY _ _ (by omega) (by omega) (Or.inr ⟨fun w => z w.symm, y.symm, rfl, rfl⟩)))
theorem wx_put {post : Int32 → SX → Prop} {s c : Nat} (hs : s < 4624) (hc : c < 16)
    (hT : (K c = 1 ∨ c = s % 16 ∨ c = s / 16 / 17 ∨ c = s / 16 % 17) → post (-3) (nI s, pc, kp, fd, K, kD, kS, se, qu))
    (hF : ¬ (K c = 1 ∨ c = s % 16 ∨ c = s / 16 / 17 ∨ c = s / 16 % 17) → s / 16 / 17 ≠ 16 → s / 16 % 17 ≠ 16 → post (-4) (nI s, pc, kp, fd, K, kD, kS, se, qu))
    (hY : ∀ a' b', a' < 17 → b' < 17 → ¬ (K c = 1 ∨ c = s % 16 ∨ c = s / 16 / 17 ∨ c = s / 16 % 17) → ((s / 16 / 17 = 16 ∧ a' = c ∧ b' = s / 16 % 17) ∨ (s / 16 / 17 ≠ 16 ∧ s / 16 % 17 = 16 ∧ a' = s / 16 / 17 ∧ b' = c)) → post (nI (bz_n a' b')) (nI (bp_enc (s % 16) a' b'), 0, 0, fd, K, kD, kS, se, qu)) :
    wpX_putBox post (nI s, pc, kp, fd, K, kD, kS, se, qu) (nI c) := by
  have t84 : ∀ a' b', a' < 17 → b' < 17 → post (nI (bz_n a' b')) (nI (bp_enc (s % 16) a' b'), 0, 0, fd, K, kD, kS, se, qu) → wX_putBox_84 post (nI (s % 16)) (nI a') (nI b') (nI s) pc kp fd K kD kS se qu := by
    intro a' b' ha hb h
    obtain ⟨d1, d2, d3, d4⟩ := bp_dec (p := s % 16) (a := a') (b := b') (by omega) hb
    unfold wX_putBox_84
    refine wx_stateOf ?_
    unfold wpX_forgetMoves
    dsimp only
    refine wx_boxCount (by unfold bp_enc; omega) ?_
    rw [d3, d4]
    exact h
  unfold wpX_putBox
  dsimp only
  refine wx_pusherOf (by omega) ?_
  refine wx_first (by omega) ?_
  refine wx_second (by omega) ?_
  refine ⟨vp_in_nI hc (by decide), ?_⟩
  rw [nI_clamp (by omega)]
  refine br_c (fun z => hT (Or.inl z)) (fun z => ?_)
  refine pk_eq (s % 16) c (fun y => hT (Or.inr (Or.inl y.symm))) (fun y => ?_)
  refine pk_eq (s / 16 / 17) c (fun w => hT (Or.inr (Or.inr (Or.inl w.symm)))) (fun w => ?_)
  refine pk_eq (s / 16 % 17) c (fun q => hT (Or.inr (Or.inr (Or.inr q.symm)))) (fun q => ?_)
  have hno : ¬ (K c = 1 ∨ c = s % 16 ∨ c = s / 16 / 17 ∨ c = s / 16 % 17) := by
    rintro (h | h | h | h)
    · exact z h
    · exact y h.symm
    · exact w h.symm
    · exact q h.symm
  refine pk_eq (s / 16 / 17) 16 (fun e => ?_) (fun e => pk_eq (s / 16 % 17) 16 (fun e2 => ?_) (fun e2 => hF hno e e2))
  · unfold wX_putBox_70
    exact br_t (congrArg nI e) (t84 _ _ (by omega) (by omega) (hY _ _ (by omega) (by omega) hno (Or.inl ⟨e, rfl, rfl⟩)))
  · unfold wX_putBox_70
    exact br_f (fun x => e ((nI_eq (b := 16) (by omega) (by decide)).mp x)) (t84 _ _ (by omega) (by omega) (hY _ _ (by omega) (by omega) hno (Or.inr ⟨e, e2, rfl, rfl⟩)))
end
section
variable {kp ps tc tb : Int32} {K mv ts lv : Nat → Int32}
theorem wy_box111 {post : Int32 → SY → Prop} {bo pu : Int32} {m' : Nat} (hl : m' < 65536) (h : post (nI (bp_cnt (fun c => decide (bp_has m' c)) 16)) (nI m', pu, 0, 0, tc, tb, K, mv, ts, lv)) : wY_box_111 post (nI m') bo pu kp ps tc tb K mv ts lv := by
  unfold wY_box_111 wpY_forget
  dsimp only
  exact wy_size hl h
theorem wy_box0 {post : Int32 → SY → Prop} {m p c m' : Nat} (hm : m < 65536) (hc : c < 16) (hN : ¬ bp_has m c → post (-6) (nI m, nI p, kp, ps, tc, tb, K, mv, ts, lv))
    (hb : bp_has m c → nI m &&& (((1 : Int32) <<< (nI c &&& 31)) ^^^ (-1)) = nI m' ∧ m' < 65536)
    (hY : bp_has m c → post (nI (bp_cnt (fun c => decide (bp_has m' c)) 16)) (nI m', nI p, 0, 0, tc, tb, K, mv, ts, lv)) : wpY_box post (nI m, nI p, kp, ps, tc, tb, K, mv, ts, lv) (nI c) 0 := by
  unfold wpY_box
  dsimp only
  refine wy_bad (by omega) (fun _ => br_t rfl (br_t rfl ?_)) (fun y => absurd hc (by omega))
  unfold wY_box_47
  refine br_t rfl ?_
  unfold wY_box_66
  refine br_t rfl (wy_has hm hc (fun hh => br_f (by decide) ?_) (fun hh => br_t rfl (hN hh)))
  unfold wY_box_85
  refine br_t rfl ?_
  rw [(hb hh).1]
  exact wy_box111 (hb hh).2 (hY hh)
theorem wy_box1 {post : Int32 → SY → Prop} {m p c m' : Nat} (hm : m < 65536) (hp : p < 16) (hc : c < 16)
    (hT : (K c = 1 ∨ c = p ∨ bp_has m c) → post (-3) (nI m, nI p, kp, ps, tc, tb, K, mv, ts, lv))
    (hF : ¬ (K c = 1 ∨ c = p ∨ bp_has m c) → bp_cnt (fun c => decide (bp_has m c)) 16 = 2 → post (-4) (nI m, nI p, kp, ps, tc, tb, K, mv, ts, lv))
    (hb : ¬ (K c = 1 ∨ c = p ∨ bp_has m c) → bp_cnt (fun c => decide (bp_has m c)) 16 ≠ 2 → nI m ||| ((1 : Int32) <<< (nI c &&& 31)) = nI m' ∧ m' < 65536)
    (hY : ¬ (K c = 1 ∨ c = p ∨ bp_has m c) → bp_cnt (fun c => decide (bp_has m c)) 16 ≠ 2 → post (nI (bp_cnt (fun c => decide (bp_has m' c)) 16)) (nI m', nI p, 0, 0, tc, tb, K, mv, ts, lv)) : wpY_box post (nI m, nI p, kp, ps, tc, tb, K, mv, ts, lv) (nI c) 1 := by
  unfold wpY_box
  dsimp only
  refine wy_bad (by omega) (fun _ => br_t rfl (br_f (by decide) ⟨vp_in_nI hc (by decide), ?_⟩)) (fun y => absurd hc (by omega))
  rw [nI_clamp (by omega)]
  refine br_c (fun z => hT (Or.inl z)) (fun z => ?_)
  refine pk_eq c p (fun y => hT (Or.inr (Or.inl y))) (fun y => ?_)
  refine wy_has hm hc (fun hh => br_f (by decide) (hT (Or.inr (Or.inr hh)))) (fun hh => br_t rfl ?_)
  have hno : ¬ (K c = 1 ∨ c = p ∨ bp_has m c) := by
    rintro (h | h | h)
    · exact z h
    · exact y h
    · exact hh h
  unfold wY_box_47
  refine br_f (by decide) ?_
  have hle := bp_cle (fun c => decide (bp_has m c)) 16
  refine wy_size hm ?_
  refine pk_eq (bp_cnt (fun c => decide (bp_has m c)) 16) 2 (fun e => hF hno e) (fun e => ?_)
  unfold wY_box_66
  refine br_f (by decide) ?_
  unfold wY_box_85
  refine br_f (by decide) ?_
  rw [(hb hno e).1]
  exact wy_box111 (hb hno e).2 (hY hno e)
end
theorem i_vc_box {k : Nat} {u : SX} {v : SY} (I : i_Rel k u v) (hk : k + 3 ≤ 1536) (v1 : Int32) (v2 : Int32) : wpX_box (fun r u' => wpY_box (fun r' v' => r' = r ∧ i_Rel (k + 3) u' v') v v1 (lw_bz v2)) u v1 (lw_bz v2) := by
  have I' : i_Rel (k + 3) u v := I
  obtain ⟨x, n, pc, fd, tc, tb, K, kD, kS, se, qu, mv, ts, lv, rfl, rfl, hV, ho, hn, hKp, hts, hK⟩ := I
  have hs : x < 4624 := hV.1
  have out : (v1 < 0 ∨ nI 16 ≤ v1) → wpX_box (fun r u' => wpY_box (fun r' v' => r' = r ∧ i_Rel (k + 3) u' v') (nI (bp_nd x / 16), nI (x % 16), nI n, pc, tc, tb, K, mv, ts, lv) v1 (lw_bz v2)) (nI x, pc, nI n, fd, K, kD, kS, se, qu) v1 (lw_bz v2) := by
    intro z
    unfold wpX_box
    dsimp only
    refine wx_isCellN z (br_t rfl ?_)
    unfold wpY_box
    dsimp only
    exact wy_badN z (br_f (by decide) ⟨rfl, I'⟩)
  rcases pk_ix v1 (n := 16) (by decide) with z | z | ⟨c, hc, rfl⟩
  · exact out (Or.inl z)
  · exact out (Or.inr z)
  · clear out
    obtain ⟨hp, ha, hb, hab, hpa, hpb⟩ := hV.2
    have hH := bp_bmH _ ha _ hb c hc hab
    have e16 := (bp_ndD hV).2
    have hsz := bz_size _ ha _ hb hab
    rw [← e16] at hH hsz
    have hmL := bp_ndL hV
    have fin : ∀ a' b', bp_ok (x % 16) a' b' → i_Rel (k + 3) (nI (bp_enc (x % 16) a' b'), 0, 0, fd, K, kD, kS, se, qu) (nI (bp_bm a' b'), nI (x % 16), 0, 0, tc, tb, K, mv, ts, lv) := by
      intro a' b' hok
      have h1 := (bp_dec (a := a') hp hok.2.2.1).1
      have h2 : bp_nd (bp_enc (x % 16) a' b') / 16 = bp_bm a' b' := by
        rw [bp_ndE hp hok.2.2.1]
        omega
      have hR := iz_mk (k := k + 3) (n := 0) (pc := 0) (fd := fd) (tc := tc) (tb := tb) (K := K) (kD := kD) (kS := kS) (se := se) (qu := qu) (mv := mv) (ts := ts) (lv := lv) (bp_VE hok) (by rw [h1]; exact ho) (by omega) bz_K0 hts hK
      rw [h1, h2] at hR
      exact hR
    have cntE : ∀ a' b', bp_ok (x % 16) a' b' → bp_cnt (fun c => decide (bp_has (bp_bm a' b') c)) 16 = bz_n a' b' := fun a' b' hok => bz_size a' hok.2.1 b' hok.2.2.1 hok.2.2.2.1
    unfold wpX_box
    dsimp only
    refine wx_isCell (by omega) (fun _ => br_f (by decide) ?_) (fun z => absurd hc (by omega))
    rcases lw_bz_01 v2 with e | e
    · rw [e]
      refine br_t rfl (wx_take hs hc (fun hno => ?_) (fun a' b' ha' hb' hin => ?_))
      · exact wy_box0 (m' := 0) hmL hc (fun _ => ⟨rfl, I'⟩) (fun z => absurd (hH.mp z) hno) (fun z => absurd (hH.mp z) hno)
      · have hok : bp_ok (x % 16) a' b' := ⟨hp, ha', hb', by omega, by omega, by omega⟩
        refine wy_box0 (m' := bp_bm a' b') hmL hc (fun z => absurd (hH.mpr (by omega)) z) (fun _ => ⟨?_, bp_bmL a' ha' b' hb' hok.2.2.2.1⟩) (fun _ => ⟨congrArg nI (cntE a' b' hok), fin a' b' hok⟩)
        rw [e16]
        rcases hin with ⟨i1, i2, i3⟩ | ⟨i1, i2, i3, i4⟩
        · rw [i2, i3, ← i1]
          exact bi_take c hc _ hb (by omega)
        · rw [i3, i4, ← i2, bp_bmC _ c, bp_bmC _ 16]
          exact bi_take c hc _ ha (by omega)
    · rw [e]
      refine br_f (by decide) (wx_put hs hc (fun hin => ?_) (fun hno n1 n2 => ?_) (fun a' b' ha' hb' hno hin => ?_))
      · have hin' : K c = 1 ∨ c = x % 16 ∨ bp_has (bp_nd x / 16) c := by
          rcases hin with h | h | h
          · exact Or.inl h
          · exact Or.inr (Or.inl h)
          · exact Or.inr (Or.inr (hH.mpr h))
        exact wy_box1 (m' := 0) hmL hp hc (fun _ => ⟨rfl, I'⟩) (fun h => absurd hin' h) (fun h => absurd hin' h) (fun h => absurd hin' h)
      · have hno' : ¬ (K c = 1 ∨ c = x % 16 ∨ bp_has (bp_nd x / 16) c) := by
          rintro (h | h | h)
          · exact hno (Or.inl h)
          · exact hno (Or.inr (Or.inl h))
          · exact hno (Or.inr (Or.inr (hH.mp h)))
        rw [if_neg n1, if_neg n2] at hsz
        exact wy_box1 (m' := 0) hmL hp hc (fun h => absurd h hno') (fun _ _ => ⟨rfl, I'⟩) (fun _ h => absurd hsz h) (fun _ h => absurd hsz h)
      · have hno' : ¬ (K c = 1 ∨ c = x % 16 ∨ bp_has (bp_nd x / 16) c) := by
          rintro (h | h | h)
          · exact hno (Or.inl h)
          · exact hno (Or.inr (Or.inl h))
          · exact hno (Or.inr (Or.inr (hH.mp h)))
        have hcc : c ≠ x % 16 ∧ c ≠ x / 16 / 17 ∧ c ≠ x / 16 % 17 := ⟨fun h => hno (Or.inr (Or.inl h)), fun h => hno (Or.inr (Or.inr (Or.inl h))), fun h => hno (Or.inr (Or.inr (Or.inr h)))⟩
        have hok : bp_ok (x % 16) a' b' := ⟨hp, ha', hb', by omega, by omega, by omega⟩
        have hn2 : bp_cnt (fun c => decide (bp_has (bp_nd x / 16) c)) 16 ≠ 2 := by
          rw [hsz]
          rcases hin with ⟨i1, _⟩ | ⟨_, i1, _⟩
          · rw [if_pos i1]
            split <;> omega
          · rw [if_pos i1]
            split <;> omega
        refine wy_box1 (m' := bp_bm a' b') hmL hp hc (fun h => absurd h hno') (fun _ h => absurd h hn2) (fun _ _ => ⟨?_, bp_bmL a' ha' b' hb' hok.2.2.2.1⟩) (fun _ _ => ⟨congrArg nI (cntE a' b' hok), fin a' b' hok⟩)
        rw [e16]
        rcases hin with ⟨i1, i2, i3⟩ | ⟨i1, i2, i3, i4⟩
        · rw [i1, i2, i3]
          exact bz_put _ hb c hc hcc.2.2
        · rw [i2, i3, i4, bp_bmC _ 16, bp_bmC _ c]
          exact bz_put _ ha c hc hcc.2.1
end
section
/-! move and undo -/
/-- a row of moves before a new one is kept: as it is, or its oldest dropped -/
def bz_Dr (n : Nat) (a a1 : Nat → Int32) (n1 : Nat) : Prop := (n < 20 ∧ a1 = a ∧ n1 = n) ∨ (n = 20 ∧ n1 = 19 ∧ ∀ j, j < 19 → a1 j = a (j + 1))
theorem bz_Kdr {K kS kD mv kS1 kD1 mv1 : Nat → Int32} {n n1 n2 n3 x : Nat} (h : bz_Kp K kS kD mv n x) (h1 : bz_Dr n kS kS1 n1) (h2 : bz_Dr n kD kD1 n2) (h3 : bz_Dr n mv mv1 n3) : n1 < 20 ∧ n2 = n1 ∧ n3 = n1 ∧ bz_Kp K kS1 kD1 mv1 n1 x := by
  rcases h1 with ⟨a1, a2, a3⟩ | ⟨a1, a2, a3⟩
  · rcases h2 with ⟨b1, b2, b3⟩ | ⟨b1, _⟩
    · rcases h3 with ⟨c1, c2, c3⟩ | ⟨c1, _⟩
      · refine ⟨by omega, by omega, by omega, ?_⟩
        rw [a2, b2, c2, a3]
        exact h
      · omega
    · omega
  · rcases h2 with ⟨b1, _⟩ | ⟨b1, b2, b3⟩
    · omega
    · rcases h3 with ⟨c1, _⟩ | ⟨c1, c2, c3⟩
      · omega
      · refine ⟨by omega, by omega, by omega, ?_⟩
        rw [a1] at h
        rw [a2]
        exact bz_Kshift (n := 19) h a3 b3 c3
section
variable {st pc kp fd : Int32} {K kD kS se qu : Nat → Int32}
theorem wx_drop {post : SX → Prop} (h : ∀ kD1 kS1, (∀ j, j < 19 → kD1 j = kD (j + 1)) → (∀ j, j < 19 → kS1 j = kS (j + 1)) → post (st, pc, 19, fd, K, kD1, kS1, se, qu)) : wpX_dropOldestMove post (st, pc, kp, fd, K, kD, kS, se, qu) := by
  unfold wpX_dropOldestMove
  dsimp only
  refine pk_loop (σ := (Nat → Int32) × (Nat → Int32)) (fun n i t => wX_dropOldestMove_2 post st pc kp fd n (nI i) K t.1 t.2 se qu)
    (fun i t => 1 ≤ i ∧ (∀ j, t.1 j = if j + 1 < i then kD (j + 1) else kD j) ∧ (∀ j, t.2 j = if j + 1 < i then kS (j + 1) else kS j)) 20 1 (kD, kS) (by omega) ⟨by omega, fun j => (if_neg (by omega)).symm, fun j => (if_neg (by omega)).symm⟩ ?_ ?_
  · intro n ⟨d1, s1⟩ ⟨_, e1, e2⟩
    dsimp only at e1 e2 ⊢
    refine br_t (nI_le (b := 20) (Nat.le_refl _) (by decide)) (h d1 s1 (fun j hj => ?_) (fun j hj => ?_))
    · rw [e1 j, if_pos (by omega)]
    · rw [e2 j, if_pos (by omega)]
  · intro n i ⟨d1, s1⟩ hi ⟨h0, e1, e2⟩ hk
    dsimp only at e1 e2 ⊢
    have em : nI i - 1 = nI (i - 1) := pk_sub (b := 1) h0
    refine br_f (nI_ge (b := 20) hi (by decide)) ?_
    rw [em, nI_clamp (by omega), nI_clamp (by omega)]
    refine ⟨vp_in_nI hi (by decide), vp_in_nI (by omega) (by decide), nm_e ⟨vp_in_nI hi (by decide), vp_in_nI (by omega) (by decide), nm_e (nm_r (nI_1 i) (hk (_, _) ⟨by omega, fun j => ?_, fun j => ?_⟩))⟩⟩
    · show upd d1 (i - 1) (d1 i) j = _
      by_cases z : j = i - 1
      · rw [z, pk_us, e1 i, if_neg (by omega), if_pos (by omega)]
        exact congrArg kD (by omega)
      · rw [pk_un z, e1 j]
        by_cases y : j + 1 < i
        · rw [if_pos y, if_pos (by omega)]
        · rw [if_neg y, if_neg (by omega)]
    · show upd s1 (i - 1) (s1 i) j = _
      by_cases z : j = i - 1
      · rw [z, pk_us, e2 i, if_neg (by omega), if_pos (by omega)]
        exact congrArg kS (by omega)
      · rw [pk_un z, e2 j]
        by_cases y : j + 1 < i
        · rw [if_pos y, if_pos (by omega)]
        · rw [if_neg y, if_neg (by omega)]
theorem wx_keep13 {post : SX → Prop} {n : Nat} {d : Int32} (hn : n < 20) (h : post (st, pc, nI (n + 1), fd, K, upd kD n d, upd kS n st, se, qu)) : wX_keepMove_13 post d st pc (nI n) fd K kD kS se qu := by
  unfold wX_keepMove_13
  rw [nI_clamp (by omega)]
  exact ⟨vp_in_nI hn (by decide), nm_e ⟨vp_in_nI hn (by decide), nm_e (nm_r (nI_1 n) h)⟩⟩
theorem wx_keep {post : SX → Prop} {n : Nat} {d : Int32} (hn : n ≤ 20)
    (h : ∀ kD1 kS1 n1, n1 < 20 → bz_Dr n kD kD1 n1 → bz_Dr n kS kS1 n1 → post (st, pc, nI (n1 + 1), fd, K, upd kD1 n1 d, upd kS1 n1 st, se, qu)) : wpX_keepMove post (st, pc, nI n, fd, K, kD, kS, se, qu) d := by
  unfold wpX_keepMove
  dsimp only
  refine pk_lt n 20 (fun z => wx_keep13 z (h kD kS n z (Or.inl ⟨z, rfl, rfl⟩) (Or.inl ⟨z, rfl, rfl⟩))) (fun z => ?_)
  refine wx_drop (fun kD1 kS1 e1 e2 => ?_)
  exact wx_keep13 (n := 19) (by decide) (h kD1 kS1 19 (by decide) (Or.inr ⟨by omega, rfl, e1⟩) (Or.inr ⟨by omega, rfl, e2⟩))
/-- move on the class's side, the direction being one -/
theorem wx_move {post : Int32 → SX → Prop} {s n d : Nat} (hV : bp_V s) (hd : d < 4) (hn : n ≤ 20) (h0 : bp_step K s d = none → post (-5) (nI s, pc, nI n, fd, K, kD, kS, se, qu))
    (h1 : ∀ t kD1 kS1 n1, bp_step K s d = some t → n1 < 20 → bz_Dr n kD kD1 n1 → bz_Dr n kS kS1 n1 → post (nI (bz_ps s t)) (nI t, pc + nI (bz_ps s t), nI (n1 + 1), fd, K, upd kD1 n1 (nI d), upd kS1 n1 (nI s), se, qu)) :
    wpX_move post (nI s, pc, nI n, fd, K, kD, kS, se, qu) (nI d) := by
  have hs : s < 4624 := hV.1
  unfold wpX_move
  dsimp only
  refine br_f (nI_pos (by omega)) (br_t (nI_lt (b := 4) hd (by decide)) ?_)
  refine wx_stateAfter hV hd (fun hno => br_t rfl (h0 hno)) (fun t ht => ?_)
  obtain ⟨vt, _⟩ := bp_stV hV hd ht
  have ht4 : t < 4624 := vt.1
  have hneg : ¬ nI t = -1 := by
    intro z
    have h1 : ¬ nI t < 0 := nI_pos (by omega)
    rw [z] at h1
    exact h1 (by decide)
  refine br_f hneg ?_
  refine wx_isPush (by omega) (by omega) (fun z => br_t rfl ?_) (fun z => br_f (by decide) ?_)
  · have e : bz_ps s t = 0 := if_pos z
    unfold wX_move_46
    refine wx_keep hn (fun kD1 kS1 n1 l1 l2 l3 => nm_e ?_)
    have := h1 t kD1 kS1 n1 ht l1 l2 l3
    rw [e] at this
    exact this
  · have e : bz_ps s t = 1 := if_neg z
    unfold wX_move_46
    refine wx_keep hn (fun kD1 kS1 n1 l1 l2 l3 => nm_e ?_)
    have := h1 t kD1 kS1 n1 ht l1 l2 l3
    rw [e] at this
    exact this
end
section
variable {bo pu kp ps tc tb : Int32} {K mv ts lv : Nat → Int32}
theorem wy_m104 {post : Int32 → SY → Prop} {n d w : Nat} (hn : n < 20) (h : post (nI w) (bo, pu, nI (n + 1), ps, tc, tb, K, upd mv n (nI (d + 4 * w)), ts, lv)) : wY_move_104 post (nI d) (nI (w + 1)) bo pu (nI n) ps tc tb K mv ts lv := by
  unfold wY_move_104
  rw [nI_clamp (by omega), nI_pred w, show (4 : Int32) * nI w = nI (4 * w) from pk_mul 4 w, nI_add]
  exact ⟨vp_in_nI hn (by decide), nm_e (nm_r (nI_1 n) h)⟩
theorem wy_drop {post : Int32 → SY → Prop} {x1 x2 : Int32} (h : ∀ mv1, (∀ j, j < 19 → mv1 j = mv (j + 1)) → wY_move_104 post x1 x2 bo pu 19 ps tc tb K mv1 ts lv) : ∃ n, wY_move_72 post x1 x2 bo pu kp ps tc tb n 0 K mv ts lv := by
  refine loop_0 (fun n i t => wY_move_72 post x1 x2 bo pu kp ps tc tb n (nI i) K t ts lv) (fun i t => ∀ j, t j = if j < i then mv (j + 1) else mv j) 19 mv (fun j => (if_neg (by omega)).symm) ?_ ?_
  · intro n t hI
    exact br_t (nI_le (b := 19) (Nat.le_refl _) (by decide)) (h t (fun j hj => by rw [hI j, if_pos hj]))
  · intro n i t hi hI hk
    refine br_f (nI_ge (b := 19) hi (by decide)) ?_
    rw [nI_1 i, nI_clamp (by omega), nI_clamp (by omega)]
    refine ⟨vp_in_nI (by omega) (by decide), vp_in_nI (by omega) (by decide), nm_e (nm_e (hk _ (fun j => ?_)))⟩
    by_cases z : j = i
    · rw [z, pk_us, hI (i + 1), if_neg (by omega), if_pos (by omega)]
    · rw [pk_un z, hI j]
      by_cases y : j < i
      · rw [if_pos y, if_pos (by omega)]
      · rw [if_neg y, if_neg (by omega)]
/-- move on the reference's side -/
theorem wy_move {post : Int32 → SY → Prop} {x n d : Nat} (hV : bp_V x) (hd : d < 4) (hn : n ≤ 20) (h0 : bp_ns K (bp_nd x) d = none → ∀ tc' tb', post (-5) (nI (bp_nd x / 16), nI (x % 16), nI n, ps, tc', tb', K, mv, ts, lv))
    (h1 : ∀ M mv1 n1 w, bp_ns K (bp_nd x) d = some M → w = (if bp_nd x / 16 = M / 16 then 0 else 1) → n1 < 20 → bz_Dr n mv mv1 n1 → post (nI w) (nI (M / 16), nI (M % 16), nI (n1 + 1), ps + nI w, nI (M % 16), nI (M / 16), K, upd mv1 n1 (nI (d + 4 * w)), ts, lv)) :
    wpY_move post (nI (bp_nd x / 16), nI (x % 16), nI n, ps, tc, tb, K, mv, ts, lv) (nI d) := by
  unfold wpY_move
  dsimp only
  refine br_f (nI_pos (by omega)) (br_t (nI_le (b := 3) (by omega) (by decide)) ?_)
  refine wy_step hV hd (fun hno tc' tb' => br_t rfl (h0 hno tc' tb')) (fun M hM => ?_)
  have key : ∀ w, w = (if bp_nd x / 16 = M / 16 then 0 else 1) → w ≤ 1 → (if bp_nd x / 16 = M / 16 then (1 : Int32) else 2) = nI (w + 1) := by
    intro w hw _
    rw [hw]
    by_cases z : bp_nd x / 16 = M / 16
    · rw [if_pos z, if_pos z]; rfl
    · rw [if_neg z, if_neg z]; rfl
  obtain ⟨w, hw⟩ : ∃ w, w = (if bp_nd x / 16 = M / 16 then 0 else 1) := ⟨_, rfl⟩
  have hw1 : w ≤ 1 := by rw [hw]; split <;> omega
  rw [key w hw hw1]
  refine br_f (nI_ne0 (by omega) (by omega)) ?_
  have ep : ps + nI (w + 1) - 1 = ps + nI w := by
    rw [← nI_1 w, ← Int32.add_assoc, Int32.add_sub_cancel]
  refine nm_r ep ?_
  refine pk_eq n 20 (fun z => ?_) (fun z => ?_)
  · refine wy_drop (fun mv1 hm => ?_)
    exact wy_m104 (n := 19) (by decide) (h1 M mv1 19 w hM hw (by decide) (Or.inr ⟨z, rfl, hm⟩))
  · exact wy_m104 (by omega) (h1 M mv n w hM hw (by omega) (Or.inl ⟨by omega, rfl, rfl⟩))
end
theorem i_vc_move {k : Nat} {u : SX} {v : SY} (I : i_Rel k u v) (hk : k + 3 ≤ 1536) (v1 : Int32) : wpX_move (fun r u' => wpY_move (fun r' v' => r' = r ∧ i_Rel (k + 3) u' v') v v1) u v1 := by
  have I' : i_Rel (k + 3) u v := I
  obtain ⟨x, n, pc, fd, tc, tb, K, kD, kS, se, qu, mv, ts, lv, rfl, rfl, hV, ho, hn, hKp, hts, hK⟩ := I
  have hs : x < 4624 := hV.1
  rcases pk_ix v1 (n := 4) (by decide) with z | z | ⟨d, hd, rfl⟩
  · unfold wpX_move wpY_move
    dsimp only
    exact br_t z (br_t z ⟨rfl, I'⟩)
  · have z0 : ¬ v1 < 0 := Int32.not_lt.mpr (Int32.le_trans (show (0 : Int32) ≤ nI 4 by decide) z)
    have z4 : ¬ v1 < 4 := Int32.not_lt.mpr z
    have z3 : ¬ v1 ≤ 3 := by
      intro y
      have := Int32.le_trans z y
      exact absurd this (by decide)
    unfold wpX_move wpY_move
    dsimp only
    exact br_f z0 (br_f z4 (br_f z0 (br_f z3 ⟨rfl, I'⟩)))
  · refine wx_move hV hd hn (fun hno => ?_) (fun t kD1 kS1 n1 ht l1 l2 l3 => ?_)
    · refine wy_move hV hd hn (fun _ tc' tb' => ⟨rfl, iz_mk hV ho hn hKp hts hK⟩) (fun M mv1 n1 w hM => ?_)
      rcases bp_comm K hV hd with ⟨_, c2⟩ | ⟨t, c1, _⟩
      · rw [hM] at c2; cases c2
      · rw [hno] at c1; cases c1
    · obtain ⟨vt, hns, hiff⟩ := bp_stV hV hd ht
      refine wy_move hV hd hn (fun hno => ?_) (fun M mv1 n2 w hM hw m1 m2 => ?_)
      · rw [hns] at hno; cases hno
      · rw [hns] at hM
        have e := Option.some.inj hM
        subst e
        have ew : w = bz_ps x t := by
          rw [hw]
          unfold bz_ps
          by_cases z : x / 16 = t / 16
          · rw [if_pos z, if_pos (hiff.mp z)]
          · rw [if_neg z, if_neg (fun y => z (hiff.mpr y))]
        obtain ⟨q1, q2, q3, q4⟩ := bz_Kdr hKp l3 l2 m2
        have e2 : n2 = n1 := q3
        subst e2
        subst ew
        refine ⟨rfl, ?_⟩
        rw [(bp_ndD vt).1]
        have hot : bp_op K (t % 16) := by
          rcases bp_comm K hV hd with ⟨c1, _⟩ | ⟨t', c1, _, _, _, c5, _⟩
          · rw [ht] at c1; cases c1
          · rw [ht] at c1
            cases Option.some.inj c1
            exact c5
        exact iz_mk vt hot (by omega) (bz_Kpush q4 hd hV ho ht) hts hK
theorem i_vc_undo {k : Nat} {u : SX} {v : SY} (I : i_Rel k u v) (hk : k + 3 ≤ 1536) : wpX_undo (fun r u' => wpY_undo (fun r' v' => r' = r ∧ i_Rel (k + 3) u' v') v) u := by
  have I' : i_Rel (k + 3) u v := I
  obtain ⟨x, n, pc, fd, tc, tb, K, kD, kS, se, qu, mv, ts, lv, rfl, rfl, hV, ho, hn, hKp, hts, hK⟩ := I
  have hs : x < 4624 := hV.1
  unfold wpX_undo wpY_undo
  dsimp only
  cases n with
  | zero => exact br_t (by decide) (br_t rfl ⟨rfl, I'⟩)
  | succ n =>
    obtain ⟨y, d, hd, hVy, hoy, hst, e1, e2, e3, hKp'⟩ := bz_Kpop hKp
    have hy : y < 4624 := hVy.1
    obtain ⟨_, hot, hnb, hd1, halt⟩ := bp_back hVy hd hoy hst
    have hx16 : x % 16 < 16 := by omega
    obtain ⟨gp, ga, gb, gab, _⟩ := hV.2
    have hrem : (d + 4 * bz_ps y x) % 4 = d := by omega
    have hps : bz_ps y x = 0 ∨ bz_ps y x = 1 := by unfold bz_ps; split; exact Or.inl rfl; exact Or.inr rfl
    have hxor : nI d ^^^ 1 = nI (d ^^^ 1) := nx_xor d 1
    have und : ∀ (r : Int32) (bo' ps' : Int32) (su : SX), r = nI d → i_Rel (k + 3) su (bo', nI (y % 16), nI n, ps', tc, tb, K, mv, ts, lv) → wY_undo_86 (fun r' v' => r' = r ∧ i_Rel (k + 3) su v') (nI d) bo' (nI (x % 16)) (nI n) ps' tc tb K mv ts lv := by
      intro r bo' ps' su hr hR
      unfold wY_undo_86
      rw [hxor]
      refine wy_next hx16 hd1 (fun _ => ?_) (fun q => ?_)
      · rw [hnb]
        exact ⟨hr.symm, hR⟩
      · rw [hnb] at q
        exact absurd hoy q
    refine br_f (nI_nle (by omega) (by omega)) (br_t (nI_le (b := 20) hn (by decide)) (nm_r (nI_pred n) ?_))
    rw [nI_clamp (by omega)]
    refine ⟨vp_in_nI (by omega) (by decide), nm_r e1 ?_⟩
    refine wx_isPush (by omega) (by omega) (fun z => br_t rfl ?_) (fun z => br_f (by decide) (nm_e ?_))
    · have ep : bz_ps y x = 0 := if_pos z
      unfold wX_undo_60
      rw [nI_clamp (by omega), e2]
      refine ⟨vp_in_nI (by omega) (by decide), ?_⟩
      refine br_f (nI_ne0 (by omega) (by omega)) (nm_r (nI_pred n) ?_)
      rw [nI_clamp (by omega), e3, bi_p4 (by omega), hrem, ep]
      refine ⟨vp_in_nI (by omega) (by decide), by decide, nm_e ⟨vp_in_nI (by omega) (by decide), br_t (nI_le (b := 3) (by omega) (by decide)) ?_⟩⟩
      refine und _ _ _ _ rfl ?_
      rcases halt with ⟨_, h2⟩ | ⟨h2, _⟩
      · rw [← h2]
        exact iz_mk hVy hoy (by omega) hKp' hts hK
      · exact absurd z h2
    · have ep : bz_ps y x = 1 := if_neg z
      unfold wX_undo_60
      rw [nI_clamp (by omega), e2]
      refine ⟨vp_in_nI (by omega) (by decide), ?_⟩
      refine br_f (nI_ne0 (by omega) (by omega)) (nm_r (nI_pred n) ?_)
      rw [nI_clamp (by omega), e3, bi_p4 (by omega), hrem, ep]
      refine ⟨vp_in_nI (by omega) (by decide), by decide, nm_e ⟨vp_in_nI (by omega) (by decide), br_f (nI_ge (a := 3) (by omega) (by omega)) ?_⟩⟩
      rcases halt with ⟨h2, _⟩ | ⟨_, h3, h4, h5, h6⟩
      · exact absurd h2 z
      · refine wy_next hx16 hd (fun _ => ?_) (fun q => absurd h3 q)
        rw [(bp_ndD hV).2] at h4 h5 h6 ⊢
        refine nm_r (bi_mvN ga gb gab h3.1 hx16 h4 h5) (nm_e ?_)
        rw [← h6]
        refine und _ _ _ _ rfl ?_
        exact iz_mk hVy hoy (by omega) hKp' hts hK
end
