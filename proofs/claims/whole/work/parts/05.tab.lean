/-! the reference's table of sets, its labels, its sweeps and its search, as pure rows -/
def bp_tl : List Nat := [1, 3, 2, 5, 6, 4, 9, 10, 12, 8, 17, 18, 20, 24, 16, 33, 34, 36, 40, 48, 32, 65, 66, 68, 72, 80, 96, 64, 129, 130, 132, 136, 144, 160, 192, 128, 257, 258, 260, 264, 272, 288, 320, 384, 256, 513, 514, 516, 520, 528, 544, 576, 640, 768, 512, 1025, 1026, 1028, 1032, 1040, 1056, 1088, 1152, 1280, 1536, 1024, 2049, 2050, 2052, 2056, 2064, 2080, 2112, 2176, 2304, 2560, 3072, 2048, 4097, 4098, 4100, 4104, 4112, 4128, 4160, 4224, 4352, 4608, 5120, 6144, 4096, 8193, 8194, 8196, 8200, 8208, 8224, 8256, 8320, 8448, 8704, 9216, 10240, 12288, 8192, 16385, 16386, 16388, 16392, 16400, 16416, 16448, 16512, 16640, 16896, 17408, 18432, 20480, 24576, 16384, 32769, 32770, 32772, 32776, 32784, 32800, 32832, 32896, 33024, 33280, 33792, 34816, 36864, 40960, 49152, 32768, 0]
def bp_tab (n : Nat) : Nat := bp_tl.getD n 0
def bp_ix (a b : Nat) : Nat :=
  if a < 16 then (if b < 16 then (if a < b then b * (b + 1) / 2 + a else a * (a + 1) / 2 + b) else a * (a + 1) / 2 + a)
  else (if b < 16 then b * (b + 1) / 2 + b else 136)
theorem bp_ixT : ∀ a, a < 17 → ∀ b, b < 17 → (a = b → a = 16) → bp_ix a b < 137 ∧ bp_tab (bp_ix a b) = bp_bm a b := by decide +kernel
theorem bp_tabN : ∀ n, n < 137 → ∀ m, m < n → bp_tab n ≠ bp_tab m := by decide +kernel
theorem bp_tabL : ∀ n, n < 137 → bp_tab n < 65536 := by decide +kernel
theorem bp_tabA : ∀ a, a < 16 → ∀ b, b < a + 1 → a * (a + 1) / 2 + b < 136 ∧ nI (bp_tab (a * (a + 1) / 2 + b)) = ((1 : Int32) <<< (nI a &&& 31)) ||| ((1 : Int32) <<< (nI b &&& 31)) := by decide +kernel
theorem bp_cntN : bp_cnt (fun y => decide (bp_tab (y / 16) ≠ 0 ∧ ¬ bp_has (bp_tab (y / 16)) (y % 16))) 2192 = 1920 := by decide +kernel
theorem bp_tabI {n m : Nat} (hn : n < 137) (hm : m < 137) (h : bp_tab n = bp_tab m) : n = m := by
  rcases Nat.lt_trichotomy n m with z | z | z
  · exact absurd h.symm (bp_tabN m hm n z)
  · exact z
  · exact absurd h (bp_tabN n hn m z)
def bp_ga (y : Nat) : Nat := bp_tab (y / 16) * 16 + y % 16
theorem bp_gaD (y : Nat) : bp_ga y / 16 = bp_tab (y / 16) ∧ bp_ga y % 16 = y % 16 := by
  unfold bp_ga
  refine ⟨by omega, by omega⟩
theorem bp_gaI {y z : Nat} (hy : y < 2192) (hz : z < 2192) (h : bp_ga y = bp_ga z) : y = z := by
  obtain ⟨a1, a2⟩ := bp_gaD y
  obtain ⟨b1, b2⟩ := bp_gaD z
  rw [h] at a1 a2
  have e := bp_tabI (n := y / 16) (m := z / 16) (by omega) (by omega) (by rw [← a1, b1])
  omega
theorem bp_gaS {N : Nat} (h : bp_VN N) : ∃ y, y < 2192 ∧ bp_ga y = N := by
  obtain ⟨x, hx, rfl⟩ := h
  obtain ⟨hp, ha, hb, hab, _⟩ := hx.2
  obtain ⟨i1, i2⟩ := bp_ixT _ ha _ hb hab
  refine ⟨bp_ix (x / 16 / 17) (x / 16 % 17) * 16 + x % 16, by omega, ?_⟩
  have e1 : (bp_ix (x / 16 / 17) (x / 16 % 17) * 16 + x % 16) / 16 = bp_ix (x / 16 / 17) (x / 16 % 17) := by omega
  have e2 : (bp_ix (x / 16 / 17) (x / 16 % 17) * 16 + x % 16) % 16 = x % 16 := by omega
  unfold bp_ga bp_nd
  rw [e1, e2, i2]
