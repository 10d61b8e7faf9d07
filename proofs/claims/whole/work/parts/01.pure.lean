theorem pk_sub {a b : Nat} (h : b ≤ a) : nI a - nI b = nI (a - b) := by
  obtain ⟨c, rfl⟩ : ∃ c, a = c + b := ⟨a - b, by omega⟩
  rw [← nI_add, Int32.add_sub_cancel, Nat.add_sub_cancel]
theorem pk_mul (a b : Nat) : nI a * nI b = nI (a * b) := (Int32.ofNat_mul a b).symm
theorem pk_div {a d : Nat} (ha : a < 2 ^ 31) (h0 : 0 < d) (hd : d < 2 ^ 31) : nI a / nI d = nI (a / d) := by
  apply Int32.toInt_inj.mp
  rw [lg_idiv_nonneg (by rw [nI_toInt ha]; omega) (by rw [nI_toInt hd]; omega), nI_toInt ha, nI_toInt hd, nI_toInt (Nat.lt_of_le_of_lt (Nat.div_le_self a d) ha)]
  first | rfl | exact (Int.natCast_ediv _ _).symm
theorem pk_rem {a d : Nat} (ha : a < 2 ^ 31) (h0 : 0 < d) (hd : d < 2 ^ 31) : nI a - nI a / nI d * nI d = nI (a % d) := by
  rw [pk_div ha h0 hd, pk_mul, pk_sub (Nat.div_mul_le_self a d)]
  exact congrArg nI (by have := Nat.div_add_mod' a d; omega)
theorem pk_nb (z : Int32) : narrow .byte (.int z.toInt8.toInt32) = .int z.toInt8.toInt32 := congrArg Value.int (by simp)
theorem pk_fb (r : Int32) : fits .byte (.int r.toInt8.toInt32) = true := by
  have ⟨a, b⟩ := lg_i2b_range r
  have h1 : (-128 : Int32).toInt = -128 := by decide
  have h2 : (127 : Int32).toInt = 127 := by decide
  simp only [fits, Bool.and_eq_true, decide_eq_true_eq, Int32.le_iff_toInt_le, h1, h2]
  omega
theorem pk_lT {n : Nat} (h : n < 2 ^ 63) : (lN n).toInt = (n : Int) := lg_ofNat_toInt h
theorem pk_lLE {a b : Nat} (ha : a < 2 ^ 63) (hb : b < 2 ^ 63) : lN a ≤ lN b ↔ a ≤ b := by
  rw [Int64.le_iff_toInt_le, pk_lT ha, pk_lT hb]; omega
theorem pk_lOf {x : Int64} (h : ¬ x < 0) : ∃ k : Nat, k < 2 ^ 63 ∧ x = lN k := by
  rw [Int64.lt_iff_toInt_lt] at h
  have h0 : (0 : Int64).toInt = 0 := by decide
  have hx := Int64.toInt_lt x
  refine ⟨x.toInt.toNat, by omega, Int64.toInt_inj.mp ?_⟩
  rw [pk_lT (by omega)]
  omega
/-- an int from 0 to 127 is its own byte -/
theorem df_b : ∀ j, j < 128 → (nI j).toInt8.toInt32 = nI j := by decide +kernel
theorem df_nb {j : Nat} (h : j ≤ 127) : narrow .byte (.int (nI j)) = .int (nI j) := by
  have e := pk_nb (nI j)
  rw [df_b j (by omega)] at e
  exact e
theorem df_fb {j : Nat} (h : j ≤ 127) : fits .byte (.int (nI j)) = true := by
  have e := pk_fb (nI j)
  rw [df_b j (by omega)] at e
  exact e
/-- a long from 0 to 127 -/
theorem df_long {t : Int64} (h0 : 0 ≤ t) (h1 : t ≤ 127) : ∃ m : Nat, m ≤ 127 ∧ t.toInt32.toInt8.toInt32 = nI m := by
  obtain ⟨m, hm, rfl⟩ := pk_lOf (x := t) (Int64.not_lt.mpr h0)
  have h2 : lN m ≤ lN 127 := h1
  rw [pk_lLE hm (by decide)] at h2
  exact ⟨m, h2, by rw [lN_i]; exact df_b m (by omega)⟩
/-- the index into the table of twelve -/
theorem df_ix {j : Nat} (h : j ≤ 127) : vp_in (nI j - nI j / 12 * 12) 12 := by
  have e : nI j - nI j / nI 12 * nI 12 = nI (j % 12) := pk_rem (by omega) (by decide) (by decide)
  have e' : nI j - nI j / 12 * 12 = nI (j % 12) := e
  rw [e']
  exact vp_in_nI (Nat.mod_lt _ (by decide)) (by decide)
