section
theorem pk_sub {a b : Nat} (h : b ≤ a) : nI a - nI b = nI (a - b) := by
  obtain ⟨c, rfl⟩ : ∃ c, a = c + b := ⟨a - b, by omega⟩
  rw [← nI_add, Int32.add_sub_cancel, Nat.add_sub_cancel]
theorem pk_mul (a b : Nat) : nI a * nI b = nI (a * b) := (Int32.ofNat_mul a b).symm
theorem pk_div {a d : Nat} (ha : a < 2 ^ 31) (h0 : 0 < d) (hd : d < 2 ^ 31) : nI a / nI d = nI (a / d) := by
  apply Int32.toInt_inj.mp
  rw [lg_idiv_nonneg (by rw [nI_toInt ha]; omega) (by rw [nI_toInt hd]; omega), nI_toInt ha, nI_toInt hd, nI_toInt (Nat.lt_of_le_of_lt (Nat.div_le_self a d) ha)]
  first | rfl | exact (Int.natCast_ediv _ _).symm
theorem pk_rem {a d : Nat} (ha : a < 2 ^ 31) (h0 : 0 < d) (hd : d < 2 ^ 31) : nI a - nI a / nI d * nI d = nI (a % d) := by
  rw [pk_div ha h0 hd, pk_mul, pk_sub (Nat.div_mul_le_self a d)]
  exact congrArg nI (by have := Nat.div_add_mod' a d; omega)
theorem pk_nb (z : Int32) : narrow .byte (.int z.toInt8.toInt32) = .int z.toInt8.toInt32 := congrArg Value.int (by simp)
theorem pk_fb (r : Int32) : fits .byte (.int r.toInt8.toInt32) = true := by
  have ⟨a, b⟩ := lg_i2b_range r
  have h1 : (-128 : Int32).toInt = -128 := by decide
  have h2 : (127 : Int32).toInt = 127 := by decide
  simp only [fits, Bool.and_eq_true, decide_eq_true_eq, Int32.le_iff_toInt_le, h1, h2]
  omega
theorem pk_lT {n : Nat} (h : n < 2 ^ 63) : (lN n).toInt = (n : Int) := lg_ofNat_toInt h
theorem pk_lLE {a b : Nat} (ha : a < 2 ^ 63) (hb : b < 2 ^ 63) : lN a ≤ lN b ↔ a ≤ b := by
  rw [Int64.le_iff_toInt_le, pk_lT ha, pk_lT hb]; omega
theorem pk_lOf {x : Int64} (h : ¬ x < 0) : ∃ k : Nat, k < 2 ^ 63 ∧ x = lN k := by
  rw [Int64.lt_iff_toInt_lt] at h
  have h0 : (0 : Int64).toInt = 0 := by decide
  have hx := Int64.toInt_lt x
  refine ⟨x.toInt.toNat, by omega, Int64.toInt_inj.mp ?_⟩
  rw [pk_lT (by omega)]
  omega
/-- an int from 0 to 127 is its own byte -/
theorem df_b : ∀ j, j < 128 → (nI j).toInt8.toInt32 = nI j := by decide +kernel
theorem df_nb {j : Nat} (h : j ≤ 127) : narrow .byte (.int (nI j)) = .int (nI j) := by
  have e := pk_nb (nI j)
  rw [df_b j (by omega)] at e
  exact e
theorem df_fb {j : Nat} (h : j ≤ 127) : fits .byte (.int (nI j)) = true := by
  have e := pk_fb (nI j)
  rw [df_b j (by omega)] at e
  exact e
/-- a long from 0 to 127 -/
theorem df_long {t : Int64} (h0 : 0 ≤ t) (h1 : t ≤ 127) : ∃ m : Nat, m ≤ 127 ∧ t.toInt32.toInt8.toInt32 = nI m := by
  obtain ⟨m, hm, rfl⟩ := pk_lOf (x := t) (Int64.not_lt.mpr h0)
  have h2 : lN m ≤ lN 127 := h1
  rw [pk_lLE hm (by decide)] at h2
  exact ⟨m, h2, by rw [lN_i]; exact df_b m (by omega)⟩
/-- the index into the table of twelve -/
theorem df_ix {j : Nat} (h : j ≤ 127) : vp_in (nI j - nI j / 12 * 12) 12 := by
  have e : nI j - nI j / nI 12 * nI 12 = nI (j % 12) := pk_rem (by omega) (by decide) (by decide)
  have e' : nI j - nI j / 12 * 12 = nI (j % 12) := e
  rw [e']
  exact vp_in_nI (Nat.mod_lt _ (by decide)) (by decide)
end
section
/-- the two objects hold the same step, from 0 to 127, and the same table -/
def i_Rel (_ : Nat) (u : SX) (v : SY) : Prop := ∃ (j : Nat) (a : Nat → Int32), j ≤ 127 ∧ u = (nI j, a) ∧ v = (nI j, a)
theorem i_up {k : Nat} {u : SX} {v : SY} (h : i_Rel k u v) : i_Rel (k + 2) u v := h
theorem i_vc0 : wpX_init (fun u => wpY_init (fun v => i_Rel 0 u v)) := by
  intro a1 ae1 a2 ae2 a3 ae3 a4 ae4 a5 ae5 a6 ae6 a7 ae7 a8 ae8 a9 ae9 a10 ae10 a11 ae11 a12 ae12
  intro b1 be1 b2 be2 b3 be3 b4 be4 b5 be5 b6 be6 b7 be7 b8 be8 b9 be9 b10 be10 b11 be11 b12 be12
  refine ⟨0, a12, by decide, rfl, ?_⟩
  subst ae1
  subst ae2
  subst ae3
  subst ae4
  subst ae5
  subst ae6
  subst ae7
  subst ae8
  subst ae9
  subst ae10
  subst ae11
  subst ae12
  subst be1
  subst be2
  subst be3
  subst be4
  subst be5
  subst be6
  subst be7
  subst be8
  subst be9
  subst be10
  subst be11
  subst be12
  rfl
/-- one clamped step: the number that both sides come to from the long sum t -/
theorem df_clamp (t : Int64) : ∃ m : Nat, m ≤ 127 ∧ (∀ post : Int32 → Prop, post (nI m) → wpX_clampedStep post t) ∧ (∀ (post : Int32 → SY → Prop) (f : Int32) (a : Nat → Int32), post (nI m) (nI m, a) → ((0 ≤ t → wY_nudge_17 post t f a) ∧ (¬ 0 ≤ t → wY_nudge_17 post 0 f a))) := by
  by_cases h0 : 0 ≤ t
  · by_cases h1 : t ≤ 127
    · obtain ⟨m, hm, e⟩ := df_long h0 h1
      refine ⟨m, hm, fun post hp => br_t h0 (br_t h1 ⟨pk_nb _, ?_⟩), fun post f a hp => br_t h0 (br_t h1 ⟨pk_nb _, pk_fb _, ?_⟩)⟩
      · rw [e]; exact hp
      · rw [e]; exact hp
    · have e : ((127 : Int64).toInt32).toInt8.toInt32 = nI 127 := by decide
      refine ⟨127, Nat.le_refl _, fun post hp => br_t h0 (br_f h1 hp), fun post f a hp => br_t h0 (br_f h1 (nm_r e ⟨df_nb (Nat.le_refl _), df_fb (Nat.le_refl _), ?_⟩))⟩
      rw [e]; exact hp
  · have e : ((0 : Int64).toInt32).toInt8.toInt32 = nI 0 := by decide
    refine ⟨0, Nat.zero_le _, fun post hp => br_f h0 hp, fun post f a hp => br_f h0 (br_t (by decide) ⟨pk_nb _, pk_fb _, ?_⟩)⟩
    rw [e]; exact hp
theorem i_vc_apply {k : Nat} {u : SX} {v : SY} (I : i_Rel k u v) (hk : k + 2 ≤ 1024) (v1 : Int32) : wpX_apply (fun r => wpY_apply (fun r' => r' = r ∧ i_Rel (k + 2) u v) v (lw_i16 v1)) u (lw_i16 v1) := by
  obtain ⟨j, a, hj, rfl, rfl⟩ := I
  have J : i_Rel (k + 2) (nI j, a) (nI j, a) := ⟨j, a, hj, rfl, rfl⟩
  have h12 := df_ix hj
  have z : ¬ (12 : Int32) = 0 := by decide
  by_cases h : nI j = 127
  · exact br_t h (br_t h ⟨rfl, J⟩)
  · exact br_f h ⟨z, h12, nm_e ⟨z, br_f h ⟨z, h12, nm_e ⟨z, rfl, J⟩⟩⟩⟩
theorem i_vc_nudge {k : Nat} {u : SX} {v : SY} (I : i_Rel k u v) (hk : k + 2 ≤ 1024) (v1 : Int32) : wpX_nudge (fun r u' => wpY_nudge (fun r' v' => r' = r ∧ i_Rel (k + 2) u' v') v v1) u v1 := by
  obtain ⟨j, a, hj, rfl, rfl⟩ := I
  obtain ⟨m, hm, hX, hY⟩ := df_clamp ((nI j).toInt64 + v1.toInt64)
  unfold wpX_nudge wpY_nudge
  dsimp only
  refine hX _ ⟨df_nb hm, df_fb hm, ?_⟩
  refine nm_e ?_
  exact hY _ _ _ ⟨rfl, m, a, hm, rfl, rfl⟩
theorem i_vc_mute {k : Nat} {u : SX} {v : SY} (I : i_Rel k u v) (hk : k + 2 ≤ 1024) : wpX_mute (fun r u' => wpY_mute (fun r' v' => r' = r ∧ i_Rel (k + 2) u' v') v) u := by
  obtain ⟨j, a, hj, rfl, rfl⟩ := I
  exact ⟨rfl, 127, a, Nat.le_refl _, rfl, rfl⟩
theorem i_vc_step {k : Nat} {u : SX} {v : SY} (I : i_Rel k u v) (hk : k + 2 ≤ 1024) : wpX_step (fun r => wpY_step (fun r' => r' = r ∧ i_Rel (k + 2) u v) v) u := by
  obtain ⟨j, a, hj, rfl, rfl⟩ := I
  exact ⟨rfl, j, a, hj, rfl, rfl⟩
end
