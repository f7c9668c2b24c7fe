/-! floats: the bits of a share by arithmetic -/
def zeU (n : Nat) : UInt32 := UInt32.ofNat n
theorem zeU_n {n : Nat} (h : n < 2 ^ 32) : (zeU n).toNat = n := UInt32.toNat_ofNat_of_lt' h
theorem zeU_nn {n : Nat} (h : n ≤ 2139095040) : FP.Core.val32 (zeU n) ≠ .nan := (FP.Core.ne_nan32 _).mpr (by rw [zeU_n (by omega)]; omega)
theorem zeU_v {E T : Nat} (h1 : 1 ≤ E) (h2 : E < 255) (hT : T < 2 ^ 23) : FP.Core.val32 (zeU (E * 2 ^ 23 + T)) = .fin false (2 ^ 23 + T) ((E : Int) - 150) := by
  have e : E * 2 ^ 23 + T = FP.Core.assemble FP.Core.b32 false E T := by
    unfold FP.Core.assemble
    rw [FP.Core.tails_b32, Bool.toNat_false, Nat.zero_mul, Nat.zero_add]
  unfold FP.Core.val32
  rw [zeU_n (by omega), e, FP.Core.decode_assemble _ _ _ _ (show E < 256 by omega) (by rw [FP.Core.tails_b32]; exact hT), FP.Core.exps_b32, if_neg (show ¬ E = 255 by omega), if_neg (show ¬ E = 0 by omega), FP.Core.tails_b32, FP.Core.qmin_b32, show (-149 : Int) + ((E : Int) - 1) = (E : Int) - 150 by omega]
theorem zeU_f {E T : Nat} (h1 : 1 ≤ E) (h2 : E < 255) (hT : T < 2 ^ 23) : FP.Core.fits FP.Core.b32 (.fin false (2 ^ 23 + T) ((E : Int) - 150)) := by
  rw [← zeU_v h1 h2 hT]
  exact FP.Core.val32_fits _
theorem zf_n {r : UInt32} (h : FP.Core.val32 r ≠ .nan) : vf_n32 r := by
  have h1 := (FP.Core.ne_nan32 r).mp h
  unfold vf_n32
  rw [UInt32.le_iff_toNat_le, UInt32.toNat_and]
  show r.toNat &&& (2 ^ 31 - 1) ≤ 2139095040
  rw [Nat.and_two_pow_sub_one_eq_mod]
  exact h1
theorem zf_c1 {x y : Int} {o : ClassFile.CmpOp} (h : x < y) : Op.cmpValue (some (compare x y)) o = -1 := by rw [FP.Core.compare_ite, if_pos h]; rfl
theorem zf_c2 {x y : Int} {o : ClassFile.CmpOp} (h : x = y) : Op.cmpValue (some (compare x y)) o = 0 := by rw [FP.Core.compare_ite, if_neg (by omega), if_pos h]; rfl
theorem zf_c3 {x y : Int} {o : ClassFile.CmpOp} (h : y < x) : Op.cmpValue (some (compare x y)) o = 1 := by rw [FP.Core.compare_ite, if_neg (by omega), if_neg (by omega)]; rfl
theorem zf_cmp {a b : UInt32} (ha : FP.Core.val32 a ≠ .nan) (hb : FP.Core.val32 b ≠ .nan) : FP.fcmp a b = some (compare (FP.Core.fkey a) (FP.Core.fkey b)) := FP.Core.fcmp_key ha hb
theorem zf_key {n : Nat} (h : n < 2 ^ 31) : FP.Core.fkey (zeU n) = (n : Int) := by
  unfold FP.Core.fkey
  rw [zeU_n (by omega), if_neg (by omega)]
theorem zf_k0 : FP.fconst0 = zeU 0 := by decide +kernel
theorem zf_k1 : FP.fconst1 = zeU (127 * 2 ^ 23 + 0) := by decide +kernel
theorem zf_k2 : FP.fconst2 = zeU (128 * 2 ^ 23 + 0) := by decide +kernel
theorem zf_kh : (1056964608 : UInt32) = zeU (126 * 2 ^ 23 + 0) := by decide +kernel
theorem zf_k23 : (1258291200 : UInt32) = zeU (150 * 2 ^ 23 + 0) := by decide +kernel
theorem zf_cmpU {a b : Nat} (ha : a ≤ 2139095040) (hb : b ≤ 2139095040) : FP.fcmp (zeU a) (zeU b) = some (compare (a : Int) (b : Int)) := by
  rw [zf_cmp (zeU_nn ha) (zeU_nn hb), zf_key (by omega), zf_key (by omega)]
/-- twice a number, half of it -/
theorem zf_shift {E T K F : Nat} (h1 : 1 ≤ E) (h2 : E < 255) (hT : T < 2 ^ 23) (k1 : 1 ≤ K) (k2 : K < 255) (f1 : 1 ≤ F) (f2 : F < 255) (h : E + K = F + 127) : FP.fmul (zeU (E * 2 ^ 23 + T)) (zeU (K * 2 ^ 23 + 0)) = zeU (F * 2 ^ 23 + T) := by
  have key : FP.Core.val32 (FP.Core.fmul (zeU (E * 2 ^ 23 + T)) (zeU (K * 2 ^ 23 + 0))) = .fin false (2 ^ 23 + T) ((F : Int) - 150) := by
    rw [FP.Core.val32_fmul, zeU_v h1 h2 hT, zeU_v k1 k2 (by decide)]
    show FP.Core.roundRatio FP.Core.b32 false ((2 ^ 23 + T) * (2 ^ 23 + 0)) 1 ((E : Int) - 150 + ((K : Int) - 150)) = _
    refine FP.Core.roundRatio_exact FP.Core.good_b32 (by decide) (zeU_f f1 f2 hT) ?_
    rw [show ((E : Int) - 150 + ((K : Int) - 150) - ((F : Int) - 150)).toNat = 0 by omega, show ((F : Int) - 150 - ((E : Int) - 150 + ((K : Int) - 150))).toNat = 23 by omega, Nat.pow_zero, Nat.mul_one, Nat.mul_one]
  exact FP.Core.val32_inj (by rw [key]; exact FP.Core.Datum.noConfusion) (by rw [key, zeU_v f1 f2 hT])
/-- the last step: the digits behind the point -/
theorem zf_last {T : Nat} (hT : T < 2 ^ 23) : FP.Core.val32 (FP.fsub (zeU (127 * 2 ^ 23 + T)) FP.fconst1) ≠ .nan ∧ FP.Core.val32 (FP.fmul (FP.fsub (zeU (127 * 2 ^ 23 + T)) FP.fconst1) 1258291200) ≠ .nan ∧ FP.f2i (FP.fmul (FP.fsub (zeU (127 * 2 ^ 23 + T)) FP.fconst1) 1258291200) = nI T := by
  have s1 : FP.Core.val32 (FP.Core.fsub (zeU (127 * 2 ^ 23 + T)) FP.fconst1) = FP.Core.round FP.Core.b32 (.fin false T (-23)) := by
    rw [FP.Core.val32_fsub, zf_k1, zeU_v (by decide) (by decide) hT, zeU_v (by decide) (by decide) (by decide)]
    have hu : FP.Core.sumUnits false (2 ^ 23 + T) (-23) true (2 ^ 23 + 0) (-23) (-23) = (T : Int) := by
      unfold FP.Core.sumUnits FP.Core.signed FP.Core.inUnits
      rw [show ((-23 : Int) - -23).toNat = 0 from rfl, Nat.pow_zero, Nat.mul_one, Nat.mul_one, if_neg (by decide), if_pos rfl]
      omega
    have e : FP.Core.exactSum (.fin false (2 ^ 23 + T) (((127 : Nat) : Int) - 150)) (FP.Core.negate (.fin false (2 ^ 23 + 0) (((127 : Nat) : Int) - 150))) = .fin (FP.Core.sumSign false true (FP.Core.sumUnits false (2 ^ 23 + T) (-23) true (2 ^ 23 + 0) (-23) (-23))) (FP.Core.sumUnits false (2 ^ 23 + T) (-23) true (2 ^ 23 + 0) (-23) (-23)).natAbs (-23) := rfl
    rw [e, hu, Int.natAbs_natCast]
    have hs : FP.Core.sumSign false true (T : Int) = false := by
      unfold FP.Core.sumSign
      by_cases h : (T : Int) = 0
      · rw [if_pos h]
        rfl
      · rw [if_neg h]
        exact decide_eq_false (by omega)
    rw [hs]
  have hq : FP.Core.b32.qmin = -149 := FP.Core.qmin_b32
  obtain ⟨c', q', hr, hu⟩ := FP.Core.round_exact FP.Core.good_b32 false (c := T) (q := -23) (show T < 2 ^ 24 by omega) (by rw [hq]; decide) (by decide +kernel)
  have hf := FP.Core.round_fits FP.Core.good_b32 (.fin false T (-23))
  rw [hr] at hf s1
  have hq' : FP.Core.b32.qmin ≤ q' := hf.2.1
  rw [hq] at hq'
  have s2 : FP.Core.val32 (FP.Core.fmul (FP.Core.fsub (zeU (127 * 2 ^ 23 + T)) FP.fconst1) 1258291200) = FP.Core.round FP.Core.b32 (.fin false (c' * (2 ^ 23 + 0)) (q' + 0)) := by
    rw [FP.Core.val32_fmul, s1, zf_k23, zeU_v (by decide) (by decide) (by decide)]
    rfl
  have hw : FP.Core.Whole (T : Int) (.fin false (c' * (2 ^ 23 + 0)) (q' + 0)) := by
    show FP.Core.signed false (c' * (2 ^ 23 + 0) * 2 ^ (q' + 0).toNat) = (T : Int) * ((2 ^ (-(q' + 0)).toNat : Nat) : Int)
    unfold FP.Core.signed
    rw [if_neg (by decide), ← Int.natCast_mul]
    congr 1
    unfold FP.Core.inUnits at hu
    rw [hq, show ((-23 : Int) - -149).toNat = 126 from rfl] at hu
    refine Nat.eq_of_mul_eq_mul_right (Nat.two_pow_pos 126) ?_
    calc c' * (2 ^ 23 + 0) * 2 ^ (q' + 0).toNat * 2 ^ 126 = c' * (2 ^ (q' - -149).toNat * 2 ^ (-(q' + 0)).toNat) := by
          rw [Nat.add_zero, Nat.mul_assoc, Nat.mul_assoc, ← Nat.pow_add, ← Nat.pow_add, ← Nat.pow_add]
          congr 2
          omega
      _ = T * 2 ^ 126 * 2 ^ (-(q' + 0)).toNat := by rw [← Nat.mul_assoc, hu]
      _ = T * 2 ^ (-(q' + 0)).toNat * 2 ^ 126 := by rw [Nat.mul_assoc, Nat.mul_assoc, Nat.mul_comm (2 ^ 126)]
  have hw2 := FP.Core.whole_round FP.Core.good_b32 FP.Core.wide_b32 (show ((T : Int)).natAbs ≤ 2 ^ 24 by omega) hw
  rw [← s2] at hw2
  refine ⟨by rw [show FP.fsub (zeU (127 * 2 ^ 23 + T)) FP.fconst1 = FP.Core.fsub (zeU (127 * 2 ^ 23 + T)) FP.fconst1 from rfl, s1]; exact FP.Core.Datum.noConfusion, FP.Core.Whole.ne_nan hw2, ?_⟩
  refine FP.Core.f2i_int (a := nI T) ?_
  rw [nI_toInt (by omega)]
  exact hw2
/-- a quotient of ints is a normal number -/
theorem zf_div {a b : Int32} (ha : a.toInt ≠ 0) (hb : b.toInt ≠ 0) : 2 ^ 23 ≤ (FP.fdiv (FP.i2f a) (FP.i2f b)).toNat % 2 ^ 31 ∧ (FP.fdiv (FP.i2f a) (FP.i2f b)).toNat % 2 ^ 31 < 161 * 2 ^ 23 := by
  have hq : FP.Core.b32.qmin = -149 := FP.Core.qmin_b32
  have ht : FP.Core.b32.tails = 2 ^ 23 := FP.Core.tails_b32
  have A1 := FP.Core.i2f_big ha
  have B1 := FP.Core.i2f_big hb
  refine ⟨?_, ?_⟩
  · obtain ⟨s, c, q, x1⟩ := FP.Core.i2f_fin a
    obtain ⟨t, d, r, y1⟩ := FP.Core.i2f_fin b
    have xf := FP.Core.val32_fits (FP.Core.i2f a)
    have yf := FP.Core.val32_fits (FP.Core.i2f b)
    have xz := FP.Core.zmag_toNat32 (a := FP.Core.i2f a) (by rw [x1]; exact FP.Core.Datum.noConfusion)
    have yz := FP.Core.zmag_toNat32 (a := FP.Core.i2f b) (by rw [y1]; exact FP.Core.Datum.noConfusion)
    rw [x1] at xf xz
    rw [y1] at yf yz
    have xq : FP.Core.b32.qmin ≤ q := xf.2.1
    have yq : FP.Core.b32.qmin ≤ r := yf.2.1
    have xz : c * 2 ^ (q - FP.Core.b32.qmin).toNat = _ := xz
    have yz : d * 2 ^ (r - FP.Core.b32.qmin).toNat = _ := yz
    have X1 : 2 ^ 23 * 2 ^ (127 - 1) ≤ c * 2 ^ (q - FP.Core.b32.qmin).toNat := by
      rw [xz, ← ht, ← FP.Core.unitsOf_start (f := FP.Core.b32) (K := 127) (by decide), ht]
      exact FP.Core.unitsOf_le_iff.mpr A1.1
    have Y1 : d * 2 ^ (r - FP.Core.b32.qmin).toNat < 2 ^ 23 * 2 ^ (160 - 1) := by
      have := (FP.Core.units_lt_start (f := FP.Core.b32) (K := 160) (by rw [ht]; exact FP.Core.i2f_mag b)).2
      rw [ht] at this
      rw [yz]
      exact this
    have Y0 : 2 ^ 23 * 2 ^ (127 - 1) ≤ d * 2 ^ (r - FP.Core.b32.qmin).toNat := by
      rw [yz, ← ht, ← FP.Core.unitsOf_start (f := FP.Core.b32) (K := 127) (by decide), ht]
      exact FP.Core.unitsOf_le_iff.mpr B1.1
    have d0 : d ≠ 0 := by
      rintro rfl
      rw [Nat.zero_mul] at Y0
      exact absurd Y0 (by decide)
    have hd : FP.Core.decode FP.Core.b32 (FP.Core.fdiv (FP.Core.i2f a) (FP.Core.i2f b)).toNat = FP.Core.roundRatio FP.Core.b32 (s != t) c d (q - r) := by
      show FP.Core.val32 _ = _
      rw [FP.Core.val32_fdiv, x1, y1]
      show (if d = 0 then _ else _) = _
      rw [if_neg d0]
    have := FP.Core.mag_ge FP.Core.good_b32 (m := 1 * FP.Core.b32.tails) (e0 := 2 * FP.Core.b32.qmin - r) hd (by omega) (by omega) (by omega) (by decide +kernel) ?_
    · rw [FP.Core.mag_toNat32, ht] at this
      omega
    · rw [FP.Core.unitsOf_start (by decide)]
      unfold FP.Core.inUnits
      rw [ht]
      rw [hq] at X1 Y1 xq yq ⊢
      rw [show ((-149 : Int) - (2 * -149 - r)).toNat = (r - -149).toNat by omega, show (q - r - (2 * (-149 : Int) - r)).toNat = (q - -149).toNat + 149 by omega, Nat.pow_add, ← Nat.mul_assoc, Nat.mul_assoc (2 ^ 23 * 2 ^ (1 - 1)), Nat.mul_comm (2 ^ (r - -149).toNat)]
      exact Nat.le_trans (Nat.mul_le_mul_left _ (Nat.le_of_lt Y1)) (Nat.le_trans (by decide) (Nat.mul_le_mul_right _ X1))
  · have := FP.Core.fdiv_mag (a := FP.Core.i2f a) (b := FP.Core.i2f b) (FP.Core.i2f_mag a) B1.1 B1.2 (by decide) (by decide)
    exact Nat.lt_of_lt_of_le this (by decide)
theorem zf_div0 {a b : Int32} (ha : a.toInt = 0) (hb : 0 < b.toInt) : FP.fdiv (FP.i2f a) (FP.i2f b) = FP.fconst0 := by
  have B1 := FP.Core.i2f_big (v := b) (by omega)
  obtain ⟨t, d, r, y1⟩ := FP.Core.i2f_fin b
  have ht : t = false := by
    have := FP.Core.sgn_roundRatio FP.Core.b32 (decide (b.toInt < 0)) b.toInt.natAbs 1 0
    have e : FP.Core.val32 (FP.Core.i2f b) = FP.Core.roundRatio FP.Core.b32 (decide (b.toInt < 0)) b.toInt.natAbs 1 0 := FP.Core.val32_i2f b
    rw [← e, y1, decide_eq_false (by omega)] at this
    exact this
  subst ht
  have d0 : d ≠ 0 := by
    rintro rfl
    have := (FP.Core.zero_bits232 (FP.Core.i2f b)).mp ⟨false, r, y1⟩
    omega
  have a0 : a = 0 := Int32.toInt_inj.mp (by rw [ha]; rfl)
  subst a0
  have x1 : FP.Core.val32 (FP.Core.i2f 0) = .fin false 0 FP.Core.b32.qmin := by decide +kernel
  have key : FP.Core.val32 (FP.Core.fdiv (FP.Core.i2f 0) (FP.Core.i2f b)) = .fin false 0 FP.Core.b32.qmin := by
    rw [FP.Core.val32_fdiv, x1, y1]
    show (if d = 0 then _ else FP.Core.roundRatio FP.Core.b32 false 0 d (FP.Core.b32.qmin - r)) = _
    rw [if_neg d0]
    rfl
  exact FP.Core.val32_inj (by rw [key]; exact FP.Core.Datum.noConfusion) (by rw [key]; exact FP.Core.val32_fconst0.symm)
/-! the class's loops over the bits -/
theorem l_b79 {x0 : UInt32} {E T : Nat} {σ : z_S} {Q : Int32 → z_S → Prop} (hE : E < 256) (hT : T < 2 ^ 23) (hq : if 0 ≤ (Op.cmpValue (FP.fcmp x0 FP.fconst0) .g) then Q (nI (E * 2 ^ 23 + T)) σ else Q (nI (E * 2 ^ 23 + T) ||| (-2147483648 : Int32)) σ) : w_X5_bitsOf_79 Q x0 (zeU (127 * 2 ^ 23 + T)) (nI E) σ := by
  unfold w_X5_bitsOf_79
  obtain ⟨g1, g2, g3⟩ := zf_last hT
  refine ⟨zf_n g1, zf_n g2, ?_⟩
  rintro _ rfl
  rw [g3, (show ∀ E, E < 256 → nI E <<< ((23 : Int32) &&& 31) = nI (E * 2 ^ 23) by decide +kernel) E hE, nI_add]
  exact hq
theorem l_b54 {x0 : UInt32} {T : Nat} {X : Nat} {σ : z_S} {Q : Int32 → z_S → Prop} (hT : T < 2 ^ 23) (hX : X < 256) (hq : w_X5_bitsOf_79 Q x0 (zeU (127 * 2 ^ 23 + T)) (nI X) σ) : ∀ d E n i, E + d = 127 → 1 ≤ E → i + d ≤ 126 → d < n → w_X5_bitsOf_54 Q n x0 (zeU (E * 2 ^ 23 + T)) (nI (X + d)) (nI i) σ := by
  intro d
  induction d with
  | zero =>
    intro E n i hE h1 hi hn
    obtain ⟨n, rfl⟩ : ∃ k, n = k + 1 := ⟨n - 1, by omega⟩
    obtain rfl : E = 127 := by omega
    show wb_X5_bitsOf_54 Q (w_X5_bitsOf_54 Q n) _ _ _ _ _
    unfold wb_X5_bitsOf_54
    refine z_ite (fun _ => hq) (fun _ => z_ifp ?_ hq)
    rw [zf_k1, zf_cmpU (by omega) (by omega)]
    by_cases h : T = 0
    · rw [zf_c2 (by omega)]
      decide
    · rw [zf_c3 (by omega)]
      decide
  | succ d ih =>
    intro E n i hE h1 hi hn
    obtain ⟨n, rfl⟩ : ∃ k, n = k + 1 := ⟨n - 1, by omega⟩
    show wb_X5_bitsOf_54 Q (w_X5_bitsOf_54 Q n) _ _ _ _ _
    unfold wb_X5_bitsOf_54
    have e : FP.fmul (zeU (E * 2 ^ 23 + T)) FP.fconst2 = zeU ((E + 1) * 2 ^ 23 + T) := by
      rw [zf_k2]
      exact zf_shift h1 (by omega) hT (by decide) (by decide) (by omega) (by omega) (by omega)
    refine z_ifn (nI_ge (a := i) (b := 126) (by omega) (by omega)) (z_ifn ?_ ?_)
    · rw [zf_k1, zf_cmpU (by omega) (by omega), zf_c1 (by omega)]
      decide
    · rw [e]
      refine ⟨zf_n (zeU_nn (by omega)), ?_⟩
      rintro _ rfl _ rfl _ rfl
      rw [nI_1, show X + (d + 1) = (X + d) + 1 by omega, ← nI_1 (X + d), Int32.add_assoc, show (1 : Int32) + -1 = 0 by decide, Int32.add_zero]
      exact ih (E + 1) n (i + 1) (by omega) (by omega) (by omega) (by omega)
theorem l_b26 {x0 : UInt32} {T : Nat} {X : Nat} {σ : z_S} {Q : Int32 → z_S → Prop} (hT : T < 2 ^ 23) (hq : w_X5_bitsOf_52 Q x0 (zeU (127 * 2 ^ 23 + T)) (nI X) σ) : ∀ d E n i Y, E = 127 + d → Y + d = X → i + d ≤ 126 → d < n → w_X5_bitsOf_26 Q n x0 (zeU (E * 2 ^ 23 + T)) (nI Y) (nI i) σ := by
  intro d
  induction d with
  | zero =>
    intro E n i Y hE hY hi hn
    obtain ⟨n, rfl⟩ : ∃ k, n = k + 1 := ⟨n - 1, by omega⟩
    obtain rfl : E = 127 := by omega
    obtain rfl : Y = X := by omega
    show wb_X5_bitsOf_26 Q (w_X5_bitsOf_26 Q n) _ _ _ _ _
    unfold wb_X5_bitsOf_26
    refine z_ite (fun _ => hq) (fun _ => z_ifp ?_ hq)
    rw [zf_k2, zf_cmpU (by omega) (by omega), zf_c1 (by omega)]
    decide
  | succ d ih =>
    intro E n i Y hE hY hi hn
    obtain ⟨n, rfl⟩ : ∃ k, n = k + 1 := ⟨n - 1, by omega⟩
    show wb_X5_bitsOf_26 Q (w_X5_bitsOf_26 Q n) _ _ _ _ _
    unfold wb_X5_bitsOf_26
    have e : FP.fmul (zeU (E * 2 ^ 23 + T)) (1056964608 : UInt32) = zeU ((E - 1) * 2 ^ 23 + T) := by
      rw [zf_kh]
      exact zf_shift (by omega) (by omega) hT (by decide) (by decide) (by omega) (by omega) (by omega)
    refine z_ifn (nI_ge (a := i) (b := 126) (by omega) (by omega)) (z_ifn ?_ ?_)
    · rw [zf_k2, zf_cmpU (by omega) (by omega)]
      by_cases h : E * 2 ^ 23 + T = 128 * 2 ^ 23
      · rw [zf_c2 (by omega)]
        decide
      · rw [zf_c3 (by omega)]
        decide
    · rw [e]
      refine ⟨zf_n (zeU_nn (by omega)), ?_⟩
      rintro _ rfl _ rfl _ rfl
      rw [nI_1, nI_1]
      exact ih (E - 1) n (i + 1) (Y + 1) (by omega) (by omega) (by omega) (by omega)
theorem l_b20 {x0 : UInt32} {E T : Nat} {σ : z_S} {Q : Int32 → z_S → Prop} (h1 : 1 ≤ E) (h2 : E ≤ 200) (hT : T < 2 ^ 23) (hq : w_X5_bitsOf_79 Q x0 (zeU (127 * 2 ^ 23 + T)) (nI E) σ) : w_X5_bitsOf_20 Q x0 (zeU (E * 2 ^ 23 + T)) σ := by
  unfold w_X5_bitsOf_20
  by_cases h : 127 ≤ E
  · refine l_b26 (X := E) hT ?_ (E - 127) E 400 0 127 (by omega) (by omega) (by omega) (by omega)
    unfold w_X5_bitsOf_52
    exact l_b54 hT (by omega) hq 0 127 400 0 (by omega) (by omega) (by omega) (by omega)
  · have go : w_X5_bitsOf_52 Q x0 (zeU (E * 2 ^ 23 + T)) (nI 127) σ := by
      unfold w_X5_bitsOf_52
      have := l_b54 hT (by omega) hq (127 - E) E 400 0 (by omega) (by omega) (by omega) (by omega)
      rw [show E + (127 - E) = 127 by omega] at this
      exact this
    show wb_X5_bitsOf_26 Q (w_X5_bitsOf_26 Q 399) _ _ _ _ _
    unfold wb_X5_bitsOf_26
    refine z_ifn (by decide) (z_ifp ?_ go)
    rw [zf_k2, zf_cmpU (by omega) (by omega), zf_c1 (by omega)]
    decide
theorem s_bitsOf {v : UInt32} {σ : z_S} {Q : Int32 → z_S → Prop} (h1 : 2 ^ 23 ≤ v.toNat % 2 ^ 31) (h2 : v.toNat % 2 ^ 31 < 201 * 2 ^ 23) (hq : Q v.toInt32 σ) : w_X5_bitsOf v σ Q := by
  have hv := v.toNat_lt
  have nn : FP.Core.val32 v ≠ .nan := (FP.Core.ne_nan32 _).mpr (by omega)
  have n0 : FP.Core.val32 FP.fconst0 ≠ .nan := by rw [zf_k0]; exact zeU_nn (by omega)
  have k0 : FP.Core.fkey FP.fconst0 = 0 := by rw [zf_k0]; exact zf_key (by omega)
  obtain ⟨E, T, hT, e, hE1, hE2⟩ : ∃ E T, T < 2 ^ 23 ∧ v.toNat % 2 ^ 31 = E * 2 ^ 23 + T ∧ 1 ≤ E ∧ E ≤ 200 := ⟨v.toNat % 2 ^ 31 / 2 ^ 23, v.toNat % 2 ^ 31 % 2 ^ 23, by omega, by omega, by omega, by omega⟩
  unfold w_X5_bitsOf
  rw [zf_cmp nn n0, k0]
  by_cases hs : v.toNat < 2 ^ 31
  · have ev : v = zeU (E * 2 ^ 23 + T) := UInt32.toNat_inj.mp (by rw [zeU_n (by omega)]; omega)
    have hk : FP.Core.fkey v = ((E * 2 ^ 23 + T : Nat) : Int) := by rw [ev]; exact zf_key (by omega)
    rw [hk, zf_c3 (by omega), zf_c3 (by omega)]
    refine z_ifn (by decide) (z_ifp (by decide) ?_)
    rw [ev]
    refine l_b20 hE1 hE2 hT (l_b79 (by omega) hT ?_)
    rw [← ev, zf_cmp nn n0, k0, hk, zf_c3 (by omega)]
    refine z_ifp (by decide) ?_
    rw [ev] at hq
    exact hq
  · have hk : FP.Core.fkey v = -((E * 2 ^ 23 + T : Nat) : Int) := by
      unfold FP.Core.fkey
      rw [if_pos (by omega)]
      omega
    rw [hk, zf_c1 (by omega), zf_c1 (by omega)]
    have ef : FP.fneg v = zeU (E * 2 ^ 23 + T) := by
      refine UInt32.toNat_inj.mp ?_
      rw [zeU_n (by omega)]
      unfold FP.fneg
      rw [UInt32.toNat_xor]
      show v.toNat ^^^ 2 ^ 31 = _
      rw [(FP.xor_top (a := v.toNat) (k := 31) (by omega)).2 (by omega)]
      omega
    have eo : v = zeU (E * 2 ^ 23 + T) ||| (2147483648 : UInt32) := by
      refine UInt32.toNat_inj.mp ?_
      rw [UInt32.toNat_or, zeU_n (by omega)]
      show v.toNat = (E * 2 ^ 23 + T) ||| 2 ^ 31
      rw [Nat.or_two_pow_eq_add_of_lt (by omega)]
      omega
    refine z_ifn (by decide) (z_ifn (by decide) ?_)
    rw [ef]
    refine l_b20 hE1 hE2 hT (l_b79 (by omega) hT ?_)
    rw [zf_cmp nn n0, k0, hk, zf_c1 (by omega)]
    refine z_ifn (by decide) ?_
    rw [eo, UInt32.toInt32_or] at hq
    exact hq
theorem s_bitsOf0 {σ : z_S} {Q : Int32 → z_S → Prop} (hq : Q 0 σ) : w_X5_bitsOf FP.fconst0 σ Q := by
  unfold w_X5_bitsOf
  refine z_ifp ?_ hq
  rw [zf_k0, zf_cmpU (by omega) (by omega)]
  exact zf_c2 rfl
theorem s_ftib {v : UInt32} {σ : z_S} {Q : Int32 → z_S → Prop} (hn : FP.Core.val32 v ≠ .nan) (hq : Q v.toInt32 σ) : w_Jxf58ca_floatToIntBits_5c35a v σ Q := by
  unfold w_Jxf58ca_floatToIntBits_5c35a w_Jxf58ca_isNaN_12338
  refine z_ifp ?_ ⟨Or.inl rfl, z_ifp rfl hq⟩
  rw [zf_cmp hn hn]
  exact zf_c2 rfl
/-! the shares -/
theorem z_bl_0 {f : Nat → Int32} {c i : Nat} (hf : z_fine f c) : ∀ p, p ≤ c → z_bl f c i p 0 = (z_ep f i 0 : Int) := by
  intro p
  induction p with
  | zero =>
    intro _
    exact if_pos rfl
  | succ p ih =>
    intro hp
    show (if z_P f p 0 = true then _ else z_bl f c i p 0) = _
    rw [if_neg (z_P_0 hf (by omega) (Nat.zero_le p)), ih (by omega)]
theorem z_tot_0 {f : Nat → Int32} {c : Nat} (hf : z_fine f c) (h0 : 0 < c) : 0 ≤ (z_tot f c 0).toInt := by
  have go : ∀ n, n ≤ 12 → ∃ s, s ≤ n * 5000001 ∧ z_sum (z_bi f c 0) n = nI s := by
    intro n
    induction n with
    | zero =>
      intro _
      exact ⟨0, by omega, rfl⟩
    | succ n ih =>
      intro hn
      obtain ⟨s, hs, e⟩ := ih (by omega)
      have hE := (z_ep_c hf h0 (show n < 12 by omega)).1
      refine ⟨s + z_ep f n 0, by omega, ?_⟩
      show z_sum (z_bi f c 0) n + z_bi f c 0 n = _
      unfold z_bi
      unfold z_bi at e
      rw [e, z_bl_0 hf c (Nat.le_refl c), nZ_n, nI_add]
  obtain ⟨s, hs, e⟩ := go 12 (Nat.le_refl 12)
  unfold z_tot
  rw [e, nI_toInt (by omega)]
  omega
def z_shr (f : Nat → Int32) (c m : Nat) : UInt32 := if z_tot f c 0 = 0 then FP.fconst0 else FP.fdiv (FP.i2f (z_tot f c m)) (FP.i2f (z_tot f c 0))
theorem z_shr_c {f : Nat → Int32} {c : Nat} (m : Nat) (hf : z_fine f c) (h0 : 0 < c) : z_shr f c m = FP.fconst0 ∨ (2 ^ 23 ≤ (z_shr f c m).toNat % 2 ^ 31 ∧ (z_shr f c m).toNat % 2 ^ 31 < 161 * 2 ^ 23) := by
  unfold z_shr
  by_cases e : z_tot f c 0 = 0
  · exact Or.inl (if_pos e)
  · rw [if_neg e]
    have hb := FP.Core.int32_ne e
    by_cases e2 : z_tot f c m = 0
    · exact Or.inl (zf_div0 (by rw [e2]; rfl) (by have := z_tot_0 hf h0; omega))
    · exact Or.inr (zf_div (FP.Core.int32_ne e2) hb)
theorem z_shr_n {f : Nat → Int32} {c : Nat} (m : Nat) (hf : z_fine f c) (h0 : 0 < c) : FP.Core.FFin (z_shr f c m) := by
  rw [FP.Core.fin_bits32]
  rcases z_shr_c m hf h0 with e | e
  · rw [e]
    decide
  · omega
theorem rc_shareOf {f : Nat → Int32} {c m : Nat} {σ : z_S} {Q : UInt32 → z_S → Prop} (h : z_rc f c σ) (hm : m < c) (hq : ∀ τ, z_cs σ τ → Q (z_shr f c m) τ) : w_X5_shareOf (nI m) σ Q := by
  have h10 := h.2.1
  have nn := zf_n (z_shr_n m h.2 (by omega)).ne_nan
  unfold w_X5_shareOf
  refine rc_fill h (by omega) (fun τ hτ hE hB => ⟨z_vin (i := 0) (by omega) (by omega), ?_⟩)
  have hq := hq τ hτ
  unfold z_shr at hq nn
  refine rc_sum (g := z_bi f c 0) ⟨by decide, z_sh55 (j := 0) (by omega)⟩ (fun i hi => hB i hi 0 (by omega)) ?_
  by_cases e : z_tot f c 0 = 0
  · rw [if_pos e] at hq
    exact z_ifp e hq
  · rw [if_neg e] at hq nn
    refine z_ifn e ⟨z_vin (by omega) (by omega), ?_⟩
    rw [z_tn (by omega)]
    exact rc_sum (g := z_bi f c m) ⟨by omega, z_sh55 (by omega)⟩ (fun i hi => hB i hi m hm) ⟨nn, hq⟩
theorem rm_shareOf {f : Nat → Int32} {c m : Nat} {σ : z_S} {Q : UInt32 → z_S → Prop} (h : z_rm f c σ) (hm : m < c) (hq : ∀ τ, z_ms σ τ → Q (z_shr f c m) τ) : w_X6_shareOf (nI m) σ Q := by
  have h10 := h.2.1
  have nn := zf_n (z_shr_n m h.2 (by omega)).ne_nan
  unfold w_X6_shareOf
  refine rm_all h (by omega) (fun τ hτ h9 => ⟨z_vin (i := 0) (by omega) (by omega), ?_⟩)
  have hq := hq τ hτ
  unfold z_shr at hq nn
  rw [show (0 : Int32).toNatClampNeg = 0 from rfl, z_tn (by omega), h9 0 (by omega), h9 m hm]
  by_cases e : z_tot f c 0 = 0
  · rw [if_pos e] at hq
    exact z_ifp e hq
  · rw [if_neg e] at hq nn
    exact z_ifn e ⟨z_vin (by omega) (by omega), z_vin (i := 0) (by omega) (by omega), nn, hq⟩
theorem op_shareBits {σ : z_S} {K : Int32 → Int32 → z_S → Prop} (a : Int32) (h : z_Inv σ) (hK : ∀ r σ2, z_Inv σ2 → K r r σ2) : w_X5_shareBits a σ (fun r σ1 => w_X6_shareBits a σ1 (fun r2 σ2 => K r r2 σ2)) := by
  unfold w_X5_shareBits w_X6_shareBits
  refine op_gm (fun σ2 Q => w_X5_shareOf a σ2 (fun r4 σ5 => w_X5_bitsOf r4 σ5 (fun r6 σ7 => Q r6 σ7))) (fun σ2 Q => w_X6_shareOf a σ2 (fun r4 σ5 => w_Jxf58ca_floatToIntBits_5c35a r4 σ5 (fun r6 σ7 => Q r6 σ7))) h ?_ hK
  rintro f c m hm rfl hf
  refine ⟨(z_shr f c m).toInt32, fun σ Q hr hq => rc_shareOf hr hm (fun τ hτ => ?_), fun σ1 Q hr hq => rm_shareOf hr hm (fun τ hτ => s_ftib (z_shr_n m hf (by omega)).ne_nan (hq τ hτ))⟩
  have hq := hq τ hτ
  rcases z_shr_c m hf (show 0 < c by omega) with e | e
  · rw [e] at hq ⊢
    exact s_bitsOf0 hq
  · exact s_bitsOf e.1 (by omega) hq
theorem op_share {σ : z_S} {K : Int32 → Int32 → z_S → Prop} (a : Int32) (h : z_Inv σ) (hK : ∀ r σ2, z_Inv σ2 → K r r σ2) : w_X5_share a σ (fun r σ1 => w_X6_share a σ1 (fun r2 σ2 => K r r2 σ2)) := by
  unfold w_X5_share w_X6_share
  refine op_gm (fun σ2 Q => w_X5_shareOf a σ2 (fun r4 σ5 => vf_n32 (FP.fmul r4 (1148846080 : UInt32)) ∧ Q (FP.f2i (FP.fmul r4 (1148846080 : UInt32))) σ5)) (fun σ2 Q => w_X6_shareOf a σ2 (fun r4 σ5 => vf_n32 (FP.fmul r4 (1148846080 : UInt32)) ∧ Q (FP.f2i (FP.fmul r4 (1148846080 : UInt32))) σ5)) h ?_ hK
  rintro f c m hm rfl hf
  have nn : vf_n32 (FP.fmul (z_shr f c m) (1148846080 : UInt32)) := zf_n ((FP.Core.notNaN_iff32 _).mp (FP.Core.fmul_out (z_shr_n m hf (by omega)) ((FP.Core.fin_bits32 _).mpr (by decide))))
  exact ⟨FP.f2i (FP.fmul (z_shr f c m) (1148846080 : UInt32)), fun σ Q hr hq => rc_shareOf hr hm (fun τ hτ => ⟨nn, hq τ hτ⟩), fun σ1 Q hr hq => rm_shareOf hr hm (fun τ hτ => ⟨nn, hq τ hτ⟩)⟩
