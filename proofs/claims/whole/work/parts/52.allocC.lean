/-! the class allocates -/
def z_ep (f : Nat → Int32) (i k : Nat) : Nat := (z_en f k i).toNatClampNeg
def z_wt (f : Nat → Int32) (k : Nat) : Nat := (f (4 + 18 * k + 4)).toNatClampNeg
def z_P (f : Nat → Int32) (p k : Nat) : Bool := decide (f (4 + 18 * k) = nI p)
def z_cE (f : Nat → Int32) (i p k : Nat) : Nat := if z_P f p k = true then z_wt f k * z_ep f i k else 0
def z_cW (f : Nat → Int32) (p k : Nat) : Nat := if z_P f p k = true then z_wt f k else 0
def z_clm (f : Nat → Int32) (c i p : Nat) : Nat → Nat := if z_sm (z_cE f i p) c = 0 then z_cW f p else z_cE f i p
def z_T (f : Nat → Int32) (c i p : Nat) : Nat := z_sm (z_clm f c i p) c
def z_eP (f : Nat → Int32) (i p k : Nat) : Nat := if z_P f p k = true then z_ep f i k else 0
def z_df (f : Nat → Int32) (c i p : Nat) (B : Int) : Int := B - z_sm (z_eP f i p) c
def z_mr (f : Nat → Int32) (c i p : Nat) (B : Int) (k : Nat) : Nat := z_mo (z_df f c i p B).natAbs (z_T f c i p) (z_clm f c i p) (z_P f p) c k
def z_nb (f : Nat → Int32) (c i p : Nat) (B : Int) (k : Nat) : Int := if z_df f c i p B < 0 then (z_ep f i k : Int) - z_mr f c i p B k else (z_ep f i k : Int) + z_mr f c i p B k
theorem z_ep_c {f : Nat → Int32} {c i k : Nat} (hf : z_fine f c) (hk : k < c) (hi : i < 12) : z_ep f i k ≤ 5000001 ∧ z_en f k i = nI (z_ep f i k) := by
  obtain ⟨v, hv, e⟩ := z_en_c hf hk hi
  unfold z_ep
  rw [e, z_tn (by omega)]
  exact ⟨hv, rfl⟩
theorem z_wt_c {f : Nat → Int32} {c k : Nat} (hf : z_fine f c) (hk : k < c) : 1 ≤ z_wt f k ∧ z_wt f k ≤ 100 ∧ f (4 + 18 * k + 4) = nI (z_wt f k) := by
  obtain ⟨-, -, ⟨w, h1, h2, e⟩, -⟩ := hf.2.2.2.2.2.2.2 k hk
  unfold z_wt
  rw [e, z_tn (by omega)]
  exact ⟨h1, h2, rfl⟩
theorem z_P_i {f : Nat → Int32} {p k : Nat} : z_P f p k = true ↔ f (4 + 18 * k) = nI p := by
  unfold z_P
  exact decide_eq_true_iff
theorem z_P_0 {f : Nat → Int32} {c p k : Nat} (hf : z_fine f c) (hp : p < c) (hk : k ≤ p) : ¬ z_P f p k = true := fun q => z_np hf hk (by omega) (by have := hf.1; omega) (z_P_i.mp q)
theorem z_cE_b {f : Nat → Int32} {c i p k : Nat} (hf : z_fine f c) (hk : k < c) (hi : i < 12) : z_cE f i p k ≤ 500000100 := by
  unfold z_cE
  split
  · exact Nat.le_trans (Nat.mul_le_mul (z_wt_c hf hk).2.1 (z_ep_c hf hk hi).1) (by decide)
  · exact Nat.zero_le _
theorem z_cW_b {f : Nat → Int32} {c p k : Nat} (hf : z_fine f c) (hk : k < c) : z_cW f p k ≤ 100 := by
  unfold z_cW
  split
  · exact (z_wt_c hf hk).2.1
  · exact Nat.zero_le _
theorem z_cl_b {f : Nat → Int32} {c i p k : Nat} (hf : z_fine f c) (hk : k < c) (hi : i < 12) : z_clm f c i p k ≤ 500000100 := by
  unfold z_clm
  split
  · exact Nat.le_trans (z_cW_b hf hk) (by decide)
  · exact z_cE_b hf hk hi
theorem z_cl_n {f : Nat → Int32} {c i p k : Nat} (h : ¬ z_P f p k = true) : z_clm f c i p k = 0 := by
  unfold z_clm
  split
  · exact if_neg h
  · exact if_neg h
theorem z_sE_b {f : Nat → Int32} {c i p n : Nat} (hf : z_fine f c) (hi : i < 12) (hn : n ≤ c) : z_sm (z_cE f i p) n ≤ 5000001000 := by
  have h10 := hf.1
  have := z_sm_bd (g := z_cE f i p) n (fun k hk => z_cE_b hf (by omega) hi)
  have h2 : n * 500000100 ≤ 10 * 500000100 := Nat.mul_le_mul (by omega) (Nat.le_refl _)
  omega
theorem z_sW_b {f : Nat → Int32} {c p n : Nat} (hf : z_fine f c) (hn : n ≤ c) : z_sm (z_cW f p) n ≤ 1000 := by
  have h10 := hf.1
  have := z_sm_bd (g := z_cW f p) n (fun k hk => z_cW_b hf (by omega))
  have h2 : n * 100 ≤ 10 * 100 := Nat.mul_le_mul (by omega) (Nat.le_refl _)
  omega
theorem z_T_b {f : Nat → Int32} {c i p : Nat} (hf : z_fine f c) (hi : i < 12) : z_T f c i p ≤ 5000001000 := by
  unfold z_T z_clm
  split
  · exact Nat.le_trans (z_sW_b hf (Nat.le_refl c)) (by decide)
  · exact z_sE_b hf hi (Nat.le_refl c)
theorem z_eP_b {f : Nat → Int32} {c i p n : Nat} (hf : z_fine f c) (hi : i < 12) (hn : n ≤ c) : z_sm (z_eP f i p) n ≤ 50000010 := by
  have h10 := hf.1
  have := z_sm_bd (g := z_eP f i p) (b := 5000001) n (fun k hk => by
    unfold z_eP
    split
    · exact (z_ep_c hf (by omega) hi).1
    · exact Nat.zero_le _)
  have h2 : n * 5000001 ≤ 10 * 5000001 := Nat.mul_le_mul (by omega) (Nat.le_refl _)
  omega
/-- a child: the shares have a sum -/
theorem z_T_pos {f : Nat → Int32} {c i p k : Nat} (hf : z_fine f c) (hk : k < c) (hP : z_P f p k = true) : 0 < z_T f c i p := by
  unfold z_T z_clm
  split
  · have h1 : 1 ≤ z_cW f p k := by
      unfold z_cW
      rw [if_pos hP]
      exact (z_wt_c hf hk).1
    have := z_sm_at (g := z_cW f p) hk
    omega
  · omega
def z_li (σ τ : z_S) : Prop := zg_i τ = zg_i σ ∧ zg_r τ = zg_r σ ∧ zg_n τ = zg_n σ
theorem z_li_rfl (σ : z_S) : z_li σ σ := ⟨rfl, rfl, rfl⟩
theorem z_li_tr {σ τ ρ : z_S} (h1 : z_li σ τ) (h2 : z_li τ ρ) : z_li σ ρ := ⟨h2.1.trans h1.1, h2.2.1.trans h1.2.1, h2.2.2.trans h1.2.2⟩
theorem z_li_l {σ : z_S} {k j : Nat} {v : Int64} : z_li σ (zs_l σ k j v) := ⟨rfl, rfl, rfl⟩
theorem z_li_cs {σ τ : z_S} (h : z_li σ τ) : z_cs σ τ := ⟨fun p _ => by rw [h.1], by rw [h.1], h.2.1, h.2.2⟩
theorem z_li_ms {σ τ : z_S} (h : z_li σ τ) : z_ms σ τ := ⟨fun p _ => by rw [h.1], by rw [h.1], by rw [h.1], h.2.1, h.2.2⟩
theorem zl_at {σ : z_S} {k j : Nat} {v : Int64} : zg_l (zs_l σ k j v) k j = v := by rw [zg_l_sl, if_pos ⟨rfl, rfl⟩]
theorem zl_nej {σ : z_S} {k j : Nat} {v : Int64} {p x : Nat} (h : x ≠ j) : zg_l (zs_l σ k j v) p x = zg_l σ p x := by rw [zg_l_sl, if_neg (fun q => h q.2)]
theorem zl_ne {σ : z_S} {k j : Nat} {v : Int64} {p x : Nat} (h : p ≠ k) : zg_l (zs_l σ k j v) p x = zg_l σ p x := by rw [zg_l_sl, if_neg (fun q => h q.1)]
/-- what the class knows in an interval -/
def z_eC (f : Nat → Int32) (c i : Nat) (σ : z_S) : Prop := ∀ k, k < c → zg_i σ (31 + k) i = z_en f k i
theorem l_cE {f : Nat → Int32} {c p i : Nat} {σ : z_S} {Q : Int64 → z_S → Prop} (h : z_rc f c σ) (hp : p < c) (hi : i < 12) (he : z_eC f c i σ) (hq : ∀ τ, z_li σ τ → (∀ k, k < c → z_P f p k = true → zg_l τ 65 k = lN (z_cE f i p k)) → Q (lN (z_sm (z_cE f i p) c)) τ) : ∀ d j n, j + d = c → d < n → ∀ τ, z_li σ τ → (∀ k, k < j → z_P f p k = true → zg_l τ 65 k = lN (z_cE f i p k)) → w_X0_claimByEnergy_8 Q n (nI p) (nI i) (lN (z_sm (z_cE f i p) j)) (nI j) τ := by
  have h10 := h.2.1
  intro d
  induction d with
  | zero =>
    intro j n hj hn τ hτ hs
    obtain ⟨n, rfl⟩ : ∃ k, n = k + 1 := ⟨n - 1, by omega⟩
    obtain rfl : j = c := by omega
    show wb_X0_claimByEnergy_8 Q (w_X0_claimByEnergy_8 Q n) _ _ _ _ _
    unfold wb_X0_claimByEnergy_8
    rw [rc_cnt (z_rc_cs h (z_li_cs hτ))]
    exact z_ifp (nI_le (Nat.le_refl j) (by omega)) (hq τ hτ hs)
  | succ d ih =>
    intro j n hj hn τ hτ hs
    obtain ⟨n, rfl⟩ : ∃ k, n = k + 1 := ⟨n - 1, by omega⟩
    show wb_X0_claimByEnergy_8 Q (w_X0_claimByEnergy_8 Q n) _ _ _ _ _
    unfold wb_X0_claimByEnergy_8
    have hr := z_rc_cs h (z_li_cs hτ)
    rw [rc_cnt hr, z_tn (by omega), z_tn (by omega), rc_par hr (by omega)]
    refine z_ifn (nI_ge (by omega) (by omega)) ⟨z_vin (by omega) (by omega), ?_⟩
    by_cases e : f (4 + 18 * j) = nI p
    · have eP := z_P_i.mpr e
      refine z_ifp e ⟨z_vin (by omega) (by omega), z_vin (by omega) (by omega), z_vin (by omega) (by omega), z_vin (by omega) (by omega), ?_⟩
      obtain ⟨b1, b2⟩ := z_ep_c h.2 (show j < c by omega) hi
      obtain ⟨w1, w2, w3⟩ := z_wt_c h.2 (show j < c by omega)
      rw [show zg_i τ 6 j = f (4 + 18 * j + 4) from ic_col 4 hr.1 (by omega) (by omega), hτ.1, he j (by omega), b2, w3, nI_l (by omega), nI_l (by omega), lN_mul]
      rintro _ rfl
      refine ⟨z_vin (by omega) (by omega), ?_⟩
      rw [zl_at, lN_add]
      rintro _ rfl
      unfold w_X0_claimByEnergy_67
      rintro _ rfl
      rw [nI_1]
      have e1 : z_cE f i p j = z_wt f j * z_ep f i j := if_pos eP
      rw [← e1]
      refine ih (j + 1) n (by omega) (by omega) _ (z_li_tr hτ z_li_l) (fun k hk hkP => ?_)
      by_cases ek : k = j
      · subst ek
        exact zl_at
      · rw [zl_nej ek]
        exact hs k (by omega) hkP
    · refine z_ifn e ?_
      unfold w_X0_claimByEnergy_67
      rintro _ rfl
      rw [nI_1]
      have e1 : z_sm (z_cE f i p) (j + 1) = z_sm (z_cE f i p) j := by
        show z_sm (z_cE f i p) j + z_cE f i p j = _
        rw [show z_cE f i p j = 0 from if_neg (fun q => e (z_P_i.mp q)), Nat.add_zero]
      have := ih (j + 1) n (by omega) (by omega) τ hτ (fun k hk hkP => by
        by_cases ek : k = j
        · subst ek
          exact absurd (z_P_i.mp hkP) e
        · exact hs k (by omega) hkP)
      rw [e1] at this
      exact this
theorem l_cW {f : Nat → Int32} {c p : Nat} {σ : z_S} {Q : Int64 → z_S → Prop} (h : z_rc f c σ) (hp : p < c) (hq : ∀ τ, z_li σ τ → (∀ k, k < c → z_P f p k = true → zg_l τ 65 k = lN (z_cW f p k)) → Q (lN (z_sm (z_cW f p) c)) τ) : ∀ d j n, j + d = c → d < n → ∀ τ, z_li σ τ → (∀ k, k < j → z_P f p k = true → zg_l τ 65 k = lN (z_cW f p k)) → w_X0_claimByWeight_7 Q n (nI p) (lN (z_sm (z_cW f p) j)) (nI j) τ := by
  have h10 := h.2.1
  intro d
  induction d with
  | zero =>
    intro j n hj hn τ hτ hs
    obtain ⟨n, rfl⟩ : ∃ k, n = k + 1 := ⟨n - 1, by omega⟩
    obtain rfl : j = c := by omega
    show wb_X0_claimByWeight_7 Q (w_X0_claimByWeight_7 Q n) _ _ _ _
    unfold wb_X0_claimByWeight_7
    rw [rc_cnt (z_rc_cs h (z_li_cs hτ))]
    exact z_ifp (nI_le (Nat.le_refl j) (by omega)) (hq τ hτ hs)
  | succ d ih =>
    intro j n hj hn τ hτ hs
    obtain ⟨n, rfl⟩ : ∃ k, n = k + 1 := ⟨n - 1, by omega⟩
    show wb_X0_claimByWeight_7 Q (w_X0_claimByWeight_7 Q n) _ _ _ _
    unfold wb_X0_claimByWeight_7
    have hr := z_rc_cs h (z_li_cs hτ)
    rw [rc_cnt hr, z_tn (by omega), rc_par hr (by omega)]
    refine z_ifn (nI_ge (by omega) (by omega)) ⟨z_vin (by omega) (by omega), ?_⟩
    by_cases e : f (4 + 18 * j) = nI p
    · have eP := z_P_i.mpr e
      refine z_ifp e ⟨z_vin (by omega) (by omega), z_vin (by omega) (by omega), ?_⟩
      obtain ⟨w1, w2, w3⟩ := z_wt_c h.2 (show j < c by omega)
      rw [show zg_i τ 6 j = f (4 + 18 * j + 4) from ic_col 4 hr.1 (by omega) (by omega), w3, nI_l (by omega)]
      rintro _ rfl
      refine ⟨z_vin (by omega) (by omega), ?_⟩
      rw [zl_at, lN_add]
      rintro _ rfl
      unfold w_X0_claimByWeight_52
      rintro _ rfl
      rw [nI_1]
      have e1 : z_cW f p j = z_wt f j := if_pos eP
      rw [← e1]
      refine ih (j + 1) n (by omega) (by omega) _ (z_li_tr hτ z_li_l) (fun k hk hkP => ?_)
      by_cases ek : k = j
      · subst ek
        exact zl_at
      · rw [zl_nej ek]
        exact hs k (by omega) hkP
    · refine z_ifn e ?_
      unfold w_X0_claimByWeight_52
      rintro _ rfl
      rw [nI_1]
      have e1 : z_sm (z_cW f p) (j + 1) = z_sm (z_cW f p) j := by
        show z_sm (z_cW f p) j + z_cW f p j = _
        rw [show z_cW f p j = 0 from if_neg (fun q => e (z_P_i.mp q)), Nat.add_zero]
      have := ih (j + 1) n (by omega) (by omega) τ hτ (fun k hk hkP => by
        by_cases ek : k = j
        · subst ek
          exact absurd (z_P_i.mp hkP) e
        · exact hs k (by omega) hkP)
      rw [e1] at this
      exact this
/-! the division -/
theorem l_dv {f : Nat → Int32} {c p S T : Nat} {cl : Nat → Nat} {σ : z_S} {Q : z_S → Prop} (h : z_rc f c σ) (hp : p < c) (hT : T = z_sm cl c) (h0 : 0 < T) (hTb : T < 2 ^ 63) (hb : ∀ k, k < c → S * cl k < 2 ^ 63) (hcl : ∀ k, k < c → ¬ z_P f p k = true → cl k = 0) (h65 : ∀ k, k < c → z_P f p k = true → zg_l σ 65 k = lN (cl k)) (hq : ∀ τ, z_li σ τ → (∀ k, k < c → z_P f p k = true → zg_l τ 66 k = lN (S * cl k / T) ∧ zg_l τ 67 k = lN (S * cl k % T)) → w_X0_divide_95 Q 400 (nI p) (lN (S - z_sm (fun k => S * cl k / T) c)) 0 τ) : ∀ d j n, j + d = c → d < n → ∀ τ, z_li σ τ → (∀ k, k < c → z_P f p k = true → zg_l τ 65 k = lN (cl k)) → (∀ k, k < j → z_P f p k = true → zg_l τ 66 k = lN (S * cl k / T) ∧ zg_l τ 67 k = lN (S * cl k % T)) → w_X0_divide_16 Q n (nI p) (lN S) (lN T) (lN (S - z_sm (fun k => S * cl k / T) j)) (nI j) τ := by
  have h10 := h.2.1
  intro d
  induction d with
  | zero =>
    intro j n hj hn τ hτ _ hs
    obtain ⟨n, rfl⟩ : ∃ k, n = k + 1 := ⟨n - 1, by omega⟩
    obtain rfl : j = c := by omega
    show wb_X0_divide_16 Q (w_X0_divide_16 Q n) _ _ _ _ _ _
    unfold wb_X0_divide_16
    rw [rc_cnt (z_rc_cs h (z_li_cs hτ))]
    exact z_ifp (nI_le (Nat.le_refl j) (by omega)) (hq τ hτ hs)
  | succ d ih =>
    intro j n hj hn τ hτ h65' hs
    obtain ⟨n, rfl⟩ : ∃ k, n = k + 1 := ⟨n - 1, by omega⟩
    show wb_X0_divide_16 Q (w_X0_divide_16 Q n) _ _ _ _ _ _
    unfold wb_X0_divide_16
    have hr := z_rc_cs h (z_li_cs hτ)
    rw [rc_cnt hr, z_tn (by omega), rc_par hr (by omega)]
    refine z_ifn (nI_ge (by omega) (by omega)) ⟨z_vin (by omega) (by omega), ?_⟩
    have hle : z_sm (fun k => S * cl k / T) j + S * cl j / T ≤ S := z_parts_le (n := j + 1) hT h0 (by omega)
    have nz : ¬ lN T = 0 := fun q => by
      have := (q_eq (b := 0) hTb (by omega)).mp q
      omega
    by_cases e : f (4 + 18 * j) = nI p
    · have eP := z_P_i.mpr e
      refine z_ifp e ⟨z_vin (by omega) (by omega), nz, z_vin (by omega) (by omega), ?_⟩
      rw [h65' j (by omega) eP, lN_mul, q_div (hb j (by omega)) h0 hTb]
      rintro _ rfl
      refine ⟨z_vin (by omega) (by omega), nz, z_vin (by omega) (by omega), ?_⟩
      rw [zl_ne (by omega), h65' j (by omega) eP, lN_mul, q_rem (hb j (by omega)) h0 hTb]
      rintro _ rfl
      refine ⟨z_vin (by omega) (by omega), ?_⟩
      rw [zl_ne (by omega), zl_at, lN_sub (by omega)]
      rintro _ rfl
      unfold w_X0_divide_86
      rintro _ rfl
      rw [nI_1, Nat.sub_sub]
      refine ih (j + 1) n (by omega) (by omega) _ (z_li_tr hτ (z_li_tr z_li_l z_li_l)) (fun k hk hkP => by rw [zl_ne (by omega), zl_ne (by omega)]; exact h65' k hk hkP) (fun k hk hkP => ?_)
      by_cases ek : k = j
      · subst ek
        exact ⟨by rw [zl_ne (by omega), zl_at], zl_at⟩
      · rw [zl_nej ek, zl_nej ek, zl_nej ek, zl_nej ek]
        exact hs k (by omega) hkP
    · refine z_ifn e ?_
      unfold w_X0_divide_86
      rintro _ rfl
      rw [nI_1]
      have e1 : z_sm (fun k => S * cl k / T) (j + 1) = z_sm (fun k => S * cl k / T) j := by
        show z_sm (fun k => S * cl k / T) j + S * cl j / T = _
        rw [hcl j (by omega) (fun q => e (z_P_i.mp q)), Nat.mul_zero, Nat.zero_div, Nat.add_zero]
      have := ih (j + 1) n (by omega) (by omega) τ hτ h65' (fun k hk hkP => by
        by_cases ek : k = j
        · subst ek
          exact absurd (z_P_i.mp hkP) e
        · exact hs k (by omega) hkP)
      rw [e1] at this
      exact this
/-- who has been given one -/
def z_gv (P G : Nat → Bool) (q r : Nat → Nat) (c : Nat) (σ : z_S) : Prop := ∀ k, k < c → P k = true → zg_l σ 66 k = lN (q k + if G k = true then 1 else 0) ∧ zg_l σ 67 k = if G k = true then -1 else lN (r k)
def z_bst (P : Nat → Bool) (R : Nat → Int64) (j : Nat) (x : Int32) : Prop := (x = zNONE ∧ ∀ k, k < j → ¬ P k = true) ∨ ∃ b, b < j ∧ P b = true ∧ x = nI b ∧ (∀ k, k < j → P k = true → R k ≤ R b) ∧ ∀ k, k < b → P k = true → R k < R b
theorem l_g1 {f : Nat → Int32} {c p : Nat} {σ : z_S} {Q : z_S → Prop} (h : z_rc f c σ) (hp : p < c) (hq : ∀ x, z_bst (z_P f p) (zg_l σ 67) c x → if x < 0 then Q σ else (vp_in x 10 ∧ vp_in x 10 ∧ ∀ σ6 : z_S, σ6 = zs_l σ 66 x.toNatClampNeg ((zg_l σ 66 x.toNatClampNeg) + (1 : Int64)) → vp_in x 10 ∧ ∀ σ8 : z_S, σ8 = zs_l σ6 67 x.toNatClampNeg (-1 : Int64) → Q σ8)) : ∀ d j n, j + d = c → d < n → ∀ x, z_bst (z_P f p) (zg_l σ 67) j x → w_X0_giveOne_8 Q n (nI p) x (nI j) σ := by
  have h10 := h.2.1
  intro d
  induction d with
  | zero =>
    intro j n hj hn x hx
    obtain ⟨n, rfl⟩ : ∃ k, n = k + 1 := ⟨n - 1, by omega⟩
    obtain rfl : j = c := by omega
    show wb_X0_giveOne_8 Q (w_X0_giveOne_8 Q n) _ _ _ _
    unfold wb_X0_giveOne_8
    rw [rc_cnt h]
    exact z_ifp (nI_le (Nat.le_refl j) (by omega)) (hq x hx)
  | succ d ih =>
    intro j n hj hn x hx
    obtain ⟨n, rfl⟩ : ∃ k, n = k + 1 := ⟨n - 1, by omega⟩
    show wb_X0_giveOne_8 Q (w_X0_giveOne_8 Q n) _ _ _ _
    unfold wb_X0_giveOne_8
    rw [rc_cnt h, z_tn (show j < 2 ^ 31 by omega), rc_par h (by omega)]
    refine z_ifn (nI_ge (by omega) (by omega)) ⟨z_vin (by omega) (by omega), ?_⟩
    by_cases e : f (4 + 18 * j) = nI p
    · have eP := z_P_i.mpr e
      refine z_ifp e ?_
      rcases hx with ⟨rfl, hn0⟩ | ⟨b, hb, hbP, rfl, hb1, hb2⟩
      · refine z_ifp (by decide) ?_
        unfold w_X0_giveOne_49 w_X0_giveOne_52
        rintro _ rfl
        rw [nI_1]
        refine ih (j + 1) n (by omega) (by omega) _ (Or.inr ⟨j, by omega, eP, rfl, fun k hk hkP => ?_, fun k hk hkP => absurd hkP (hn0 k hk)⟩)
        by_cases ek : k = j
        · subst ek
          exact Int64.le_refl _
        · exact absurd hkP (hn0 k (by omega))
      · refine z_ifn (nI_pos (by omega)) ⟨z_vin (by omega) (by omega), z_vin (by omega) (by omega), ?_⟩
        rw [z_tn (show b < 2 ^ 31 by omega)]
        by_cases hc : zg_l σ 67 j ≤ zg_l σ 67 b
        · refine z_ifp ((lg_cmp_le _ _).mpr hc) ?_
          unfold w_X0_giveOne_52
          rintro _ rfl
          rw [nI_1]
          refine ih (j + 1) n (by omega) (by omega) _ (Or.inr ⟨b, by omega, hbP, rfl, fun k hk hkP => ?_, hb2⟩)
          by_cases ek : k = j
          · subst ek
            exact hc
          · exact hb1 k (by omega) hkP
        · refine z_ifn (fun q => hc ((lg_cmp_le _ _).mp q)) ?_
          unfold w_X0_giveOne_49 w_X0_giveOne_52
          rintro _ rfl
          rw [nI_1]
          have hc' : zg_l σ 67 b < zg_l σ 67 j := by
            rw [Int64.lt_iff_toInt_lt]
            rw [Int64.le_iff_toInt_le] at hc
            omega
          have hlt : ∀ k, k < j → z_P f p k = true → zg_l σ 67 k < zg_l σ 67 j := fun k hk hkP => by
            have := hb1 k hk hkP
            rw [Int64.le_iff_toInt_le] at this
            rw [Int64.lt_iff_toInt_lt] at hc' ⊢
            omega
          refine ih (j + 1) n (by omega) (by omega) _ (Or.inr ⟨j, by omega, eP, rfl, fun k hk hkP => ?_, hlt⟩)
          by_cases ek : k = j
          · subst ek
            exact Int64.le_refl _
          · have := hlt k (by omega) hkP
            rw [Int64.lt_iff_toInt_lt] at this
            rw [Int64.le_iff_toInt_le]
            omega
    · refine z_ifn e ?_
      have nP : ¬ z_P f p j = true := fun q => e (z_P_i.mp q)
      unfold w_X0_giveOne_52
      rintro _ rfl
      rw [nI_1]
      refine ih (j + 1) n (by omega) (by omega) x ?_
      rcases hx with ⟨rfl, hn0⟩ | ⟨b, hb, hbP, rfl, hb1, hb2⟩
      · refine Or.inl ⟨rfl, fun k hk => ?_⟩
        by_cases ek : k = j
        · subst ek
          exact nP
        · exact hn0 k (by omega)
      · refine Or.inr ⟨b, by omega, hbP, rfl, fun k hk hkP => ?_, hb2⟩
        by_cases ek : k = j
        · subst ek
          exact absurd hkP nP
        · exact hb1 k (by omega) hkP
def z_clo (P G : Nat → Bool) (r : Nat → Nat) (c : Nat) : Prop := (∀ j, j < c → G j = true → P j = true) ∧ ∀ j i, j < c → i < c → P j = true → z_ah r j i → G i = true → G j = true
theorem rc_g1 {f : Nat → Int32} {c p : Nat} {G : Nat → Bool} {q r : Nat → Nat} {σ : z_S} {Q : z_S → Prop} (h : z_rc f c σ) (hp : p < c) (hg : z_gv (z_P f p) G q r c σ) (hcl : z_clo (z_P f p) G r c) (hrb : ∀ k, k < c → r k < 2 ^ 63) (hlt : z_ct G c < z_ct (z_P f p) c) (hq : ∀ τ b, z_li σ τ → b < c → ¬ G b = true → z_clo (z_P f p) (fun k => G k || k == b) r c → z_gv (z_P f p) (fun k => G k || k == b) q r c τ → Q τ) : w_X0_giveOne (nI p) σ Q := by
  have h10 := h.2.1
  unfold w_X0_giveOne
  rintro _ rfl
  rw [nI_1]
  refine l_g1 h hp (fun x hx => ?_) (c - (p + 1)) (p + 1) 400 (by omega) (by omega) zNONE (Or.inl ⟨rfl, fun k hk => z_P_0 h.2 hp (by omega)⟩)
  obtain ⟨k0, hk0, hk0P, hk0G⟩ : ∃ k, k < c ∧ z_P f p k = true ∧ ¬ G k = true := Classical.byContradiction fun hn => Nat.not_le.mpr hlt (z_ct_le c (fun k hk hkP => Classical.byContradiction fun q => hn ⟨k, hk, hkP, q⟩))
  rcases hx with ⟨rfl, hn0⟩ | ⟨b, hb, hbP, rfl, hb1, hb2⟩
  · exact absurd hk0P (hn0 k0 hk0)
  · have rv : ∀ k, k < c → z_P f p k = true → (zg_l σ 67 k).toInt = if G k = true then -1 else (r k : Int) := fun k hk hkP => by
      rw [(hg k hk hkP).2]
      split
      · decide
      · exact q_toInt (hrb k hk)
    have bG : ¬ G b = true := fun q => by
      have h1 := hb1 k0 hk0 hk0P
      rw [Int64.le_iff_toInt_le, rv b hb hbP, rv k0 hk0 hk0P, if_pos q, if_neg hk0G] at h1
      omega
    refine z_ifn (nI_pos (by omega)) ⟨z_vin (by omega) (by omega), z_vin (by omega) (by omega), ?_⟩
    rw [z_tn (by omega)]
    rintro _ rfl
    refine ⟨z_vin (by omega) (by omega), ?_⟩
    rintro _ rfl
    refine hq _ b (z_li_tr z_li_l z_li_l) hb bG ⟨fun j hj hjg => ?_, fun j i hj hi hjP ha hig => ?_⟩ (fun k hk hkP => ?_)
    · rcases Bool.or_eq_true_iff.mp hjg with g | g
      · exact hcl.1 j hj g
      · rw [beq_iff_eq] at g
        rw [g]
        exact hbP
    · refine Bool.or_eq_true_iff.mpr ?_
      rcases Bool.or_eq_true_iff.mp hig with g | g
      · exact Or.inl (hcl.2 j i hj hi hjP ha g)
      · rw [beq_iff_eq] at g
        subst g
        refine Or.inl (Classical.byContradiction fun hjG => ?_)
        have h1 := hb1 j hj hjP
        rw [Int64.le_iff_toInt_le, rv i hb hbP, rv j hj hjP, if_neg bG, if_neg hjG] at h1
        rcases ha with ha | ⟨ha, ha2⟩
        · omega
        · have h2 := hb2 j ha2 hjP
          rw [Int64.lt_iff_toInt_lt, rv i hb hbP, rv j hj hjP, if_neg bG, if_neg hjG] at h2
          omega
    · by_cases ek : k = b
      · subst ek
        rw [zl_ne (by omega), zl_at, zl_at, (hg k hk hkP).1, if_neg bG, Nat.add_zero]
        have : (G k || k == k) = true := by simp
        rw [if_pos this, if_pos this]
        exact ⟨lN_1 _, rfl⟩
      · rw [zl_nej ek, zl_nej ek, zl_nej ek, zl_nej ek]
        have : (k == b) = false := by
          rw [beq_eq_false_iff_ne]
          exact ek
        show zg_l σ 66 k = lN (q k + if (G k || k == b) = true then 1 else 0) ∧ zg_l σ 67 k = if (G k || k == b) = true then -1 else lN (r k)
        rw [this, Bool.or_false]
        exact hg k hk hkP
theorem l_g2 {f : Nat → Int32} {c p L : Nat} {q r : Nat → Nat} {σ : z_S} {Q : z_S → Prop} (h : z_rc f c σ) (hp : p < c) (hrb : ∀ k, k < c → r k < 2 ^ 63) (hL : L ≤ z_ct (z_P f p) c) (hq : ∀ τ G, z_li σ τ → z_clo (z_P f p) G r c → z_gv (z_P f p) G q r c τ → z_ct G c = L → Q τ) : ∀ d g n, g + d = L → d < n → ∀ τ G, z_li σ τ → z_clo (z_P f p) G r c → z_gv (z_P f p) G q r c τ → z_ct G c = g → w_X0_divide_95 Q n (nI p) (lN L) (nI g) τ := by
  have h10 := h.2.1
  have hc := z_sm_bd (g := fun k => if z_P f p k = true then 1 else 0) (b := 1) c (fun k _ => by split <;> omega)
  have hc' : z_ct (z_P f p) c ≤ c := by
    unfold z_ct
    omega
  intro d
  induction d with
  | zero =>
    intro g n hg hn τ G hτ h1 h2 h3
    obtain ⟨n, rfl⟩ : ∃ k, n = k + 1 := ⟨n - 1, by omega⟩
    obtain rfl : g = L := by omega
    show wb_X0_divide_95 Q (w_X0_divide_95 Q n) _ _ _ _
    unfold wb_X0_divide_95
    have fin := hq τ G hτ h1 h2 h3
    refine z_ite (fun _ => fin) (fun _ => z_ifp ?_ fin)
    rw [nI_l (by omega)]
    exact (lg_cmp_ge _ _).mpr ((q_le (by omega) (by omega)).mpr (Nat.le_refl _))
  | succ d ih =>
    intro g n hg hn τ G hτ h1 h2 h3
    obtain ⟨n, rfl⟩ : ∃ k, n = k + 1 := ⟨n - 1, by omega⟩
    show wb_X0_divide_95 Q (w_X0_divide_95 Q n) _ _ _ _
    unfold wb_X0_divide_95
    refine z_ifn (nI_ge (a := g) (b := 10) (by omega) (by omega)) (z_ifn ?_ ?_)
    · rw [nI_l (by omega)]
      intro w
      have := (q_le (by omega) (by omega)).mp ((lg_cmp_ge _ _).mp w)
      omega
    · refine rc_g1 (z_rc_cs h (z_li_cs hτ)) hp h2 h1 hrb (by omega) (fun ρ b hρ hb hbG k1 k2 => ?_)
      rintro _ rfl
      rw [nI_1]
      exact ih (g + 1) n (by omega) (by omega) ρ _ (z_li_tr hτ hρ) k1 k2 (by rw [z_ct_up hbG c hb, h3])
/-- divide: every child's part -/
theorem rc_div {f : Nat → Int32} {c p S T : Nat} {cl : Nat → Nat} {σ : z_S} {Q : z_S → Prop} (h : z_rc f c σ) (hp : p < c) (hT : T = z_sm cl c) (h0 : 0 < T) (hTb : T < 2 ^ 63) (hb : ∀ k, k < c → S * cl k < 2 ^ 63) (hcl : ∀ k, k < c → ¬ z_P f p k = true → cl k = 0) (h65 : ∀ k, k < c → z_P f p k = true → zg_l σ 65 k = lN (cl k)) (hq : ∀ τ, z_li σ τ → (∀ k, k < c → z_P f p k = true → zg_l τ 66 k = lN (z_mo S T cl (z_P f p) c k)) → Q τ) : w_X0_divide (nI p) (lN S) (lN T) σ Q := by
  have h10 := h.2.1
  unfold w_X0_divide
  refine z_ifp ((lg_cmp_gt _ _).mpr ((q_lt (a := 0) (by omega) hTb).mpr h0)) ?_
  rintro _ rfl
  rw [nI_1]
  have st : S - z_sm (fun k => S * cl k / T) (p + 1) = S := by
    rw [z_sm_0 (p + 1) (fun k hk => by rw [hcl k (by omega) (z_P_0 h.2 hp (by omega)), Nat.mul_zero, Nat.zero_div])]
    omega
  have := l_dv (Q := Q) h hp hT h0 hTb hb hcl h65 (fun τ hτ hs => ?_) (c - (p + 1)) (p + 1) 400 (by omega) (by omega) σ (z_li_rfl σ) h65 (fun k hk hkP => absurd hkP (z_P_0 h.2 hp (by omega)))
  · rw [st] at this
    exact this
  · have hL := z_lf_le (S := S) (P := z_P f p) hT h0 hcl
    have hc := z_sm_bd (g := fun k => if z_P f p k = true then 1 else 0) (b := 1) c (fun k _ => by split <;> omega)
    have hc' : z_ct (z_P f p) c ≤ c := by
      unfold z_ct
      omega
    have hL2 : z_lf S T cl c ≤ 10 := by omega
    refine l_g2 (q := fun k => S * cl k / T) (r := fun k => S * cl k % T) (z_rc_cs h (z_li_cs hτ)) hp (fun k hk => Nat.lt_trans (Nat.mod_lt _ h0) hTb) hL (fun ρ G hρ k1 k2 k3 => hq ρ (z_li_tr hτ hρ) (fun k hk hkP => ?_)) (z_lf S T cl c) 0 400 (by omega) (by omega) τ (fun _ => false) (z_li_rfl τ) ⟨fun j _ g => absurd g Bool.false_ne_true, fun j i _ _ _ _ g => absurd g Bool.false_ne_true⟩ (fun k hk hkP => ?_) (z_sm_0 c (fun k _ => if_neg Bool.false_ne_true))
    · rw [(k2 k hk hkP).1]
      unfold z_mo
      congr 2
      have iff := z_rk_iff (r := fun k => S * cl k % T) k1.1 k1.2 hk hkP
      rw [k3] at iff
      by_cases e : G k = true
      · rw [if_pos e, if_pos (iff.mpr e)]
      · rw [if_neg e, if_neg (fun q => e (iff.mp q))]
    · rw [if_neg Bool.false_ne_true, if_neg Bool.false_ne_true, Nat.add_zero]
      exact hs k hk hkP
