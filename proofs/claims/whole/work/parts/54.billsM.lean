/-! the reference's bills -/
def z_mb (f : Nat → Int32) (c p : Nat) (σ τ : z_S) : Prop := (∀ q x, q ≠ 78 → (∀ k, k < c → z_P f p k = true → ¬ (q = 75 ∧ x = k)) → zg_i τ q x = zg_i σ q x) ∧ zg_r τ = zg_r σ ∧ zg_n τ = zg_n σ
theorem z_mb_li {f : Nat → Int32} {c p : Nat} {σ τ : z_S} (h : z_li σ τ) : z_mb f c p σ τ := ⟨fun q x _ _ => by rw [h.1], h.2.1, h.2.2⟩
theorem z_mb_tr {f : Nat → Int32} {c p : Nat} {σ τ ρ : z_S} (h1 : z_mb f c p σ τ) (h2 : z_mb f c p τ ρ) : z_mb f c p σ ρ := ⟨fun q x a h => (h2.1 q x a h).trans (h1.1 q x a h), h2.2.1.trans h1.2.1, h2.2.2.trans h1.2.2⟩
theorem z_mb_8 {f : Nat → Int32} {c p j : Nat} {σ : z_S} {v : Int32} : z_mb f c p σ (zs_i σ 78 j v) := ⟨fun q x a _ => by rw [zs_i_ne a], rfl, rfl⟩
theorem z_mb_5 {f : Nat → Int32} {c p k : Nat} {σ : z_S} {v : Int32} (hk : k < c) (hP : z_P f p k = true) : z_mb f c p σ (zs_i σ 75 k v) := ⟨fun q x _ h => by
  rw [zg_i_si, if_neg]
  exact h k hk hP, rfl, rfl⟩
theorem z_mb_ms {f : Nat → Int32} {c p : Nat} {σ τ : z_S} (h : z_mb f c p σ τ) : z_ms σ τ := ⟨fun q hq => funext fun x => h.1 q x (by omega) (fun k _ _ e => by omega), h.1 73 1 (by omega) (fun k _ _ e => by omega), h.1 73 8 (by omega) (fun k _ _ e => by omega), h.2.1, h.2.2⟩
def z_eM (f : Nat → Int32) (c i : Nat) (σ : z_S) : Prop := ∀ k, k < c → zg_i σ 76 k = z_en f k i
def z_clR (cl : Nat → Nat) (c : Nat) (σ : z_S) : Prop := ∀ k, 1 ≤ k → k < c → zg_l σ 77 k = lN (cl k)
theorem l_a13 {f : Nat → Int32} {c p i : Nat} {B : Int} {σ : z_S} {Q : z_S → Prop} (h : z_rm f c σ) (hp : p < c) (hi : i < 12) (he : z_eM f c i σ) (hq : ∀ τ, z_li σ τ → z_clR (z_cE f i p) c τ → w_X6_allocates_115 Q 400 (nI p) (lN (z_sm (z_cE f i p) c)) (nZ (z_df f c i p B)) 1 τ) : ∀ d j n, j + d = c → d < n → ∀ τ, z_li σ τ → (∀ k, 1 ≤ k → k < j → zg_l τ 77 k = lN (z_cE f i p k)) → w_X6_allocates_13 Q n (nI p) (lN (z_sm (z_cE f i p) j)) (nZ (B - z_sm (z_eP f i p) j)) (nI j) τ := by
  have h10 := h.2.1
  intro d
  induction d with
  | zero =>
    intro j n hj hn τ hτ hs
    obtain ⟨n, rfl⟩ : ∃ k, n = k + 1 := ⟨n - 1, by omega⟩
    obtain rfl : j = c := by omega
    show wb_X6_allocates_13 Q (w_X6_allocates_13 Q n) _ _ _ _ _
    unfold wb_X6_allocates_13
    rw [show (0 : Int32).toNatClampNeg = 0 from rfl, rm_cnt (z_rm_ms h (z_li_ms hτ))]
    exact ⟨z_vin (i := 0) (by omega) (by omega), z_ifp (nI_le (Nat.le_refl j) (by omega)) (hq τ hτ hs)⟩
  | succ d ih =>
    intro j n hj hn τ hτ hs
    obtain ⟨n, rfl⟩ : ∃ k, n = k + 1 := ⟨n - 1, by omega⟩
    show wb_X6_allocates_13 Q (w_X6_allocates_13 Q n) _ _ _ _ _
    unfold wb_X6_allocates_13
    have hr := z_rm_ms h (z_li_ms hτ)
    rw [show (0 : Int32).toNatClampNeg = 0 from rfl, rm_cnt hr]
    refine ⟨z_vin (i := 0) (by omega) (by omega), z_ifn (nI_ge (by omega) (by omega)) (rm_of (k := 0) hr (by omega) (by omega) ?_)⟩
    have nx := fun v => ih (j + 1) n (by omega) (by omega) (zs_l τ 77 j v) (z_li_tr hτ z_li_l)
    by_cases e : f (4 + 18 * j) = nI p
    · have eP := z_P_i.mpr e
      refine z_ifp e ?_
      unfold w_X6_allocates_40 w_X6_allocates_74 w_X6_allocates_103
      obtain ⟨b1, b2⟩ := z_ep_c h.2 (show j < c by omega) hi
      obtain ⟨w1, w2, w3⟩ := z_wt_c h.2 (show j < c by omega)
      refine z_ifn (by decide) (rm_of (k := 4) hr (by omega) (by omega) ⟨z_vin (by omega) (by omega), z_vin (by omega) (by omega), ?_⟩)
      rw [z_tn (by omega), hτ.1, he j (by omega), b2, w3, nI_l (by omega), nI_l (by omega), lN_mul]
      rintro _ rfl
      refine ⟨z_vin (by omega) (by omega), ?_⟩
      rw [zl_at, lN_add]
      rintro _ rfl
      refine z_ifn (by decide) ⟨z_vin (by omega) (by omega), ?_⟩
      rw [zg_i_sl, hτ.1, he j (by omega), b2, ← nZ_n, nZ_sub]
      rintro _ rfl _ rfl
      rw [nI_1]
      have e1 : z_cE f i p j = z_wt f j * z_ep f i j := if_pos eP
      have e2 : B - (z_sm (z_eP f i p) j : Int) - (z_ep f i j : Int) = B - (z_sm (z_eP f i p) (j + 1) : Nat) := by
        show _ = B - ((z_sm (z_eP f i p) j + z_eP f i p j : Nat) : Int)
        rw [show z_eP f i p j = z_ep f i j from if_pos eP]
        omega
      rw [e2, ← e1]
      refine nx _ (fun k k1 hk => ?_)
      by_cases ek : k = j
      · subst ek
        exact zl_at
      · rw [zl_nej ek]
        exact hs k k1 (by omega)
    · refine z_ifn e ?_
      unfold w_X6_allocates_40 w_X6_allocates_74 w_X6_allocates_103
      have nP : ¬ z_P f p j = true := fun q => e (z_P_i.mp q)
      have e0 : z_cE f i p j = 0 := if_neg nP
      refine z_ifp rfl ⟨z_vin (by omega) (by omega), ?_⟩
      rw [z_tn (by omega)]
      rintro _ rfl
      refine ⟨z_vin (by omega) (by omega), ?_⟩
      rw [zl_at]
      rintro _ rfl
      refine z_ifp rfl ?_
      rintro _ rfl _ rfl
      rw [nI_1, Int32.sub_zero]
      have e2 : z_sm (z_eP f i p) (j + 1) = z_sm (z_eP f i p) j := by
        show z_sm (z_eP f i p) j + z_eP f i p j = _
        rw [show z_eP f i p j = 0 from if_neg nP, Nat.add_zero]
      have nx := nx (0 : Int64) (fun k k1 hk => by
        by_cases ek : k = j
        · subst ek
          rw [zl_at, e0]
          rfl
        · rw [zl_nej ek]
          exact hs k k1 (by omega))
      rw [e2] at nx
      have e3 : lN (z_sm (z_cE f i p) j) + 0 = lN (z_sm (z_cE f i p) (j + 1)) := by
        show _ = lN (z_sm (z_cE f i p) j + z_cE f i p j)
        rw [e0, Nat.add_zero, Int64.add_zero]
      rw [e3]
      exact nx
theorem l_a115 {f : Nat → Int32} {c p : Nat} {x4 : Int32} {σ : z_S} {Q : z_S → Prop} (h : z_rm f c σ) (hp : p < c) (hq : ∀ τ, z_li σ τ → z_clR (z_cW f p) c τ → w_X6_allocates_168 Q (nI p) x4 τ) : ∀ d j n, j + d = c → d < n → ∀ τ, z_li σ τ → (∀ k, 1 ≤ k → k < j → zg_l τ 77 k = lN (z_cW f p k)) → w_X6_allocates_115 Q n (nI p) 0 x4 (nI j) τ := by
  have h10 := h.2.1
  intro d
  induction d with
  | zero =>
    intro j n hj hn τ hτ hs
    obtain ⟨n, rfl⟩ : ∃ k, n = k + 1 := ⟨n - 1, by omega⟩
    obtain rfl : j = c := by omega
    show wb_X6_allocates_115 Q (w_X6_allocates_115 Q n) _ _ _ _ _
    unfold wb_X6_allocates_115
    rw [show (0 : Int32).toNatClampNeg = 0 from rfl, rm_cnt (z_rm_ms h (z_li_ms hτ))]
    exact ⟨z_vin (i := 0) (by omega) (by omega), z_ifp (nI_le (Nat.le_refl j) (by omega)) (hq τ hτ hs)⟩
  | succ d ih =>
    intro j n hj hn τ hτ hs
    obtain ⟨n, rfl⟩ : ∃ k, n = k + 1 := ⟨n - 1, by omega⟩
    show wb_X6_allocates_115 Q (w_X6_allocates_115 Q n) _ _ _ _ _
    unfold wb_X6_allocates_115
    have hr := z_rm_ms h (z_li_ms hτ)
    rw [show (0 : Int32).toNatClampNeg = 0 from rfl, rm_cnt hr]
    refine ⟨z_vin (i := 0) (by omega) (by omega), z_ifn (nI_ge (by omega) (by omega)) (z_ifp ((lg_cmp_eq _ _).mpr rfl) (rm_of (k := 0) hr (by omega) (by omega) ?_))⟩
    have nx := fun v => ih (j + 1) n (by omega) (by omega) (zs_l τ 77 j v) (z_li_tr hτ z_li_l)
    by_cases e : f (4 + 18 * j) = nI p
    · have eP := z_P_i.mpr e
      obtain ⟨w1, w2, w3⟩ := z_wt_c h.2 (show j < c by omega)
      refine z_ifp e (rm_of (k := 4) hr (by omega) (by omega) ?_)
      unfold w_X6_allocates_161
      refine ⟨z_vin (by omega) (by omega), ?_⟩
      rw [z_tn (by omega), w3, nI_l (by omega)]
      rintro _ rfl _ rfl
      rw [nI_1]
      refine nx _ (fun k k1 hk => ?_)
      by_cases ek : k = j
      · subst ek
        rw [zl_at, show z_cW f p k = z_wt f k from if_pos eP]
      · rw [zl_nej ek]
        exact hs k k1 (by omega)
    · refine z_ifn e ?_
      unfold w_X6_allocates_161
      refine ⟨z_vin (by omega) (by omega), ?_⟩
      rw [z_tn (by omega)]
      rintro _ rfl _ rfl
      rw [nI_1]
      refine nx _ (fun k k1 hk => ?_)
      by_cases ek : k = j
      · subst ek
        rw [zl_at, show z_cW f p k = 0 from if_neg (fun q => e (z_P_i.mp q))]
        rfl
      · rw [zl_nej ek]
        exact hs k k1 (by omega)
theorem l_a174 {f : Nat → Int32} {c p : Nat} {x4 : Int32} {cl : Nat → Nat} {σ : z_S} {Q : z_S → Prop} (h : z_rm f c σ) (hcl : z_clR cl c σ) (hq : if 0 ≤ x4 then (w_X6_allocates_218 Q (nI p) x4 (lN (z_sm cl c)) x4.toInt64 σ) else (w_X6_allocates_218 Q (nI p) x4 (lN (z_sm cl c)) (-x4.toInt64) σ)) : ∀ d j n, j + d = c → d < n → 1 ≤ j → w_X6_allocates_174 Q n (nI p) x4 (lN (z_sm cl j)) (nI j) σ := by
  have h10 := h.2.1
  intro d
  induction d with
  | zero =>
    intro j n hj hn h1
    obtain ⟨n, rfl⟩ : ∃ k, n = k + 1 := ⟨n - 1, by omega⟩
    obtain rfl : j = c := by omega
    show wb_X6_allocates_174 Q (w_X6_allocates_174 Q n) _ _ _ _ _
    unfold wb_X6_allocates_174
    rw [show (0 : Int32).toNatClampNeg = 0 from rfl, rm_cnt h]
    exact ⟨z_vin (i := 0) (by omega) (by omega), z_ifp (nI_le (Nat.le_refl j) (by omega)) hq⟩
  | succ d ih =>
    intro j n hj hn h1
    obtain ⟨n, rfl⟩ : ∃ k, n = k + 1 := ⟨n - 1, by omega⟩
    show wb_X6_allocates_174 Q (w_X6_allocates_174 Q n) _ _ _ _ _
    unfold wb_X6_allocates_174
    rw [show (0 : Int32).toNatClampNeg = 0 from rfl, rm_cnt h, z_tn (by omega), hcl j h1 (by omega), lN_add]
    refine ⟨z_vin (i := 0) (by omega) (by omega), z_ifn (nI_ge (by omega) (by omega)) ⟨z_vin (by omega) (by omega), ?_⟩⟩
    rintro _ rfl _ rfl
    rw [nI_1]
    exact ih (j + 1) n (by omega) (by omega) (by omega)
theorem l_a227 {f : Nat → Int32} {c p S T : Nat} {x4 : Int32} {cl : Nat → Nat} {σ : z_S} {Q : z_S → Prop} (h : z_rm f c σ) (hp : p < c) (hT : T = z_sm cl c) (h0 : 0 < T) (hTb : T < 2 ^ 63) (hS : S < 2 ^ 31) (hb : ∀ k, k < c → S * cl k < 2 ^ 63) (hcn : ∀ k, k < c → ¬ z_P f p k = true → cl k = 0) (hcl : z_clR cl c σ) (hq : ∀ τ, z_mb f c p σ τ → zg_l τ = zg_l σ → (∀ k, k < c → k ≠ 0 → z_P f p k = true → zg_i τ 78 k = nI (S * cl k / T)) → (∀ k, zg_i τ 75 k = zg_i σ 75 k) → w_X6_allocates_321 Q (nI p) x4 (lN T) (lN S) (lN (z_lf S T cl c)) τ) : ∀ d j n, j + d = c → d < n → 1 ≤ j → ∀ τ, z_mb f c p σ τ → zg_l τ = zg_l σ → (∀ k, k < j → k ≠ 0 → z_P f p k = true → zg_i τ 78 k = nI (S * cl k / T)) → (∀ k, zg_i τ 75 k = zg_i σ 75 k) → w_X6_allocates_227 Q n (nI p) x4 (lN T) (lN S) (lN (S - z_sm (fun k => S * cl k / T) j)) (nI j) τ := by
  have h10 := h.2.1
  intro d
  induction d with
  | zero =>
    intro j n hj hn h1 τ hτ hl hs h75
    obtain ⟨n, rfl⟩ : ∃ k, n = k + 1 := ⟨n - 1, by omega⟩
    obtain rfl : j = c := by omega
    show wb_X6_allocates_227 Q (w_X6_allocates_227 Q n) _ _ _ _ _ _ _
    unfold wb_X6_allocates_227
    rw [show (0 : Int32).toNatClampNeg = 0 from rfl, rm_cnt (z_rm_ms h (z_mb_ms hτ))]
    exact ⟨z_vin (i := 0) (by omega) (by omega), z_ifp (nI_le (Nat.le_refl j) (by omega)) (hq τ hτ hl hs h75)⟩
  | succ d ih =>
    intro j n hj hn h1 τ hτ hl hs h75
    obtain ⟨n, rfl⟩ : ∃ k, n = k + 1 := ⟨n - 1, by omega⟩
    show wb_X6_allocates_227 Q (w_X6_allocates_227 Q n) _ _ _ _ _ _ _
    unfold wb_X6_allocates_227
    have hr := z_rm_ms h (z_mb_ms hτ)
    have hle : z_sm (fun k => S * cl k / T) j + S * cl j / T ≤ S := z_parts_le (n := j + 1) hT h0 (by omega)
    have nz : ¬ lN T = 0 := fun q => by
      have := (q_eq (b := 0) hTb (by omega)).mp q
      omega
    rw [show (0 : Int32).toNatClampNeg = 0 from rfl, rm_cnt hr]
    refine ⟨z_vin (i := 0) (by omega) (by omega), z_ifn (nI_ge (by omega) (by omega)) (z_ifn (fun q => ?_) (rm_of (k := 0) hr (by omega) (by omega) ?_))⟩
    · have := (q_le (b := 0) hTb (by omega)).mp ((lg_cmp_le _ _).mp q)
      omega
    · have nx := fun v => ih (j + 1) n (by omega) (by omega) (by omega) (zs_i τ 78 j v) (z_mb_tr hτ z_mb_8) hl
      by_cases e : f (4 + 18 * j) = nI p
      · have eP := z_P_i.mpr e
        refine z_ifp e ⟨z_vin (by omega) (by omega), nz, ?_⟩
        unfold w_X6_allocates_286 w_X6_allocates_312
        refine ⟨z_vin (by omega) (by omega), ?_⟩
        rw [z_tn (by omega), hl, hcl j h1 (by omega), lN_mul, q_div (hb j (by omega)) h0 hTb, lN_i]
        rintro _ rfl
        refine rm_of (k := 0) (z_rm_ms h (z_mb_ms (z_mb_tr hτ z_mb_8))) (by omega) (by omega) (z_ifp e ⟨z_vin (by omega) (by omega), ?_⟩)
        rw [zs_i_at, nI_l (by omega), lN_sub (by omega)]
        rintro _ rfl _ rfl
        rw [nI_1, Nat.sub_sub]
        refine nx _ (fun k hk hk0 hkP => ?_) (fun k => by rw [zs_i_ne (by omega)]; exact h75 k)
        by_cases ek : k = j
        · subst ek
          exact zs_i_at
        · rw [zs_i_nej ek]
          exact hs k (by omega) hk0 hkP
      · have nP : ¬ z_P f p j = true := fun q => e (z_P_i.mp q)
        refine z_ifn e ⟨z_vin (by omega) (by omega), ?_⟩
        unfold w_X6_allocates_286 w_X6_allocates_312
        refine ⟨z_vin (by omega) (by omega), ?_⟩
        rw [z_tn (by omega)]
        rintro _ rfl
        refine rm_of (k := 0) (z_rm_ms h (z_mb_ms (z_mb_tr hτ z_mb_8))) (by omega) (by omega) (z_ifn e ?_)
        rintro _ rfl _ rfl
        rw [nI_1, Int64.sub_zero]
        have e1 : z_sm (fun k => S * cl k / T) (j + 1) = z_sm (fun k => S * cl k / T) j := by
          show z_sm (fun k => S * cl k / T) j + S * cl j / T = _
          rw [hcn j (by omega) nP, Nat.mul_zero, Nat.zero_div, Nat.add_zero]
        have nx := nx (zg_i τ 78 j) (fun k hk hk0 hkP => by
          by_cases ek : k = j
          · subst ek
            exact absurd hkP nP
          · rw [zs_i_nej ek]
            exact hs k (by omega) hk0 hkP) (fun k => by rw [zs_i_ne (by omega)]; exact h75 k)
        rw [e1] at nx
        exact nx
theorem l_a374 {f : Nat → Int32} {c p S T a : Nat} {x4 : Int32} {x9 : Int64} {cl : Nat → Nat} {σ : z_S} {Q : z_S → Prop} {K : Int32 → Int32 → Int64 → Int64 → Int64 → Int32 → z_S → Prop} (h : z_rm f c σ) (ha : a < c) (h0 : 0 < T) (hTb : T < 2 ^ 63) (hb : ∀ k, k < c → S * cl k < 2 ^ 63) (hcl : z_clR cl c σ) (hq : if 0 ≤ (lg_cmp (nI (z_rk (z_P f p) (fun k => S * cl k % T) c a)).toInt64 x9) then (w_X6_allocates_471 K Q (nI p) x4 (lN T) (lN S) x9 (nI a) 0 (zg_i σ 78 a) σ) else (w_X6_allocates_471 K Q (nI p) x4 (lN T) (lN S) x9 (nI a) 1 (zg_i σ 78 a) σ)) : ∀ d j n, j + d = c → d < n → 1 ≤ j → w_X6_allocates_374 K Q n (nI p) x4 (lN T) (lN S) x9 (nI a) (lN (S * cl a % T)) (nI (z_ct (fun k => z_P f p k && decide (z_ah (fun k => S * cl k % T) k a)) j)) (nI j) σ := by
  have h10 := h.2.1
  intro d
  induction d with
  | zero =>
    intro j n hj hn h1
    obtain ⟨n, rfl⟩ : ∃ k, n = k + 1 := ⟨n - 1, by omega⟩
    obtain rfl : j = c := by omega
    show wb_X6_allocates_374 K Q (w_X6_allocates_374 K Q n) _ _ _ _ _ _ _ _ _ _
    unfold wb_X6_allocates_374
    rw [show (0 : Int32).toNatClampNeg = 0 from rfl, rm_cnt h, z_tn (by omega)]
    exact ⟨z_vin (i := 0) (by omega) (by omega), z_ifp (nI_le (Nat.le_refl j) (by omega)) ⟨z_vin (by omega) (by omega), hq⟩⟩
  | succ d ih =>
    intro j n hj hn h1
    obtain ⟨n, rfl⟩ : ∃ k, n = k + 1 := ⟨n - 1, by omega⟩
    show wb_X6_allocates_374 K Q (w_X6_allocates_374 K Q n) _ _ _ _ _ _ _ _ _ _
    unfold wb_X6_allocates_374
    have nz : ¬ lN T = 0 := fun q => by
      have := (q_eq (b := 0) hTb (by omega)).mp q
      omega
    rw [show (0 : Int32).toNatClampNeg = 0 from rfl, rm_cnt h, z_tn (by omega), z_tn (by omega), hcl j h1 (by omega), lN_mul, q_rem (hb j (by omega)) h0 hTb]
    refine ⟨z_vin (i := 0) (by omega) (by omega), z_ifn (nI_ge (by omega) (by omega)) ⟨z_vin (by omega) (by omega), nz, ?_⟩⟩
    rintro _ rfl
    refine rm_of (k := 0) h (by omega) (by omega) ?_
    have nx := ih (j + 1) n (by omega) (by omega) (by omega)
    have m1 : S * cl j % T < 2 ^ 63 := Nat.lt_trans (Nat.mod_lt _ h0) hTb
    have m2 : S * cl a % T < 2 ^ 63 := Nat.lt_trans (Nat.mod_lt _ h0) hTb
    have st : z_ct (fun k => z_P f p k && decide (z_ah (fun k => S * cl k % T) k a)) (j + 1) = z_ct (fun k => z_P f p k && decide (z_ah (fun k => S * cl k % T) k a)) j + (if (z_P f p j && decide (z_ah (fun k => S * cl k % T) j a)) = true then 1 else 0) := rfl
    have yes : (z_P f p j = true ∧ z_ah (fun k => S * cl k % T) j a) → w_X6_allocates_436 K (w_X6_allocates_374 K Q n) Q (nI p) x4 (lN T) (lN S) x9 (nI a) (lN (S * cl a % T)) (nI j) (nI (z_ct (fun k => z_P f p k && decide (z_ah (fun k => S * cl k % T) k a)) j)) σ := by
      intro g
      rw [st, if_pos (by rw [Bool.and_eq_true, decide_eq_true_iff]; exact g)] at nx
      unfold w_X6_allocates_436 w_X6_allocates_441
      rintro _ rfl _ rfl
      rw [nI_1, nI_1]
      exact nx
    have no : ¬ (z_P f p j = true ∧ z_ah (fun k => S * cl k % T) j a) → w_X6_allocates_440 K (w_X6_allocates_374 K Q n) Q (nI p) x4 (lN T) (lN S) x9 (nI a) (lN (S * cl a % T)) (nI j) (nI (z_ct (fun k => z_P f p k && decide (z_ah (fun k => S * cl k % T) k a)) j)) σ := by
      intro g
      rw [st, if_neg (by rw [Bool.and_eq_true, decide_eq_true_iff]; exact g), Nat.add_zero] at nx
      unfold w_X6_allocates_440 w_X6_allocates_441
      rintro _ rfl _ rfl
      rw [nI_1, Int32.add_zero]
      exact nx
    by_cases e : f (4 + 18 * j) = nI p
    · have eP := z_P_i.mpr e
      refine z_ifp e ?_
      by_cases g1 : S * cl a % T < S * cl j % T
      · exact z_ifp ((lg_cmp_gt _ _).mpr ((q_lt m2 m1).mpr g1)) (yes ⟨eP, Or.inl g1⟩)
      · refine z_ifn (fun q => g1 ((q_lt m2 m1).mp ((lg_cmp_gt _ _).mp q))) ?_
        by_cases g2 : S * cl j % T = S * cl a % T
        · refine z_ifp ((lg_cmp_eq _ _).mpr (by rw [g2])) ?_
          by_cases g3 : a ≤ j
          · exact z_ifp ((nI_leI (by omega) (by omega)).mpr g3) (no (fun q => q.2.elim g1 (fun q => by omega)))
          · exact z_ifn (fun q => g3 ((nI_leI (by omega) (by omega)).mp q)) (yes ⟨eP, Or.inr ⟨g2, by omega⟩⟩)
        · exact z_ifn (fun q => g2 ((q_eq m1 m2).mp ((lg_cmp_eq _ _).mp q))) (no (fun q => q.2.elim g1 (fun q => g2 q.1)))
    · exact z_ifn e (no (fun q => e (z_P_i.mp q.1)))
theorem l_a324 {f : Nat → Int32} {c p i S T : Nat} {B : Int} {cl : Nat → Nat} {σ : z_S} {Q : z_S → Prop} (h : z_rm f c σ) (hp : p < c) (hi : i < 12) (he : z_eM f c i σ) (hB : B.natAbs ≤ 600000000) (eS : S = (z_df f c i p B).natAbs) (eT : T = z_T f c i p) (ec : cl = z_clm f c i p) (hT : T = z_sm cl c) (h0 : 0 < T) (hTb : T < 2 ^ 63) (hb : ∀ k, k < c → S * cl k < 2 ^ 63) (hcn : ∀ k, k < c → ¬ z_P f p k = true → cl k = 0) (hcl : z_clR cl c σ) (h78 : ∀ k, k < c → k ≠ 0 → z_P f p k = true → zg_i σ 78 k = nI (S * cl k / T)) (hq : ∀ τ, z_mb f c p σ τ → (∀ k, k < c → z_P f p k = true → zg_i τ 75 k = nZ (z_nb f c i p B k)) → Q τ) : ∀ d j n, j + d = c → d < n → 1 ≤ j → ∀ τ, z_mb f c p σ τ → zg_l τ = zg_l σ → (∀ k, zg_i τ 78 k = zg_i σ 78 k) → (∀ k, k < j → z_P f p k = true → zg_i τ 75 k = nZ (z_nb f c i p B k)) → w_X6_allocates_324 Q n (nI p) (nZ (z_df f c i p B)) (lN T) (lN S) (lN (z_lf S T cl c)) (nI j) τ := by
  have h10 := h.2.1
  have hdf : (z_df f c i p B).natAbs ≤ 650000010 := by
    have := z_eP_b (p := p) h.2 hi (Nat.le_refl c)
    unfold z_df
    omega
  intro d
  induction d with
  | zero =>
    intro j n hj hn h1 τ hτ hl h8 hs
    obtain ⟨n, rfl⟩ : ∃ k, n = k + 1 := ⟨n - 1, by omega⟩
    obtain rfl : j = c := by omega
    show wb_X6_allocates_324 Q (w_X6_allocates_324 Q n) _ _ _ _ _ _ _
    unfold wb_X6_allocates_324
    rw [show (0 : Int32).toNatClampNeg = 0 from rfl, rm_cnt (z_rm_ms h (z_mb_ms hτ))]
    exact ⟨z_vin (i := 0) (by omega) (by omega), z_ifp (nI_le (Nat.le_refl j) (by omega)) (hq τ hτ hs)⟩
  | succ d ih =>
    intro j n hj hn h1 τ hτ hl h8 hs
    obtain ⟨n, rfl⟩ : ∃ k, n = k + 1 := ⟨n - 1, by omega⟩
    show wb_X6_allocates_324 Q (w_X6_allocates_324 Q n) _ _ _ _ _ _ _
    unfold wb_X6_allocates_324
    have hr := z_rm_ms h (z_mb_ms hτ)
    have nz : ¬ lN T = 0 := fun q => by
      have := (q_eq (b := 0) hTb (by omega)).mp q
      omega
    rw [show (0 : Int32).toNatClampNeg = 0 from rfl, rm_cnt hr]
    refine ⟨z_vin (i := 0) (by omega) (by omega), z_ifn (nI_ge (by omega) (by omega)) (z_ifn (fun q => ?_) (rm_of (k := 0) hr (by omega) (by omega) ?_))⟩
    · have := (q_le (b := 0) hTb (by omega)).mp ((lg_cmp_le _ _).mp q)
      omega
    · by_cases e : f (4 + 18 * j) = nI p
      · have eP := z_P_i.mpr e
        refine z_ifp e ⟨z_vin (by omega) (by omega), nz, ?_⟩
        rw [z_tn (by omega), hl, hcl j h1 (by omega), lN_mul, q_rem (hb j (by omega)) h0 hTb]
        rintro _ rfl
        have rb : z_rk (z_P f p) (fun k => S * cl k % T) c j ≤ c := by
          unfold z_rk z_ct
          exact Nat.le_trans (z_sm_bd (b := 1) c (fun k _ => by dsimp only; split <;> omega)) (by omega)
        have qb : S * cl j / T ≤ S := by
          have := z_parts_le (S := S) (n := j + 1) hT h0 (by omega)
          have e2 : z_sm (fun k => S * cl k / T) (j + 1) = z_sm (fun k => S * cl k / T) j + S * cl j / T := rfl
          omega
        have lb : z_lf S T cl c ≤ S := Nat.sub_le _ _
        obtain ⟨b1, b2⟩ := z_ep_c h.2 (show j < c by omega) hi
        have fin : ∀ s0 : Nat, S * cl j / T + s0 = z_mr f c i p B j → w_X6_allocates_471 (w_X6_allocates_324 Q n) Q (nI p) (nZ (z_df f c i p B)) (lN T) (lN S) (lN (z_lf S T cl c)) (nI j) (nI s0) (nI (S * cl j / T)) τ := by
          intro s0 hs0
          unfold w_X6_allocates_471 w_X6_allocates_500 w_X6_allocates_502
          rw [nI_add, hs0, z_tn (by omega), hτ.1 76 j (by omega) (fun k _ _ q => by omega), he j (by omega), b2]
          rintro _ rfl
          refine ⟨z_vin (by omega) (by omega), ?_⟩
          have nx : ∀ v, v = nZ (z_nb f c i p B j) → w_X6_allocates_324 Q n (nI p) (nZ (z_df f c i p B)) (lN T) (lN S) (lN (z_lf S T cl c)) (nI (j + 1)) (zs_i τ 75 j v) := by
            rintro _ rfl
            refine ih (j + 1) n (by omega) (by omega) (by omega) _ (z_mb_tr hτ (z_mb_5 (by omega) eP)) hl (fun k => by rw [zs_i_ne (by omega)]; exact h8 k) (fun k hk hkP => ?_)
            by_cases ek : k = j
            · subst ek
              exact zs_i_at
            · rw [zs_i_nej ek]
              exact hs k (by omega) hkP
          have hz : (0 : Int32).toInt = 0 := by decide
          by_cases hd : z_df f c i p B < 0
          · refine z_ifn (fun q => ?_) ⟨z_vin (by omega) (by omega), ?_⟩
            · rw [Int32.le_iff_toInt_le, nZ_toInt (by omega) (by omega)] at q
              omega
            · rintro _ rfl _ rfl
              rw [nI_1]
              refine nx _ ?_
              rw [← Int32.sub_eq_add_neg, ← nZ_n, ← nZ_n, nZ_sub]
              unfold z_nb
              rw [if_pos hd]
          · refine z_ifp ?_ ⟨z_vin (by omega) (by omega), ?_⟩
            · rw [Int32.le_iff_toInt_le, nZ_toInt (by omega) (by omega)]
              omega
            · rintro _ rfl _ rfl
              rw [nI_1]
              refine nx _ ?_
              rw [← nZ_n, ← nZ_n, nZ_add]
              unfold z_nb
              rw [if_neg hd]
        have mr : z_mr f c i p B j = S * cl j / T + if z_rk (z_P f p) (fun k => S * cl k % T) c j < z_lf S T cl c then 1 else 0 := by
          unfold z_mr z_mo
          rw [eS, eT, ec]
        have st0 : z_ct (fun k => z_P f p k && decide (z_ah (fun k => S * cl k % T) k j)) 1 = 0 := z_sm_0 1 (fun k hk => if_neg (by
          rw [Bool.and_eq_true]
          exact fun q => z_P_0 h.2 hp (show k ≤ p by omega) q.1))
        have := l_a374 (p := p) (x4 := nZ (z_df f c i p B)) (x9 := lN (z_lf S T cl c)) (K := w_X6_allocates_324 Q n) (Q := Q) (a := j) hr (by omega) h0 hTb hb (fun k k1 k2 => by rw [hl]; exact hcl k k1 k2) ?_ (c - 1) 1 400 (by omega) (by omega) (Nat.le_refl 1)
        · rw [st0] at this
          exact this
        · rw [nI_l (by omega), h8 j, h78 j (by omega) (by omega) eP]
          by_cases hlt : z_rk (z_P f p) (fun k => S * cl k % T) c j < z_lf S T cl c
          · rw [if_pos hlt] at mr
            refine z_ifn (fun q => ?_) (fin 1 mr.symm)
            have := (q_le (by omega) (by omega)).mp ((lg_cmp_ge _ _).mp q)
            omega
          · rw [if_neg hlt] at mr
            refine z_ifp ((lg_cmp_ge _ _).mpr ((q_le (by omega) (by omega)).mpr (by omega))) (fin 0 mr.symm)
      · refine z_ifn e ?_
        unfold w_X6_allocates_502
        rintro _ rfl
        rw [nI_1]
        refine ih (j + 1) n (by omega) (by omega) (by omega) τ hτ hl h8 (fun k hk hkP => ?_)
        by_cases ek : k = j
        · subst ek
          exact absurd (z_P_i.mp hkP) e
        · exact hs k (by omega) hkP
