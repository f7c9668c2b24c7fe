/-! the reference's bills, ended; the calls about bills -/
theorem rm_alloc {f : Nat → Int32} {c p i : Nat} {B : Int} {σ : z_S} {Q : z_S → Prop} (h : z_rm f c σ) (hp : p < c) (hi : i < 12) (he : z_eM f c i σ) (hB : B.natAbs ≤ 600000000) (hb : zg_i σ 75 p = nZ B) (hq : ∀ τ, z_mb f c p σ τ → (∀ k, k < c → z_P f p k = true → zg_i τ 75 k = nZ (z_nb f c i p B k)) → Q τ) : w_X6_allocates (nI p) σ Q := by
  have h10 := h.2.1
  have hTb := z_T_b (p := p) h.2 hi
  have hdf : (z_df f c i p B).natAbs ≤ 650000010 := by
    have := z_eP_b (p := p) h.2 hi (Nat.le_refl c)
    unfold z_df
    omega
  have nP0 : ¬ z_P f p 0 = true := z_P_0 h.2 hp (Nat.zero_le p)
  have c0 : z_clm f c i p 0 = 0 := z_cl_n nP0
  have go : ∀ τ, z_li σ τ → z_clR (z_clm f c i p) c τ → w_X6_allocates_168 Q (nI p) (nZ (z_df f c i p B)) τ := by
    intro τ hτ hcl
    have hr := z_rm_ms h (z_li_ms hτ)
    have fin : w_X6_allocates_218 Q (nI p) (nZ (z_df f c i p B)) (lN (z_T f c i p)) (lN (z_df f c i p B).natAbs) τ := by
      unfold w_X6_allocates_218
      by_cases hT0 : 0 < z_T f c i p
      · have hbb : ∀ k, k < c → (z_df f c i p B).natAbs * z_clm f c i p k < 2 ^ 63 := fun k hk => Nat.lt_of_le_of_lt (Nat.mul_le_mul hdf (z_cl_b h.2 hk hi)) (by decide)
        have := l_a227 (Q := Q) (x4 := nZ (z_df f c i p B)) (S := (z_df f c i p B).natAbs) hr hp (rfl : z_T f c i p = z_sm (z_clm f c i p) c) hT0 (by omega) (by omega) hbb (fun k hk hn => z_cl_n hn) hcl (fun ρ hρ hl h78 h75 => ?_) (c - 1) 1 400 (by omega) (by omega) (Nat.le_refl 1) τ (z_mb_li (z_li_rfl τ)) rfl (fun k hk hk0 => absurd hk0 (by omega)) (fun _ => rfl)
        · have s1 : z_sm (fun k => (z_df f c i p B).natAbs * z_clm f c i p k / z_T f c i p) 1 = 0 := z_sm_0 1 (fun k hk => by
            obtain rfl : k = 0 := by omega
            rw [c0, Nat.mul_zero, Nat.zero_div])
          rw [s1, Nat.sub_zero] at this
          exact this
        · unfold w_X6_allocates_321
          have hσρ := z_mb_tr (z_mb_li (p := p) (f := f) (c := c) hτ) hρ
          refine l_a324 (z_rm_ms h (z_mb_ms hσρ)) hp hi (fun k hk => by rw [hσρ.1 76 k (by omega) (fun k' _ _ q => by omega)]; exact he k hk) hB rfl rfl rfl rfl hT0 (by omega) hbb (fun k hk hn => z_cl_n hn) (fun k k1 k2 => by rw [hl]; exact hcl k k1 k2) h78 (fun ρ2 h2 hs => hq ρ2 (z_mb_tr hσρ h2) hs) (c - 1) 1 400 (by omega) (by omega) (Nat.le_refl 1) ρ (z_mb_li (z_li_rfl ρ)) rfl (fun _ => rfl) (fun k hk hkP => ?_)
          obtain rfl : k = 0 := by omega
          exact absurd hkP nP0
      · have hT1 : z_T f c i p = 0 := by omega
        have nP : ∀ k, k < c → ¬ z_P f p k = true := fun k hk hP => hT0 (z_T_pos h.2 hk hP)
        have ex : Q τ := hq τ (z_mb_li hτ) (fun k hk hkP => absurd hkP (nP k hk))
        have le0 : lg_cmp (lN 0) 0 ≤ 0 := (lg_cmp_le _ _).mpr (Int64.le_refl _)
        have l321 : ∀ x7 x9, w_X6_allocates_321 Q (nI p) (nZ (z_df f c i p B)) (lN 0) x7 x9 τ := by
          intro x7 x9
          unfold w_X6_allocates_321
          show wb_X6_allocates_324 Q (w_X6_allocates_324 Q 399) _ _ _ _ _ _ _
          unfold wb_X6_allocates_324
          exact ⟨z_vin (i := 0) (by omega) (by omega), z_ite (fun _ => ex) (fun _ => z_ifp le0 ex)⟩
        rw [hT1]
        show wb_X6_allocates_227 Q (w_X6_allocates_227 Q 399) _ _ _ _ _ _ _
        unfold wb_X6_allocates_227
        exact ⟨z_vin (i := 0) (by omega) (by omega), z_ite (fun _ => l321 _ _) (fun _ => z_ifp le0 (l321 _ _))⟩
    unfold w_X6_allocates_168
    have := l_a174 (x4 := nZ (z_df f c i p B)) (p := p) (Q := Q) hr hcl ?_ (c - 1) 1 400 (by omega) (by omega) (Nat.le_refl 1)
    · have s1 : z_sm (z_clm f c i p) 1 = 0 := z_sm_0 1 (fun k hk => by
        obtain rfl : k = 0 := by omega
        exact c0)
      rw [s1] at this
      exact this
    · rw [nZ_l (by omega) (by omega), lZ_neg]
      have hz : (0 : Int32).toInt = 0 := by decide
      by_cases hd : z_df f c i p B < 0
      · refine z_ifn (fun q => ?_) ?_
        · rw [Int32.le_iff_toInt_le, nZ_toInt (by omega) (by omega)] at q
          omega
        · rw [show lZ (-z_df f c i p B) = lN (z_df f c i p B).natAbs by rw [← lZ_n]; congr 1; omega]
          exact fin
      · refine z_ifp ?_ ?_
        · rw [Int32.le_iff_toInt_le, nZ_toInt (by omega) (by omega)]
          omega
        · rw [show lZ (z_df f c i p B) = lN (z_df f c i p B).natAbs by rw [← lZ_n]; congr 1; omega]
          exact fin
  unfold w_X6_allocates
  rw [z_tn (by omega), hb]
  refine ⟨z_vin (by omega) (by omega), ?_⟩
  rintro _ rfl
  have := l_a13 (B := B) (Q := Q) h hp hi he (fun τ hτ hcl => ?_) (c - 1) 1 400 (by omega) (by omega) σ (z_li_rfl σ) (fun k k1 k2 => absurd k2 (by omega))
  · have s1 : z_sm (z_cE f i p) 1 = 0 := z_sm_0 1 (fun k hk => by
      obtain rfl : k = 0 := by omega
      exact if_neg nP0)
    have s2 : z_sm (z_eP f i p) 1 = 0 := z_sm_0 1 (fun k hk => by
      obtain rfl : k = 0 := by omega
      exact if_neg nP0)
    rw [s1, s2, show B - ((0 : Nat) : Int) = B by omega] at this
    exact this
  · have hE := z_sE_b (p := p) (n := c) h.2 hi (Nat.le_refl c)
    by_cases ez : z_sm (z_cE f i p) c = 0
    · rw [ez]
      refine l_a115 (z_rm_ms h (z_li_ms hτ)) hp (fun ρ hρ hcl' => ?_) (c - 1) 1 400 (by omega) (by omega) τ (z_li_rfl τ) (fun k k1 k2 => absurd k2 (by omega))
      refine go ρ (z_li_tr hτ hρ) ?_
      unfold z_clm
      rw [if_pos ez]
      exact hcl'
    · have g := go τ hτ
      unfold z_clm at g
      rw [if_neg ez] at g
      show wb_X6_allocates_115 Q (w_X6_allocates_115 Q 399) _ _ _ _ _
      unfold wb_X6_allocates_115
      refine ⟨z_vin (i := 0) (by omega) (by omega), z_ite (fun _ => g hcl) (fun _ => z_ifn (fun q => ?_) (g hcl))⟩
      exact ez ((q_eq (b := 0) (by omega) (by omega)).mp ((lg_cmp_eq _ _).mp q))
def z_mc (σ τ : z_S) : Prop := (∀ q, q ≠ 75 → q ≠ 76 → q ≠ 78 → zg_i τ q = zg_i σ q) ∧ zg_r τ = zg_r σ ∧ zg_n τ = zg_n σ
theorem z_mc_rfl (σ : z_S) : z_mc σ σ := ⟨fun _ _ _ _ => rfl, rfl, rfl⟩
theorem z_mc_tr {σ τ ρ : z_S} (h1 : z_mc σ τ) (h2 : z_mc τ ρ) : z_mc σ ρ := ⟨fun q a b d => (h2.1 q a b d).trans (h1.1 q a b d), h2.2.1.trans h1.2.1, h2.2.2.trans h1.2.2⟩
theorem z_mc_mb {f : Nat → Int32} {c p : Nat} {σ τ : z_S} (h : z_mb f c p σ τ) : z_mc σ τ := ⟨fun q a _ d => funext fun x => h.1 q x d (fun k _ _ e => a e.1), h.2.1, h.2.2⟩
theorem z_mc_i {σ : z_S} {p y : Nat} {v : Int32} (hp : p = 75 ∨ p = 76) : z_mc σ (zs_i σ p y v) := ⟨fun q a b d => zs_i_ne (by omega), rfl, rfl⟩
theorem z_mc_ms {σ τ : z_S} (h : z_mc σ τ) : z_ms σ τ := ⟨fun q hq => h.1 q (by omega) (by omega) (by omega), by rw [h.1 73 (by omega) (by omega) (by omega)], by rw [h.1 73 (by omega) (by omega) (by omega)], h.2.1, h.2.2⟩
theorem l_b44 {f : Nat → Int32} {c i : Nat} {σ : z_S} {Q : z_S → Prop} (h : z_rm f c σ) (hi : i < 12) (hq : ∀ τ, z_mc σ τ → z_eM f c i τ → (∀ k, k < c → zg_i τ 75 k = nZ (z_bl f c i c k)) → Q τ) : ∀ d p n, p + d = c → d < n → ∀ τ, z_mc σ τ → z_eM f c i τ → (∀ k, k < c → z_asg f p k → zg_i τ 75 k = nZ (z_bl f c i p k)) → w_X6_bills_44 Q n (nI p) τ := by
  have h10 := h.2.1
  intro d
  induction d with
  | zero =>
    intro p n hp hn τ hτ hE hB
    obtain ⟨n, rfl⟩ : ∃ k, n = k + 1 := ⟨n - 1, by omega⟩
    obtain rfl : p = c := by omega
    show wb_X6_bills_44 Q (w_X6_bills_44 Q n) _ _
    unfold wb_X6_bills_44
    rw [show (0 : Int32).toNatClampNeg = 0 from rfl, rm_cnt (z_rm_ms h (z_mc_ms hτ))]
    exact ⟨z_vin (i := 0) (by omega) (by omega), z_ifp (nI_le (Nat.le_refl p) (by omega)) (hq τ hτ hE (fun k hk => hB k hk (z_asg_c h.2 hk)))⟩
  | succ d ih =>
    intro p n hp hn τ hτ hE hB
    obtain ⟨n, rfl⟩ : ∃ k, n = k + 1 := ⟨n - 1, by omega⟩
    show wb_X6_bills_44 Q (w_X6_bills_44 Q n) _ _
    unfold wb_X6_bills_44
    have hr := z_rm_ms h (z_mc_ms hτ)
    have hbb := z_B_b h.2 hi p p (by omega) (show p < c by omega)
    rw [show (0 : Int32).toNatClampNeg = 0 from rfl, rm_cnt hr]
    refine ⟨z_vin (i := 0) (by omega) (by omega), z_ifn (nI_ge (by omega) (by omega)) (rm_alloc hr (by omega) hi hE (by omega) (hB p (by omega) (z_asg_m h.2 (by omega))) (fun ρ hρ hs => ?_))⟩
    rintro _ rfl
    rw [nI_1]
    refine ih (p + 1) n (by omega) (by omega) ρ (z_mc_tr hτ (z_mc_mb hρ)) (fun k hk => by rw [hρ.1 76 k (by omega) (fun k' _ _ q => by omega)]; exact hE k hk) (fun k hk ha => ?_)
    unfold z_bl
    by_cases eP : z_P f p k = true
    · rw [if_pos eP]
      exact hs k hk eP
    · rw [if_neg eP, hρ.1 75 k (by omega) (fun k' hk' hP' q => eP (by rw [q.2]; exact hP'))]
      exact hB k hk (z_asg_s ha eP)
theorem l_b2 {f : Nat → Int32} {c i : Nat} {σ : z_S} {Q : z_S → Prop} (h : z_rm f c σ) (h0 : 0 < c) (hi : i < 12) (hq : ∀ τ, z_mc σ τ → z_eM f c i τ → (∀ k, k < c → zg_i τ 75 k = nZ (z_bl f c i c k)) → Q τ) : ∀ d m n, m + d = c → d < n → ∀ τ, z_mc σ τ → (∀ k, k < m → zg_i τ 76 k = z_en f k i) → w_X6_bills_2 Q n (nI i) (nI m) τ := by
  have h10 := h.2.1
  intro d
  induction d with
  | zero =>
    intro m n hm hn τ hτ hE
    obtain ⟨n, rfl⟩ : ∃ k, n = k + 1 := ⟨n - 1, by omega⟩
    obtain rfl : m = c := by omega
    show wb_X6_bills_2 Q (w_X6_bills_2 Q n) _ _ _
    unfold wb_X6_bills_2
    rw [show (0 : Int32).toNatClampNeg = 0 from rfl, rm_cnt (z_rm_ms h (z_mc_ms hτ)), hE 0 h0]
    refine ⟨z_vin (i := 0) (by omega) (by omega), z_ifp (nI_le (Nat.le_refl m) (by omega)) ⟨z_vin (i := 0) (by omega) (by omega), z_vin (i := 0) (by omega) (by omega), ?_⟩⟩
    rintro _ rfl
    refine l_b44 h hi hq m 0 400 (by omega) (by omega) _ (z_mc_tr hτ (z_mc_i (by omega))) (fun k hk => by rw [zs_i_ne (by omega)]; exact hE k hk) (fun k hk ha => ?_)
    rcases ha with rfl | ⟨q, hq', -⟩
    · rw [zs_i_at, (z_ep_c h.2 hk hi).2]
      exact (nZ_n _).symm
    · exact absurd hq' (Nat.not_lt_zero q)
  | succ d ih =>
    intro m n hm hn τ hτ hE
    obtain ⟨n, rfl⟩ : ∃ k, n = k + 1 := ⟨n - 1, by omega⟩
    show wb_X6_bills_2 Q (w_X6_bills_2 Q n) _ _ _
    unfold wb_X6_bills_2
    have hr := z_rm_ms h (z_mc_ms hτ)
    rw [show (0 : Int32).toNatClampNeg = 0 from rfl, rm_cnt hr]
    refine ⟨z_vin (i := 0) (by omega) (by omega), z_ifn (nI_ge (by omega) (by omega)) (rm_energy hr (by omega) hi ⟨z_vin (by omega) (by omega), ?_⟩)⟩
    rw [z_tn (by omega)]
    rintro _ rfl _ rfl
    rw [nI_1]
    refine ih (m + 1) n (by omega) (by omega) _ (z_mc_tr hτ (z_mc_i (by omega))) (fun k hk => ?_)
    by_cases ek : k = m
    · subst ek
      exact zs_i_at
    · rw [zs_i_nej ek]
      exact hE k (by omega)
theorem rm_bills {f : Nat → Int32} {c i : Nat} {σ : z_S} {Q : z_S → Prop} (h : z_rm f c σ) (h0 : 0 < c) (hi : i < 12) (hq : ∀ τ, z_mc σ τ → z_eM f c i τ → (∀ k, k < c → zg_i τ 75 k = nZ (z_bl f c i c k)) → Q τ) : w_X6_bills (nI i) σ Q := by
  have h10 := h.2.1
  unfold w_X6_bills
  exact l_b2 h h0 hi hq c 0 400 (by omega) (by omega) σ (z_mc_rfl σ) (fun k hk => absurd hk (Nat.not_lt_zero k))
def z_bi (f : Nat → Int32) (c k i : Nat) : Int32 := nZ (z_bl f c i c k)
def z_tot (f : Nat → Int32) (c k : Nat) : Int32 := z_sum (z_bi f c k) 12
theorem l_all36 {f : Nat → Int32} {c i : Nat} {σ : z_S} {Q : z_S → Prop} {K : Int32 → z_S → Prop} (h : z_rm f c σ) (hK : ∀ τ, z_ms σ τ → (∀ k, k < c → zg_i τ 79 k = z_sum (z_bi f c k) (i + 1)) → K (nI (i + 1)) τ) : ∀ d m n, m + d = c → d < n → ∀ τ, z_ms σ τ → (∀ k, k < c → zg_i τ 75 k = z_bi f c k i) → (∀ k, k < c → zg_i τ 79 k = if k < m then z_sum (z_bi f c k) (i + 1) else z_sum (z_bi f c k) i) → w_X6_billsAll_36 K Q n (nI i) (nI m) τ := by
  have h10 := h.2.1
  intro d
  induction d with
  | zero =>
    intro m n hm hn τ hτ h5 h9
    obtain ⟨n, rfl⟩ : ∃ k, n = k + 1 := ⟨n - 1, by omega⟩
    obtain rfl : m = c := by omega
    show wb_X6_billsAll_36 K Q (w_X6_billsAll_36 K Q n) _ _ _
    unfold wb_X6_billsAll_36
    rw [show (0 : Int32).toNatClampNeg = 0 from rfl, rm_cnt (z_rm_ms h hτ)]
    refine ⟨z_vin (i := 0) (by omega) (by omega), z_ifp (nI_le (Nat.le_refl m) (by omega)) ?_⟩
    rintro _ rfl
    rw [nI_1]
    exact hK τ hτ (fun k hk => by rw [h9 k hk, if_pos hk])
  | succ d ih =>
    intro m n hm hn τ hτ h5 h9
    obtain ⟨n, rfl⟩ : ∃ k, n = k + 1 := ⟨n - 1, by omega⟩
    show wb_X6_billsAll_36 K Q (w_X6_billsAll_36 K Q n) _ _ _
    unfold wb_X6_billsAll_36
    have hr := z_rm_ms h hτ
    rw [show (0 : Int32).toNatClampNeg = 0 from rfl, rm_cnt hr, z_tn (by omega), h5 m (by omega), h9 m (by omega), if_neg (Nat.lt_irrefl m)]
    refine ⟨z_vin (i := 0) (by omega) (by omega), z_ifn (nI_ge (by omega) (by omega)) ⟨z_vin (by omega) (by omega), z_vin (by omega) (by omega), z_vin (by omega) (by omega), ?_⟩⟩
    rintro _ rfl _ rfl
    rw [nI_1]
    refine ih (m + 1) n (by omega) (by omega) _ (z_ms_tr hτ ⟨fun q hq => zs_i_ne (by omega), by rw [zs_i_ne (by omega)], by rw [zs_i_ne (by omega)], rfl, rfl⟩) (fun k hk => by rw [zs_i_ne (by omega)]; exact h5 k hk) (fun k hk => ?_)
    by_cases ek : k = m
    · subst ek
      rw [zs_i_at, if_pos (by omega)]
      rfl
    · rw [zs_i_nej ek, h9 k hk]
      by_cases e2 : k < m
      · rw [if_pos e2, if_pos (by omega)]
      · rw [if_neg e2, if_neg (by omega)]
theorem l_all23 {f : Nat → Int32} {c : Nat} {σ : z_S} {Q : z_S → Prop} (h : z_rm f c σ) (h0 : 0 < c) (hq : ∀ τ, z_ms σ τ → (∀ k, k < c → zg_i τ 79 k = z_tot f c k) → Q τ) : ∀ d i n, i + d = 12 → d < n → ∀ τ, z_ms σ τ → (∀ k, k < c → zg_i τ 79 k = z_sum (z_bi f c k) i) → w_X6_billsAll_23 Q n (nI i) τ := by
  have h10 := h.2.1
  intro d
  induction d with
  | zero =>
    intro i n hi hn τ hτ h9
    obtain ⟨n, rfl⟩ : ∃ k, n = k + 1 := ⟨n - 1, by omega⟩
    obtain rfl : i = 12 := by omega
    show wb_X6_billsAll_23 Q (w_X6_billsAll_23 Q n) _ _
    unfold wb_X6_billsAll_23
    exact z_ifp (by decide) (hq τ hτ h9)
  | succ d ih =>
    intro i n hi hn τ hτ h9
    obtain ⟨n, rfl⟩ : ∃ k, n = k + 1 := ⟨n - 1, by omega⟩
    show wb_X6_billsAll_23 Q (w_X6_billsAll_23 Q n) _ _
    unfold wb_X6_billsAll_23
    have hr := z_rm_ms h hτ
    refine z_ifn (nI_ge (a := i) (b := 12) (by omega) (by omega)) (rm_bills hr h0 (by omega) (fun ρ hρ hE h5 => ?_))
    exact l_all36 (Q := Q) (z_rm_ms hr (z_mc_ms hρ)) (fun ρ2 h2 h9' => ih (i + 1) n (by omega) (by omega) ρ2 (z_ms_tr hτ (z_ms_tr (z_mc_ms hρ) h2)) h9') c 0 400 (by omega) (by omega) ρ (z_ms_rfl ρ) h5 (fun k hk => by rw [if_neg (Nat.not_lt_zero k), hρ.1 79 (by omega) (by omega) (by omega)]; exact h9 k hk)
theorem l_all2 {f : Nat → Int32} {c : Nat} {σ : z_S} {Q : z_S → Prop} (h : z_rm f c σ) (h0 : 0 < c) (hq : ∀ τ, z_ms σ τ → (∀ k, k < c → zg_i τ 79 k = z_tot f c k) → Q τ) : ∀ d m n, m + d = 10 → d < n → ∀ τ, z_ms σ τ → (∀ k, k < m → zg_i τ 79 k = 0) → w_X6_billsAll_2 Q n (nI m) τ := by
  have h10 := h.2.1
  intro d
  induction d with
  | zero =>
    intro m n hm hn τ hτ h9
    obtain ⟨n, rfl⟩ : ∃ k, n = k + 1 := ⟨n - 1, by omega⟩
    obtain rfl : m = 10 := by omega
    show wb_X6_billsAll_2 Q (w_X6_billsAll_2 Q n) _ _
    unfold wb_X6_billsAll_2
    exact z_ifp (by decide) (l_all23 h h0 hq 12 0 400 (by omega) (by omega) τ hτ (fun k hk => h9 k (by omega)))
  | succ d ih =>
    intro m n hm hn τ hτ h9
    obtain ⟨n, rfl⟩ : ∃ k, n = k + 1 := ⟨n - 1, by omega⟩
    show wb_X6_billsAll_2 Q (w_X6_billsAll_2 Q n) _ _
    unfold wb_X6_billsAll_2
    rw [z_tn (by omega)]
    refine z_ifn (nI_ge (a := m) (b := 10) (by omega) (by omega)) ⟨z_vin (by omega) (by omega), ?_⟩
    rintro _ rfl _ rfl
    rw [nI_1]
    refine ih (m + 1) n (by omega) (by omega) _ (z_ms_tr hτ ⟨fun q hq => zs_i_ne (by omega), by rw [zs_i_ne (by omega)], by rw [zs_i_ne (by omega)], rfl, rfl⟩) (fun k hk => ?_)
    by_cases ek : k = m
    · subst ek
      exact zs_i_at
    · rw [zs_i_nej ek]
      exact h9 k (by omega)
theorem rm_all {f : Nat → Int32} {c : Nat} {σ : z_S} {Q : z_S → Prop} (h : z_rm f c σ) (h0 : 0 < c) (hq : ∀ τ, z_ms σ τ → (∀ k, k < c → zg_i τ 79 k = z_tot f c k) → Q τ) : w_X6_billsAll σ Q := by
  unfold w_X6_billsAll
  exact l_all2 h h0 hq 10 0 400 (by omega) (by omega) σ (z_ms_rfl σ) (fun k hk => absurd hk (Nat.not_lt_zero k))
/-! a row's sum -/
theorem l_sm12 {q : Nat} {σ : z_S} {Q : Int32 → z_S → Prop} (hs : q < 81 ∧ z_sh q = (10, 12)) (hq : Q (z_sum (zg_i σ q) 12) σ) : ∀ d i n, i + d = 12 → d < n → w_X5_sumOf_10 Q n (z_sum (zg_i σ q) i) q 12 (nI i) σ := by
  intro d
  induction d with
  | zero =>
    intro i n hi hn
    obtain ⟨n, rfl⟩ : ∃ k, n = k + 1 := ⟨n - 1, by omega⟩
    obtain rfl : i = 12 := by omega
    show wb_X5_sumOf_10 Q (w_X5_sumOf_10 Q n) _ _ _ _ _
    unfold wb_X5_sumOf_10
    exact z_ifp (by decide) hq
  | succ d ih =>
    intro i n hi hn
    obtain ⟨n, rfl⟩ : ∃ k, n = k + 1 := ⟨n - 1, by omega⟩
    show wb_X5_sumOf_10 Q (w_X5_sumOf_10 Q n) _ _ _ _ _
    unfold wb_X5_sumOf_10
    rw [z_tn (by omega)]
    refine z_ifn (nI_ge (a := i) (b := 12) (by omega) (by omega)) ⟨hs, z_vin (by omega) (by omega), ?_⟩
    rintro _ rfl _ rfl _ rfl
    rw [nI_1]
    exact ih (i + 1) n (by omega) (by omega)
theorem z_sum_ext {g g' : Nat → Int32} : ∀ n, (∀ i, i < n → g i = g' i) → z_sum g n = z_sum g' n := by
  intro n
  induction n with
  | zero => intro _; rfl
  | succ n ih =>
    intro h
    show z_sum g n + g n = z_sum g' n + g' n
    rw [ih (fun i hi => h i (by omega)), h n (by omega)]
theorem rc_sum {q : Nat} {g : Nat → Int32} {σ : z_S} {Q : Int32 → z_S → Prop} (hs : q < 81 ∧ z_sh q = (10, 12)) (hg : ∀ i, i < 12 → zg_i σ q i = g i) (hq : Q (z_sum g 12) σ) : w_X5_sumOf q σ Q := by
  unfold w_X5_sumOf
  refine ⟨hs, l_sm12 hs ?_ 12 0 400 (by omega) (by omega)⟩
  rw [z_sum_ext 12 hg]
  exact hq
theorem op_billed {σ : z_S} {K : Int32 → Int32 → z_S → Prop} (a b : Int32) (h : z_Inv σ) (hK : ∀ r σ2, z_Inv σ2 → K r r σ2) : w_X5_billed a b σ (fun r σ1 => w_X6_billed a b σ1 (fun r2 σ2 => K r r2 σ2)) := by
  unfold w_X5_billed w_X6_billed
  refine op_gi (fun σ5 Q => w_X0_fill σ5 (fun σ8 => vp_in a 10 ∧ vp_in b 12 ∧ Q (zg_i σ8 (55 + a.toNatClampNeg) b.toNatClampNeg) σ8)) (fun σ2 Q => w_X6_bills b σ2 (fun σ5 => vp_in a 10 ∧ Q (zg_i σ5 75 a.toNatClampNeg) σ5)) h ?_ hK
  rintro f c m i hm hi rfl rfl hf
  have h10 := hf.1
  refine ⟨z_bi f c m i, fun σ Q hr hq => rc_fill hr (by omega) (fun τ hτ hE hB => ⟨z_vin (by omega) (by omega), z_vin hi (by omega), ?_⟩), fun σ1 Q hr hq => rm_bills hr (by omega) hi (fun τ hτ hE hB => ⟨z_vin (by omega) (by omega), ?_⟩)⟩
  · rw [z_tn (by omega), z_tn (by omega), hB i hi m hm]
    exact hq τ hτ
  · rw [z_tn (by omega), hB m hm]
    exact hq τ (z_mc_ms hτ)
theorem op_part {σ : z_S} {K : Int32 → Int32 → z_S → Prop} (a b : Int32) (h : z_Inv σ) (hK : ∀ r σ2, z_Inv σ2 → K r r σ2) : w_X5_part a b σ (fun r σ1 => w_X6_part a b σ1 (fun r2 σ2 => K r r2 σ2)) := by
  unfold w_X5_part w_X6_part
  refine op_gi (fun σ5 Q => w_X0_fill σ5 (fun σ8 => vp_in a 10 ∧ vp_in b 12 ∧ vp_in a 10 ∧ vp_in b 12 ∧ Q ((zg_i σ8 (55 + a.toNatClampNeg) b.toNatClampNeg) - (zg_i σ8 (31 + a.toNatClampNeg) b.toNatClampNeg)) σ8)) (fun σ2 Q => w_X6_bills b σ2 (fun σ5 => vp_in a 10 ∧ vp_in a 10 ∧ Q ((zg_i σ5 75 a.toNatClampNeg) - (zg_i σ5 76 a.toNatClampNeg)) σ5)) h ?_ hK
  rintro f c m i hm hi rfl rfl hf
  have h10 := hf.1
  refine ⟨z_bi f c m i - z_en f m i, fun σ Q hr hq => rc_fill hr (by omega) (fun τ hτ hE hB => ⟨z_vin (by omega) (by omega), z_vin hi (by omega), z_vin (by omega) (by omega), z_vin hi (by omega), ?_⟩), fun σ1 Q hr hq => rm_bills hr (by omega) hi (fun τ hτ hE hB => ⟨z_vin (by omega) (by omega), z_vin (by omega) (by omega), ?_⟩)⟩
  · rw [z_tn (by omega), z_tn (by omega), hB i hi m hm, hE m hm i hi]
    exact hq τ hτ
  · rw [z_tn (by omega), hB m hm, hE m hm]
    exact hq τ (z_mc_ms hτ)
/-! day -/
def z_nv (f : Nat → Int32) (m i : Nat) : Int32 := if z_St f m i = 0 then 0 else 1
theorem l_dayOf {f : Nat → Int32} {c m : Nat} {b : Int32} {g : Nat → Int32} {σ : z_S} {Q : Int32 → z_S → Prop} (h : z_rm f c σ) (hm : m < c) (hb : b = 0 ∧ g = z_en f m ∨ b = 1 ∧ g = z_loss f c m ∨ b = 3 ∧ g = z_nv f m) (hq : Q (z_sum g 12) σ) : ∀ d i n, i + d = 12 → d < n → w_X6_dayOf_5 Q n (nI m) b (z_sum g i) (nI i) σ := by
  intro d
  induction d with
  | zero =>
    intro i n hi hn
    obtain ⟨n, rfl⟩ : ∃ k, n = k + 1 := ⟨n - 1, by omega⟩
    obtain rfl : i = 12 := by omega
    show wb_X6_dayOf_5 Q (w_X6_dayOf_5 Q n) _ _ _ _ _
    unfold wb_X6_dayOf_5
    exact z_ifp (by decide) hq
  | succ d ih =>
    intro i n hi hn
    obtain ⟨n, rfl⟩ : ∃ k, n = k + 1 := ⟨n - 1, by omega⟩
    show wb_X6_dayOf_5 Q (w_X6_dayOf_5 Q n) _ _ _ _ _
    unfold wb_X6_dayOf_5
    have fin : ∀ s, s = g i → w_X6_dayOf_57 (w_X6_dayOf_5 Q n) Q (nI m) b (nI i) s (z_sum g i) σ := by
      rintro _ rfl
      unfold w_X6_dayOf_57
      rintro _ rfl _ rfl
      rw [nI_1]
      exact ih (i + 1) n (by omega) (by omega)
    refine z_ifn (nI_ge (a := i) (b := 12) (by omega) (by omega)) ?_
    rcases hb with ⟨rfl, rfl⟩ | ⟨rfl, rfl⟩ | ⟨rfl, rfl⟩
    · exact z_ifp rfl (rm_energy h hm (by omega) (fin _ rfl))
    · exact z_ifn (by decide) (z_ifp rfl (rm_loss h hm (by omega) (fin _ rfl)))
    · refine z_ifn (by decide) (z_ifn (by decide) (rm_valid h hm (by omega) ?_))
      unfold z_nv at fin
      by_cases e : z_St f m i = 0
      · rw [if_pos e] at fin ⊢
        exact z_ifn (by decide) (fin 0 rfl)
      · rw [if_neg e] at fin ⊢
        exact z_ifp rfl (fin 1 rfl)
theorem l_cnv {f : Nat → Int32} {c m : Nat} {σ : z_S} {Q : Int32 → z_S → Prop} (h : z_rc f c σ) (hm : m < c) (hq : Q (z_sum (z_nv f m) 12) σ) : ∀ d i n, i + d = 12 → d < n → w_X5_countNotValid_4 Q n (nI m) (z_sum (z_nv f m) i) (nI i) σ := by
  intro d
  induction d with
  | zero =>
    intro i n hi hn
    obtain ⟨n, rfl⟩ : ∃ k, n = k + 1 := ⟨n - 1, by omega⟩
    obtain rfl : i = 12 := by omega
    show wb_X5_countNotValid_4 Q (w_X5_countNotValid_4 Q n) _ _ _ _
    unfold wb_X5_countNotValid_4
    exact z_ifp (by decide) hq
  | succ d ih =>
    intro i n hi hn
    obtain ⟨n, rfl⟩ : ∃ k, n = k + 1 := ⟨n - 1, by omega⟩
    show wb_X5_countNotValid_4 Q (w_X5_countNotValid_4 Q n) _ _ _ _
    unfold wb_X5_countNotValid_4
    have nx := ih (i + 1) n (by omega) (by omega)
    have e0 : z_sum (z_nv f m) (i + 1) = z_sum (z_nv f m) i + z_nv f m i := rfl
    rw [e0] at nx
    unfold z_nv at nx
    refine z_ifn (nI_ge (a := i) (b := 12) (by omega) (by omega)) (rc_judge h hm (by omega) ?_)
    by_cases e : z_St f m i = 0
    · rw [if_pos e, Int32.add_zero] at nx
      refine z_ifp e ?_
      unfold w_X5_countNotValid_25
      rintro _ rfl
      rw [nI_1]
      exact nx
    · rw [if_neg e] at nx
      refine z_ifn e ?_
      unfold w_X5_countNotValid_25
      rintro _ rfl _ rfl
      rw [nI_1]
      exact nx
theorem l_sol {f : Nat → Int32} {c m : Nat} {σ : z_S} {Q : Int32 → z_S → Prop} (h : z_rc f c σ) (hm : m < c) (hs : z_fam f c m σ) (hq : Q (z_sum (z_loss f c m) 12) σ) : ∀ d i n, i + d = 12 → d < n → w_X5_sumOfLosses_30 Q n (nI m) (z_sum (z_loss f c m) i) (nI i) σ := by
  intro d
  induction d with
  | zero =>
    intro i n hi hn
    obtain ⟨n, rfl⟩ : ∃ k, n = k + 1 := ⟨n - 1, by omega⟩
    obtain rfl : i = 12 := by omega
    show wb_X5_sumOfLosses_30 Q (w_X5_sumOfLosses_30 Q n) _ _ _ _
    unfold wb_X5_sumOfLosses_30
    exact z_ifp (by decide) hq
  | succ d ih =>
    intro i n hi hn
    obtain ⟨n, rfl⟩ : ∃ k, n = k + 1 := ⟨n - 1, by omega⟩
    show wb_X5_sumOfLosses_30 Q (w_X5_sumOfLosses_30 Q n) _ _ _ _
    unfold wb_X5_sumOfLosses_30
    refine z_ifn (nI_ge (a := i) (b := 12) (by omega) (by omega)) (rc_loss h hm (by omega) hs ?_)
    rintro _ rfl _ rfl
    rw [nI_1]
    exact ih (i + 1) n (by omega) (by omega)
theorem op_day {σ : z_S} {K : Int32 → Int32 → z_S → Prop} (a b : Int32) (h : z_Inv σ) (hK : ∀ r σ2, z_Inv σ2 → K r r σ2) : w_X5_day a b σ (fun r σ1 => w_X6_day a b σ1 (fun r2 σ2 => K r r2 σ2)) := by
  unfold w_X5_day w_X6_day
  refine op_gm (fun σ2 Q => if b = 0 then (w_X1_measure a σ2 (fun σ6 => vp_in a 10 ∧ w_X5_sumOf (31 + a.toNatClampNeg) σ6 (fun r8 σ9 => Q r8 σ9))) else (if b = 1 then (w_X5_sumOfLosses a σ2 (fun r11 σ12 => Q r11 σ12)) else (if b = 2 then (w_X0_fill σ2 (fun σ15 => vp_in a 10 ∧ w_X5_sumOf (55 + a.toNatClampNeg) σ15 (fun r17 σ18 => Q r17 σ18))) else (if b = 3 then (w_X5_countNotValid a σ2 (fun r20 σ21 => Q r20 σ21)) else (Q (-2000000002 : Int32) σ2))))) (fun σ2 Q => w_X6_in b 0 (3 : Int32) σ2 (fun r4 σ5 => if r4 = 0 then (Q (-2000000002 : Int32) σ5) else (if b = 2 then (w_X6_billsAll σ5 (fun σ15 => vp_in a 10 ∧ Q (zg_i σ15 79 a.toNatClampNeg) σ15)) else (if b = 1 then (w_X6_children a σ5 (fun r11 σ12 => if r11 = 0 then (Q (-2000000000 : Int32) σ12) else (w_X6_day_57 Q a b σ12))) else (w_X6_day_57 Q a b σ5))))) h ?_ hK
  rintro f c m hm rfl hf
  have h10 := hf.1
  rcases z_cas b 4 with ⟨k, hk, rfl⟩ | hn
  · have ref : ∀ (σ1 : z_S) (Q : Int32 → z_S → Prop), (if nI k = 2 then (w_X6_billsAll σ1 (fun σ15 => vp_in (nI m) 10 ∧ Q (zg_i σ15 79 (nI m).toNatClampNeg) σ15)) else (if nI k = 1 then (w_X6_children (nI m) σ1 (fun r11 σ12 => if r11 = 0 then (Q (-2000000000 : Int32) σ12) else (w_X6_day_57 Q (nI m) (nI k) σ12))) else (w_X6_day_57 Q (nI m) (nI k) σ1))) → w_X6_in (nI k) 0 (3 : Int32) σ1 (fun r4 σ5 => if r4 = 0 then (Q (-2000000002 : Int32) σ5) else (if nI k = 2 then (w_X6_billsAll σ5 (fun σ15 => vp_in (nI m) 10 ∧ Q (zg_i σ15 79 (nI m).toNatClampNeg) σ15)) else (if nI k = 1 then (w_X6_children (nI m) σ5 (fun r11 σ12 => if r11 = 0 then (Q (-2000000000 : Int32) σ12) else (w_X6_day_57 Q (nI m) (nI k) σ12))) else (w_X6_day_57 Q (nI m) (nI k) σ5)))) := fun σ1 Q q => s_in_y (lo := 0) (hi := 3) (by omega) (by omega) (by omega) (z_ifn (by decide) q)
    rcases (show k = 0 ∨ k = 1 ∨ k = 2 ∨ k = 3 by omega) with rfl | rfl | rfl | rfl
    · refine ⟨z_sum (z_en f m) 12, fun σ Q hr hq => z_ifp rfl (rc_meas hr hm (fun τ hME hs => ⟨z_vin (by omega) (by omega), ?_⟩)), fun σ1 Q hr hq => ref σ1 Q (z_ifn (by decide) (z_ifn (by decide) (l_dayOf hr hm (Or.inl ⟨rfl, rfl⟩) (hq σ1 (z_ms_rfl σ1)) 12 0 400 (by omega) (by omega))))⟩
      rw [z_tn (by omega)]
      exact rc_sum ⟨by omega, z_sh31 (by omega)⟩ (fun i hi => (hs i hi).1) (hq τ (z_ME_cs (by omega) hME))
    · by_cases e : nI (z_kids f c m).length = 0
      · exact ⟨-2000000000, fun σ Q hr hq => z_ifn (by decide) (z_ifp rfl (rc_ch hr hm (z_ifp e (hq σ (z_cs_rfl σ))))), fun σ1 Q hr hq => ref σ1 Q (z_ifn (by decide) (z_ifp rfl (rm_ch hr hm (z_ifp e (hq σ1 (z_ms_rfl σ1))))))⟩
      · exact ⟨z_sum (z_loss f c m) 12, fun σ Q hr hq => z_ifn (by decide) (z_ifp rfl (rc_ch hr hm (z_ifn e (rc_fam hr hm (fun τ hτ hs => l_sol (z_rc_cs hr hτ) hm hs (hq τ hτ) 12 0 400 (by omega) (by omega)))))), fun σ1 Q hr hq => ref σ1 Q (z_ifn (by decide) (z_ifp rfl (rm_ch hr hm (z_ifn e (l_dayOf hr hm (Or.inr (Or.inl ⟨rfl, rfl⟩)) (hq σ1 (z_ms_rfl σ1)) 12 0 400 (by omega) (by omega))))))⟩
    · refine ⟨z_tot f c m, fun σ Q hr hq => z_ifn (by decide) (z_ifn (by decide) (z_ifp rfl (rc_fill hr (by omega) (fun τ hτ hE hB => ⟨z_vin (by omega) (by omega), ?_⟩)))), fun σ1 Q hr hq => ref σ1 Q (z_ifp rfl (rm_all hr (by omega) (fun τ hτ h9 => ⟨z_vin (by omega) (by omega), ?_⟩)))⟩
      · rw [z_tn (by omega)]
        exact rc_sum (g := z_bi f c m) ⟨by omega, z_sh55 (by omega)⟩ (fun i hi => hB i hi m hm) (hq τ hτ)
      · rw [z_tn (by omega), h9 m hm]
        exact hq τ hτ
    · exact ⟨z_sum (z_nv f m) 12, fun σ Q hr hq => z_ifn (by decide) (z_ifn (by decide) (z_ifn (by decide) (z_ifp rfl (l_cnv hr hm (hq σ (z_cs_rfl σ)) 12 0 400 (by omega) (by omega))))), fun σ1 Q hr hq => ref σ1 Q (z_ifn (by decide) (z_ifn (by decide) (l_dayOf hr hm (Or.inr (Or.inr ⟨rfl, rfl⟩)) (hq σ1 (z_ms_rfl σ1)) 12 0 400 (by omega) (by omega))))⟩
  · exact ⟨-2000000002, fun σ Q hr hq => z_ifn (hn 0 (by omega)) (z_ifn (hn 1 (by omega)) (z_ifn (hn 2 (by omega)) (z_ifn (hn 3 (by omega)) (hq σ (z_cs_rfl σ))))), fun σ1 Q hr hq => s_in_n (lo := 0) (hi := 3) (by omega) (by omega) (fun i _ g => hn i (by omega)) (z_ifp rfl (hq σ1 (z_ms_rfl σ1)))⟩
