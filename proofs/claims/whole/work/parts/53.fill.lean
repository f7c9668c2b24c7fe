/-! the class's bills -/
def z_fb (f : Nat → Int32) (c p i : Nat) (σ τ : z_S) : Prop := (∀ q x, (∀ k, k < c → z_P f p k = true → ¬ (q = 55 + k ∧ x = i)) → zg_i τ q x = zg_i σ q x) ∧ zg_r τ = zg_r σ ∧ zg_n τ = zg_n σ
theorem z_fb_li {f : Nat → Int32} {c p i : Nat} {σ τ : z_S} (h : z_li σ τ) : z_fb f c p i σ τ := ⟨fun q x _ => by rw [h.1], h.2.1, h.2.2⟩
theorem z_fb_tr {f : Nat → Int32} {c p i : Nat} {σ τ ρ : z_S} (h1 : z_fb f c p i σ τ) (h2 : z_fb f c p i τ ρ) : z_fb f c p i σ ρ := ⟨fun q x h => (h2.1 q x h).trans (h1.1 q x h), h2.2.1.trans h1.2.1, h2.2.2.trans h1.2.2⟩
theorem z_fb_i {f : Nat → Int32} {c p i k : Nat} {σ : z_S} {v : Int32} (hk : k < c) (hP : z_P f p k = true) : z_fb f c p i σ (zs_i σ (55 + k) i v) := ⟨fun q x h => by
  rw [zg_i_si, if_neg]
  exact h k hk hP, rfl, rfl⟩
theorem z_fb_cs {f : Nat → Int32} {c p i : Nat} {σ τ : z_S} (hc : c ≤ 10) (h : z_fb f c p i σ τ) : z_cs σ τ := ⟨fun q hq => funext fun x => h.1 q x (fun k hk _ e => by omega), h.1 68 1 (fun k hk _ e => by omega), h.2.1, h.2.2⟩
theorem z_mo_b {S T c k : Nat} {cl : Nat → Nat} {P : Nat → Bool} (hcl : cl k ≤ T) (h0 : 0 < T) : z_mo S T cl P c k ≤ S + 1 := by
  have h1 : S * cl k / T ≤ S := Nat.div_le_of_le_mul (by rw [Nat.mul_comm T]; exact Nat.mul_le_mul (Nat.le_refl S) hcl)
  unfold z_mo
  split <;> omega
theorem z_nb_b {f : Nat → Int32} {c i p k : Nat} {B : Int} (hf : z_fine f c) (hi : i < 12) (hk : k < c) (hP : z_P f p k = true) : (z_nb f c i p B k).natAbs ≤ B.natAbs + 55000012 := by
  have h1 := z_mo_b (S := (z_df f c i p B).natAbs) (T := z_T f c i p) (cl := z_clm f c i p) (P := z_P f p) (c := c) (k := k) (z_sm_at (g := z_clm f c i p) hk) (z_T_pos hf hk hP)
  have h2 := (z_ep_c hf hk hi).1
  have h3 := z_eP_b (p := p) hf hi (Nat.le_refl c)
  have h4 : (z_df f c i p B).natAbs ≤ B.natAbs + 50000010 := by
    unfold z_df
    omega
  unfold z_nb z_mr
  split <;> omega
theorem l_df {f : Nat → Int32} {c p i : Nat} {B : Int} {x5 : Int64} {σ : z_S} {Q : z_S → Prop} (h : z_rc f c σ) (hp : p < c) (hi : i < 12) (he : z_eC f c i σ) (hq : w_X0_divide (nI p) (if 0 < lZ (z_df f c i p B) then lZ (z_df f c i p B) else -lZ (z_df f c i p B)) x5 σ (fun σ11 => ∀ y12 : Int32, y12 = (nI p + 1) → w_X0_allocate_111 Q 400 (nI p) (nI i) (lZ (z_df f c i p B)) y12 σ11)) : ∀ d j n, j + d = c → d < n → w_X0_allocate_51 Q n (nI p) (nI i) x5 (lZ (B - z_sm (z_eP f i p) j)) (nI j) σ := by
  have h10 := h.2.1
  intro d
  induction d with
  | zero =>
    intro j n hj hn
    obtain ⟨n, rfl⟩ : ∃ k, n = k + 1 := ⟨n - 1, by omega⟩
    obtain rfl : j = c := by omega
    show wb_X0_allocate_51 Q (w_X0_allocate_51 Q n) _ _ _ _ _ _
    unfold wb_X0_allocate_51
    rw [rc_cnt h]
    exact z_ifp (nI_le (Nat.le_refl j) (by omega)) hq
  | succ d ih =>
    intro j n hj hn
    obtain ⟨n, rfl⟩ : ∃ k, n = k + 1 := ⟨n - 1, by omega⟩
    show wb_X0_allocate_51 Q (w_X0_allocate_51 Q n) _ _ _ _ _ _
    unfold wb_X0_allocate_51
    rw [rc_cnt h, z_tn (by omega), z_tn (by omega), rc_par h (by omega)]
    refine z_ifn (nI_ge (by omega) (by omega)) ⟨z_vin (by omega) (by omega), ?_⟩
    have nx := ih (j + 1) n (by omega) (by omega)
    by_cases e : f (4 + 18 * j) = nI p
    · have eP := z_P_i.mpr e
      refine z_ifp e ⟨z_vin (by omega) (by omega), z_vin (by omega) (by omega), ?_⟩
      obtain ⟨b1, b2⟩ := z_ep_c h.2 (show j < c by omega) hi
      rw [he j (by omega), b2, nI_l (by omega), ← lZ_n, lZ_sub]
      rintro _ rfl
      unfold w_X0_allocate_87
      rintro _ rfl
      rw [nI_1]
      have e1 : B - (z_sm (z_eP f i p) j : Int) - (z_ep f i j : Int) = B - (z_sm (z_eP f i p) (j + 1) : Nat) := by
        show _ = B - ((z_sm (z_eP f i p) j + z_eP f i p j : Nat) : Int)
        rw [show z_eP f i p j = z_ep f i j from if_pos eP]
        omega
      rw [e1]
      exact nx
    · refine z_ifn e ?_
      unfold w_X0_allocate_87
      rintro _ rfl
      rw [nI_1]
      have e1 : z_sm (z_eP f i p) (j + 1) = z_sm (z_eP f i p) j := by
        show z_sm (z_eP f i p) j + z_eP f i p j = _
        rw [show z_eP f i p j = 0 from if_neg (fun q => e (z_P_i.mp q)), Nat.add_zero]
      rw [e1] at nx
      exact nx
theorem l_wr {f : Nat → Int32} {c p i : Nat} {B : Int} {σ : z_S} {Q : z_S → Prop} (h : z_rc f c σ) (hp : p < c) (hi : i < 12) (he : z_eC f c i σ) (hB : B.natAbs ≤ 600000000) (h66 : ∀ k, k < c → z_P f p k = true → zg_l σ 66 k = lN (z_mr f c i p B k)) (hq : ∀ τ, z_fb f c p i σ τ → (∀ k, k < c → z_P f p k = true → zg_i τ (55 + k) i = nZ (z_nb f c i p B k)) → Q τ) : ∀ d j n, j + d = c → d < n → ∀ τ, z_fb f c p i σ τ → zg_l τ = zg_l σ → (∀ k, k < j → z_P f p k = true → zg_i τ (55 + k) i = nZ (z_nb f c i p B k)) → w_X0_allocate_111 Q n (nI p) (nI i) (lZ (z_df f c i p B)) (nI j) τ := by
  have h10 := h.2.1
  have hdf : (z_df f c i p B).natAbs ≤ 650000010 := by
    have := z_eP_b (p := p) h.2 hi (Nat.le_refl c)
    unfold z_df
    omega
  intro d
  induction d with
  | zero =>
    intro j n hj hn τ hτ hl hs
    obtain ⟨n, rfl⟩ : ∃ k, n = k + 1 := ⟨n - 1, by omega⟩
    obtain rfl : j = c := by omega
    show wb_X0_allocate_111 Q (w_X0_allocate_111 Q n) _ _ _ _ _
    unfold wb_X0_allocate_111
    rw [rc_cnt (z_rc_cs h (z_fb_cs h10 hτ))]
    exact z_ifp (nI_le (Nat.le_refl j) (by omega)) (hq τ hτ hs)
  | succ d ih =>
    intro j n hj hn τ hτ hl hs
    obtain ⟨n, rfl⟩ : ∃ k, n = k + 1 := ⟨n - 1, by omega⟩
    show wb_X0_allocate_111 Q (w_X0_allocate_111 Q n) _ _ _ _ _
    unfold wb_X0_allocate_111
    have hr := z_rc_cs h (z_fb_cs h10 hτ)
    rw [rc_cnt hr, z_tn (by omega), z_tn (by omega), rc_par hr (by omega)]
    refine z_ifn (nI_ge (by omega) (by omega)) ⟨z_vin (by omega) (by omega), ?_⟩
    by_cases e : f (4 + 18 * j) = nI p
    · have eP := z_P_i.mpr e
      refine z_ifp e ⟨z_vin (by omega) (by omega), z_vin (by omega) (by omega), ?_⟩
      obtain ⟨b1, b2⟩ := z_ep_c h.2 (show j < c by omega) hi
      rw [hτ.1 (31 + j) i (fun k hk _ q => by omega), he j (by omega), b2, hl, h66 j (by omega) eP]
      rintro _ rfl
      refine ⟨z_vin (by omega) (by omega), ?_⟩
      have fin : ∀ s0 : Int64, s0.toInt32 = nZ (z_nb f c i p B j) → w_X0_allocate_184 (w_X0_allocate_111 Q n) Q (nI p) (nI i) (lZ (z_df f c i p B)) (nI j) s0 (nI i) (55 + j) τ := by
        intro s0 hs0
        unfold w_X0_allocate_184 w_X0_allocate_186
        rw [hs0, z_tn (by omega)]
        refine ⟨⟨by omega, z_sh55 (by omega)⟩, z_vin (by omega) (by omega), ?_⟩
        rintro _ rfl _ rfl
        rw [nI_1]
        refine ih (j + 1) n (by omega) (by omega) _ (z_fb_tr hτ (z_fb_i (by omega) eP)) hl (fun k hk hkP => ?_)
        by_cases ek : k = j
        · subst ek
          exact zs_i_at
        · rw [zs_i_ne (by omega)]
          exact hs k (by omega) hkP
      by_cases hd : z_df f c i p B < 0
      · refine z_ifn (fun q => ?_) ⟨z_vin (by omega) (by omega), fin _ ?_⟩
        · have := (lg_cmp_ge _ _).mp q
          rw [Int64.le_iff_toInt_le, lZ_toInt (by omega) (by omega)] at this
          have h0 : (0 : Int64).toInt = 0 := by decide
          omega
        · rw [lg_l2i_sub, lg_l2i_i2l, lN_i, ← nZ_n, ← nZ_n, nZ_sub]
          unfold z_nb
          rw [if_pos hd]
      · refine z_ifp ((lg_cmp_ge _ _).mpr ?_) ⟨z_vin (by omega) (by omega), fin _ ?_⟩
        · rw [Int64.le_iff_toInt_le, lZ_toInt (by omega) (by omega)]
          have h0 : (0 : Int64).toInt = 0 := by decide
          omega
        · rw [lg_l2i_add, lg_l2i_i2l, lN_i, ← nZ_n, ← nZ_n, nZ_add]
          unfold z_nb
          rw [if_neg hd]
    · refine z_ifn e ?_
      unfold w_X0_allocate_186
      rintro _ rfl
      rw [nI_1]
      refine ih (j + 1) n (by omega) (by omega) τ hτ hl (fun k hk hkP => ?_)
      by_cases ek : k = j
      · subst ek
        exact absurd (z_P_i.mp hkP) e
      · exact hs k (by omega) hkP
theorem z_abs {z : Int} (h : z.natAbs ≤ 650000010) : (if 0 < lZ z then lZ z else -lZ z) = lN z.natAbs := by
  have h0 : (0 : Int64).toInt = 0 := by decide
  by_cases hz : 0 < z
  · rw [if_pos (by rw [Int64.lt_iff_toInt_lt, lZ_toInt (by omega) (by omega)]; omega), ← lZ_n]
    congr 1
    omega
  · rw [if_neg (by rw [Int64.lt_iff_toInt_lt, lZ_toInt (by omega) (by omega)]; omega), lZ_neg, ← lZ_n]
    congr 1
    omega
theorem rc_alloc {f : Nat → Int32} {c p i k0 : Nat} {B : Int} {σ : z_S} {Q : z_S → Prop} (h : z_rc f c σ) (hp : p < c) (hi : i < 12) (he : z_eC f c i σ) (hB : B.natAbs ≤ 600000000) (hb : zg_i σ (55 + p) i = nZ B) (hk0 : k0 < c) (hP0 : z_P f p k0 = true) (hq : ∀ τ, z_fb f c p i σ τ → (∀ k, k < c → z_P f p k = true → zg_i τ (55 + k) i = nZ (z_nb f c i p B k)) → Q τ) : w_X0_allocate (nI p) (nI i) σ Q := by
  have h10 := h.2.1
  have hT0 := z_T_pos (i := i) h.2 hk0 hP0
  have hTb := z_T_b (p := p) h.2 hi
  have hdf : (z_df f c i p B).natAbs ≤ 650000010 := by
    have := z_eP_b (p := p) h.2 hi (Nat.le_refl c)
    unfold z_df
    omega
  have go : ∀ τ, z_li σ τ → (∀ k, k < c → z_P f p k = true → zg_l τ 65 k = lN (z_clm f c i p k)) → w_X0_allocate_26 Q (nI p) (nI i) (lN (z_T f c i p)) τ := by
    intro τ hτ h65
    unfold w_X0_allocate_26
    rw [z_tn (by omega), z_tn (by omega), hτ.1, hb, nZ_l (by omega) (by omega)]
    refine z_ifp ((lg_cmp_gt _ _).mpr ((q_lt (a := 0) (by omega) (by omega)).mpr hT0)) ⟨z_vin (by omega) (by omega), z_vin (by omega) (by omega), ?_⟩
    rintro _ rfl _ rfl
    rw [nI_1]
    have hr := z_rc_cs h (z_li_cs hτ)
    have heτ : z_eC f c i τ := fun k hk => by rw [hτ.1]; exact he k hk
    have := l_df (B := B) (x5 := lN (z_T f c i p)) (Q := Q) hr hp hi heτ ?_ (c - (p + 1)) (p + 1) 400 (by omega) (by omega)
    · rw [z_sm_0 (g := z_eP f i p) (p + 1) (fun k hk => if_neg (z_P_0 h.2 hp (by omega)))] at this
      rw [show B - ((0 : Nat) : Int) = B by omega] at this
      exact this
    · rw [z_abs hdf]
      refine rc_div (cl := z_clm f c i p) hr hp rfl hT0 (by omega) (fun k hk => ?_) (fun k hk hn => z_cl_n hn) h65 (fun ρ hρ h66 => ?_)
      · exact Nat.lt_of_le_of_lt (Nat.mul_le_mul hdf (z_cl_b h.2 hk hi)) (by decide)
      · rintro _ rfl
        rw [nI_1]
        have hσρ := z_li_tr hτ hρ
        refine l_wr (z_rc_cs h (z_li_cs hσρ)) hp hi (fun k hk => by rw [hσρ.1]; exact he k hk) hB h66 (fun ρ2 h2 hs => hq ρ2 (z_fb_tr (z_fb_li hσρ) h2) hs) (c - (p + 1)) (p + 1) 400 (by omega) (by omega) ρ (z_fb_li (z_li_rfl ρ)) rfl (fun k hk hkP => absurd hkP (z_P_0 h.2 hp (by omega)))
  unfold w_X0_allocate w_X0_claimByEnergy
  rintro _ rfl
  rw [nI_1]
  have s0 : z_sm (z_cE f i p) (p + 1) = 0 := z_sm_0 (p + 1) (fun k hk => if_neg (z_P_0 h.2 hp (by omega)))
  have := l_cE (Q := fun r1 σ2 => if (lg_cmp r1 (0 : Int64)) = 0 then (w_X0_claimByWeight (nI p) σ2 (fun r33 σ34 => w_X0_allocate_26 Q (nI p) (nI i) r33 σ34)) else (w_X0_allocate_26 Q (nI p) (nI i) r1 σ2)) h hp hi he (fun τ hτ h65 => ?_) (c - (p + 1)) (p + 1) 400 (by omega) (by omega) σ (z_li_rfl σ) (fun k hk hkP => absurd hkP (z_P_0 h.2 hp (by omega)))
  · rw [s0] at this
    exact this
  · have hE := z_sE_b (p := p) (n := c) h.2 hi (Nat.le_refl c)
    by_cases ez : z_sm (z_cE f i p) c = 0
    · refine z_ifp ((lg_cmp_eq _ _).mpr (by rw [ez]; rfl)) ?_
      unfold w_X0_claimByWeight
      rintro _ rfl
      rw [nI_1]
      have s1 : z_sm (z_cW f p) (p + 1) = 0 := z_sm_0 (p + 1) (fun k hk => if_neg (z_P_0 h.2 hp (by omega)))
      have := l_cW (Q := fun r33 σ34 => w_X0_allocate_26 Q (nI p) (nI i) r33 σ34) (z_rc_cs h (z_li_cs hτ)) hp (fun ρ hρ h65' => ?_) (c - (p + 1)) (p + 1) 400 (by omega) (by omega) τ (z_li_rfl τ) (fun k hk hkP => absurd hkP (z_P_0 h.2 hp (by omega)))
      · rw [s1] at this
        exact this
      · have g := go ρ (z_li_tr hτ hρ)
        unfold z_T z_clm at g
        rw [if_pos ez] at g
        exact g h65'
    · refine z_ifn (fun q => ez ((q_eq (b := 0) (by omega) (by omega)).mp ((lg_cmp_eq _ _).mp q))) ?_
      have g := go τ hτ
      unfold z_T z_clm at g
      rw [if_neg ez] at g
      exact g h65
/-! all meters -/
def z_bl (f : Nat → Int32) (c i : Nat) : Nat → Nat → Int
  | 0, k => if k = 0 then (z_ep f i 0 : Int) else 0
  | p + 1, k => if z_P f p k = true then z_nb f c i p (z_bl f c i p p) k else z_bl f c i p k
theorem z_P_lt {f : Nat → Int32} {c p k : Nat} (hf : z_fine f c) (hk : k < c) (hp : p < c) (hP : z_P f p k = true) : p < k := Classical.byContradiction fun q => z_np hf (show k ≤ p by omega) hk (by have := hf.1; omega) (z_P_i.mp hP)
theorem z_B_b {f : Nat → Int32} {c i : Nat} (hf : z_fine f c) (hi : i < 12) : ∀ p k, p ≤ c → k < c → (z_bl f c i p k).natAbs ≤ (k + 1) * 56000000 := by
  intro p
  induction p with
  | zero =>
    intro k _ hk
    unfold z_bl
    by_cases e : k = 0
    · subst e
      rw [if_pos rfl]
      have := (z_ep_c hf hk hi).1
      omega
    · rw [if_neg e]
      omega
  | succ p ih =>
    intro k hp hk
    unfold z_bl
    by_cases e : z_P f p k = true
    · rw [if_pos e]
      have h1 := z_nb_b (B := z_bl f c i p p) hf hi hk e
      have h2 := ih p (by omega) (by omega)
      have h3 := z_P_lt hf hk (by omega) e
      omega
    · rw [if_neg e]
      exact ih k (by omega) hk
def z_asg (f : Nat → Int32) (p k : Nat) : Prop := k = 0 ∨ ∃ q, q < p ∧ f (4 + 18 * k) = nI q
theorem z_asg_s {f : Nat → Int32} {p k : Nat} (h : z_asg f (p + 1) k) (hP : ¬ z_P f p k = true) : z_asg f p k := by
  rcases h with h | ⟨q, hq, e⟩
  · exact Or.inl h
  · refine Or.inr ⟨q, ?_, e⟩
    by_cases eq : q = p
    · subst eq
      exact absurd (z_P_i.mpr e) hP
    · omega
theorem z_asg_m {f : Nat → Int32} {c k : Nat} (hf : z_fine f c) (hk : k < c) : z_asg f k k := by
  by_cases e : k = 0
  · exact Or.inl e
  · obtain ⟨p, hp, ep⟩ := hf.2.2.2.2.2.2.1 k (by omega) hk
    exact Or.inr ⟨p, hp, ep⟩
theorem z_asg_c {f : Nat → Int32} {c k : Nat} (hf : z_fine f c) (hk : k < c) : z_asg f c k := by
  rcases z_asg_m hf hk with h | ⟨q, hq, e⟩
  · exact Or.inl h
  · exact Or.inr ⟨q, by omega, e⟩
theorem z_kd_in {f : Nat → Int32} {m k : Nat} (he : f (4 + 18 * k) = nI m) : ∀ d i, i ≤ k → k < i + d → k ∈ z_kd f m d i := by
  intro d
  induction d with
  | zero => intro i a b; omega
  | succ d ih =>
    intro i a b
    unfold z_kd
    by_cases e : k = i
    · subst e
      rw [if_pos he]
      exact List.mem_cons_self
    · have := ih (i + 1) (by omega) (by omega)
      split
      · exact List.mem_cons_of_mem _ this
      · exact this
theorem z_kids_in {f : Nat → Int32} {c m k : Nat} (hf : z_fine f c) (hm : m < c) (hk : k < c) (hP : z_P f m k = true) : k ∈ z_kids f c m := z_kd_in (z_P_i.mp hP) _ _ (by have := z_P_lt hf hk hm hP; omega) (by omega)
def z_eA (f : Nat → Int32) (c : Nat) (σ : z_S) : Prop := ∀ k, k < c → ∀ i, i < 12 → zg_i σ (31 + k) i = z_en f k i
def z_bA (f : Nat → Int32) (c p : Nat) (σ : z_S) : Prop := ∀ i, i < 12 → ∀ k, k < c → z_asg f p k → zg_i σ (55 + k) i = nZ (z_bl f c i p k)
theorem l_f62 {f : Nat → Int32} {c p k0 : Nat} {σ : z_S} {Q : z_S → Prop} {K : Int32 → z_S → Prop} (h : z_rc f c σ) (hp : p < c) (hk0 : k0 < c) (hP0 : z_P f p k0 = true) (hK : ∀ τ, z_cs σ τ → z_eA f c τ → z_bA f c (p + 1) τ → K (nI (p + 1)) τ) : ∀ d i n, i + d = 12 → d < n → ∀ τ, z_cs σ τ → z_eA f c τ → (∀ i', i' < 12 → ∀ k, k < c → (i' < i → z_asg f (p + 1) k → zg_i τ (55 + k) i' = nZ (z_bl f c i' (p + 1) k)) ∧ (i ≤ i' → z_asg f p k → zg_i τ (55 + k) i' = nZ (z_bl f c i' p k))) → w_X0_fill_62 K Q n (nI p) (nI i) τ := by
  have h10 := h.2.1
  intro d
  induction d with
  | zero =>
    intro i n hi hn τ hτ hE hB
    obtain ⟨n, rfl⟩ : ∃ k, n = k + 1 := ⟨n - 1, by omega⟩
    obtain rfl : i = 12 := by omega
    show wb_X0_fill_62 K Q (w_X0_fill_62 K Q n) _ _ _
    unfold wb_X0_fill_62 w_X0_fill_84
    refine z_ifp (by decide) ?_
    rintro _ rfl
    rw [nI_1]
    exact hK τ hτ hE (fun i' hi' k hk => (hB i' hi' k hk).1 hi')
  | succ d ih =>
    intro i n hi hn τ hτ hE hB
    obtain ⟨n, rfl⟩ : ∃ k, n = k + 1 := ⟨n - 1, by omega⟩
    show wb_X0_fill_62 K Q (w_X0_fill_62 K Q n) _ _ _
    unfold wb_X0_fill_62
    have hr := z_rc_cs h hτ
    have hbp := (hB i (by omega) p hp).2 (Nat.le_refl i) (z_asg_m h.2 hp)
    have hbb := z_B_b (i := i) h.2 (by omega) p p (by omega) hp
    refine z_ifn (nI_ge (a := i) (b := 12) (by omega) (by omega)) (rc_alloc hr hp (by omega) (fun k hk => hE k hk i (by omega)) (by omega) hbp hk0 hP0 (fun ρ hρ hs => ?_))
    rintro _ rfl
    rw [nI_1]
    refine ih (i + 1) n (by omega) (by omega) ρ (z_cs_tr hτ (z_fb_cs h10 hρ)) (fun k hk j hj => by rw [hρ.1 (31 + k) j (fun k' hk' _ q => by omega)]; exact hE k hk j hj) (fun i' hi' k hk => ⟨fun g1 g2 => ?_, fun g1 g2 => ?_⟩)
    · by_cases ei : i' = i
      · subst ei
        unfold z_bl
        by_cases eP : z_P f p k = true
        · rw [if_pos eP]
          exact hs k hk eP
        · rw [if_neg eP, hρ.1 (55 + k) i' (fun k' hk' hP' q => by
            obtain rfl : k = k' := by omega
            exact eP hP')]
          exact (hB i' hi' k hk).2 (Nat.le_refl _) (z_asg_s g2 eP)
      · rw [hρ.1 (55 + k) i' (fun k' hk' hP' q => ei q.2)]
        exact (hB i' hi' k hk).1 (by omega) g2
    · rw [hρ.1 (55 + k) i' (fun k' hk' hP' q => by omega)]
      exact (hB i' hi' k hk).2 (by omega) g2
theorem l_f43 {f : Nat → Int32} {c : Nat} {σ : z_S} {Q : z_S → Prop} (h : z_rc f c σ) (hq : ∀ τ, z_cs σ τ → z_eA f c τ → z_bA f c c τ → Q τ) : ∀ d p n, p + d = c → d < n → ∀ τ, z_cs σ τ → z_eA f c τ → z_bA f c p τ → w_X0_fill_43 Q n (nI p) τ := by
  have h10 := h.2.1
  intro d
  induction d with
  | zero =>
    intro p n hp hn τ hτ hE hB
    obtain ⟨n, rfl⟩ : ∃ k, n = k + 1 := ⟨n - 1, by omega⟩
    obtain rfl : p = c := by omega
    show wb_X0_fill_43 Q (w_X0_fill_43 Q n) _ _
    unfold wb_X0_fill_43
    rw [rc_cnt (z_rc_cs h hτ)]
    exact z_ifp (nI_le (Nat.le_refl p) (by omega)) (hq τ hτ hE hB)
  | succ d ih =>
    intro p n hp hn τ hτ hE hB
    obtain ⟨n, rfl⟩ : ∃ k, n = k + 1 := ⟨n - 1, by omega⟩
    show wb_X0_fill_43 Q (w_X0_fill_43 Q n) _ _
    unfold wb_X0_fill_43
    have hr := z_rc_cs h hτ
    rw [rc_cnt hr]
    refine z_ifn (nI_ge (by omega) (by omega)) (rc_ch hr (by omega) ?_)
    have hl := z_kids_len f c p
    by_cases e : (z_kids f c p).length = 0
    · rw [e]
      refine z_ifp (by decide) ?_
      unfold w_X0_fill_84
      rintro _ rfl
      rw [nI_1]
      have nP : ∀ k, k < c → ¬ z_P f p k = true := fun k hk hP => by
        have := z_kids_in h.2 (by omega) hk hP
        rw [List.eq_nil_of_length_eq_zero e] at this
        exact List.not_mem_nil this
      refine ih (p + 1) n (by omega) (by omega) τ hτ hE (fun i hi k hk ha => ?_)
      unfold z_bl
      rw [if_neg (nP k hk)]
      exact hB i hi k hk (z_asg_s ha (nP k hk))
    · obtain ⟨k0, hk0⟩ : ∃ k, k ∈ z_kids f c p := List.exists_mem_of_length_pos (by omega)
      have hk0' := z_kids_mem hk0
      refine z_ifn (nI_ge (a := 0) (by omega) (by omega)) (l_f62 h (by omega) hk0'.2.1 (z_P_i.mpr hk0'.2.2) (fun ρ hρ hE' hB' => ih (p + 1) n (by omega) (by omega) ρ hρ hE' hB') 12 0 400 (by omega) (by omega) τ hτ hE (fun i' hi' k hk => ⟨fun g => absurd g (Nat.not_lt_zero _), fun _ g => hB i' hi' k hk g⟩))
theorem l_f2 {f : Nat → Int32} {c : Nat} {σ : z_S} {Q : z_S → Prop} (h : z_rc f c σ) (h0 : 0 < c) (hq : ∀ τ, z_cs σ τ → z_eA f c τ → z_bA f c c τ → Q τ) : ∀ d m n, m + d = c → d < n → ∀ τ, z_cs σ τ → (∀ k, k < m → ∀ i, i < 12 → zg_i τ (31 + k) i = z_en f k i) → w_X0_fill_2 Q n (nI m) τ := by
  have h10 := h.2.1
  intro d
  induction d with
  | zero =>
    intro m n hm hn τ hτ hE
    obtain ⟨n, rfl⟩ : ∃ k, n = k + 1 := ⟨n - 1, by omega⟩
    obtain rfl : m = c := by omega
    show wb_X0_fill_2 Q (w_X0_fill_2 Q n) _ _
    unfold wb_X0_fill_2
    rw [rc_cnt (z_rc_cs h hτ), show (0 : Int32).toNatClampNeg = 0 from rfl]
    refine z_ifp (nI_le (Nat.le_refl m) (by omega)) ⟨z_vin (i := 0) (by omega) (by omega), z_vin (i := 0) (by omega) (by omega), ?_⟩
    rintro _ rfl
    have hcs : z_cs τ (zs_row τ (55 + 0) (va_cpy (zg_i τ (31 + 0)) (zg_i τ (55 + 0)) 0 0 12)) := ⟨fun p hp => funext fun x => by rw [zg_i_row, if_neg (by omega)], by rw [zg_i_row, if_neg (by omega)], rfl, rfl⟩
    refine l_f43 h hq m 0 400 (by omega) (by omega) _ (z_cs_tr hτ hcs) (fun k hk i hi => ?_) (fun i hi k hk ha => ?_)
    · rw [zg_i_row, if_neg (by omega)]
      exact hE k hk i hi
    · rcases ha with rfl | ⟨q, hq', -⟩
      · rw [zg_i_row, if_pos rfl]
        have e1 : va_cpy (zg_i τ (31 + 0)) (zg_i τ (55 + 0)) 0 0 12 i = zg_i τ (31 + 0) i := sb_cpy0 hi
        rw [e1, hE 0 hk i hi, (z_ep_c h.2 hk hi).2]
        exact (nZ_n _).symm
      · exact absurd hq' (Nat.not_lt_zero q)
  | succ d ih =>
    intro m n hm hn τ hτ hE
    obtain ⟨n, rfl⟩ : ∃ k, n = k + 1 := ⟨n - 1, by omega⟩
    show wb_X0_fill_2 Q (w_X0_fill_2 Q n) _ _
    unfold wb_X0_fill_2
    have hr := z_rc_cs h hτ
    rw [rc_cnt hr]
    refine z_ifn (nI_ge (by omega) (by omega)) (rc_meas hr (by omega) (fun ρ hME hset => ?_))
    rintro _ rfl
    rw [nI_1]
    refine ih (m + 1) n (by omega) (by omega) ρ (z_cs_tr hτ (z_ME_cs (by omega) hME)) (fun k hk i hi => ?_)
    by_cases ek : k = m
    · subst ek
      exact (hset i hi).1
    · rw [hME.1 (31 + k) (by omega) (by omega) (by omega)]
      exact hE k (by omega) i hi
theorem rc_fill {f : Nat → Int32} {c : Nat} {σ : z_S} {Q : z_S → Prop} (h : z_rc f c σ) (h0 : 0 < c) (hq : ∀ τ, z_cs σ τ → z_eA f c τ → (∀ i, i < 12 → ∀ k, k < c → zg_i τ (55 + k) i = nZ (z_bl f c i c k)) → Q τ) : w_X0_fill σ Q := by
  have h10 := h.2.1
  unfold w_X0_fill
  exact l_f2 h h0 (fun τ hτ hE hB => hq τ hτ hE (fun i hi k hk => hB i hi k hk (z_asg_c h.2 hk))) c 0 400 (by omega) (by omega) σ (z_cs_rfl σ) (fun k hk => absurd hk (Nat.not_lt_zero k))
