/-! readings removed; addMeter, setRegister -/
def z_frd (f : Nat → Int32) (m n : Nat) : Nat → Int32 := fun x => if 9 + 18 * m ≤ x ∧ x < 9 + 18 * m + n then zNONE else f x
theorem z_frd_s (f : Nat → Int32) (m i x : Nat) : z_fup (z_frd f m i) (9 + 18 * m + i) zNONE x = z_frd f m (i + 1) x := by
  unfold z_fup z_frd
  by_cases h1 : x = 9 + 18 * m + i
  · rw [if_pos h1, if_pos (by omega)]
  · rw [if_neg h1]
    by_cases h2 : 9 + 18 * m ≤ x ∧ x < 9 + 18 * m + i
    · rw [if_pos h2, if_pos (by omega)]
    · rw [if_neg h2, if_neg (by omega)]
theorem z_frd_0 (f : Nat → Int32) (m x : Nat) : f x = z_frd f m 0 x := by
  unfold z_frd
  rw [if_neg (by omega)]
theorem z_frd_in (f : Nat → Int32) {m n b : Nat} (hb : b < n) : z_frd f m n (9 + 18 * m + b) = zNONE := if_pos (by omega)
theorem z_frd_ne (f : Nat → Int32) {m n x : Nat} (hx : x < 9 + 18 * m ∨ 9 + 18 * m + n ≤ x) : z_frd f m n x = f x := if_neg (by omega)
theorem l_forget {f : Nat → Int32} {sv : Nat} {F : Nat → Nat → Int32} {len : Nat} {tx : Nat → Int32} {σ : z_S} {Q : z_S → Prop} {m : Nat} (hm : m < 10) (hq : ∀ τ, z_IC (z_frd f m 13) sv F len tx τ → z_mf σ τ → Q τ) : ∀ (d i n : Nat) (τ : z_S), i + d = 13 → d < n → z_IC (z_frd f m i) sv F len tx τ → z_mf σ τ → w_X4_forgetReadings_2 Q n (nI m) (nI i) τ := by
  intro d
  induction d with
  | zero =>
    intro i n τ hi hn h hmf
    obtain ⟨n, rfl⟩ : ∃ k, n = k + 1 := ⟨n - 1, by omega⟩
    obtain rfl : i = 13 := by omega
    show wb_X4_forgetReadings_2 Q (w_X4_forgetReadings_2 Q n) (nI m) (nI 13) τ
    unfold wb_X4_forgetReadings_2
    exact z_ifp (by decide) (hq τ h hmf)
  | succ d ih =>
    intro i n τ hi hn h hmf
    obtain ⟨n, rfl⟩ : ∃ k, n = k + 1 := ⟨n - 1, by omega⟩
    show wb_X4_forgetReadings_2 Q (w_X4_forgetReadings_2 Q n) (nI m) (nI i) τ
    unfold wb_X4_forgetReadings_2
    refine z_ifn (nI_ge (a := i) (b := 13) (by omega) (by omega)) ⟨z_vin (by omega) (by omega), z_vin (by omega) (by omega), ?_⟩
    rintro _ rfl _ rfl
    rw [z_tn (by omega), z_tn (by omega), show nI i + (1 : Int32) = nI (i + 1) from nI_1 i]
    exact ih (i + 1) n _ (by omega) (by omega) (z_IC_ext (ic_setr (v := zNONE) h (by omega) hm) (fun x _ => z_frd_s f m i x)) (z_mf_tr hmf (z_mf_i (by omega)))
theorem s_forget {f : Nat → Int32} {sv : Nat} {F : Nat → Nat → Int32} {len : Nat} {tx : Nat → Int32} {σ : z_S} {Q : z_S → Prop} {m : Nat} (h : z_IC f sv F len tx σ) (hm : m < 10) (hq : ∀ τ, z_IC (z_frd f m 13) sv F len tx τ → z_mf σ τ → Q τ) : w_X4_forgetReadings (nI m) σ Q := l_forget hm hq 13 0 400 σ (by omega) (by omega) (z_IC_ext h (fun x _ => z_frd_0 f m x)) (z_mf_rfl σ)
theorem l_noRead {f : Nat → Int32} {sv : Nat} {F : Nat → Nat → Int32} {len : Nat} {tx : Nat → Int32} {σ : z_S} {Q : z_S → Prop} {m : Nat} (hm : m < 10) (hq : ∀ τ, z_IM (z_frd f m 13) sv F len tx τ → z_cf9 σ τ → Q τ) : ∀ (d i n : Nat) (τ : z_S), i + d = 13 → d < n → z_IM (z_frd f m i) sv F len tx τ → z_cf9 σ τ → w_X6_noReadings_2 Q n (nI m) (nI i) τ := by
  intro d
  induction d with
  | zero =>
    intro i n τ hi hn h hmf
    obtain ⟨n, rfl⟩ : ∃ k, n = k + 1 := ⟨n - 1, by omega⟩
    obtain rfl : i = 13 := by omega
    show wb_X6_noReadings_2 Q (w_X6_noReadings_2 Q n) (nI m) (nI 13) τ
    unfold wb_X6_noReadings_2
    exact z_ifp (by decide) (hq τ h hmf)
  | succ d ih =>
    intro i n τ hi hn h hmf
    obtain ⟨n, rfl⟩ : ∃ k, n = k + 1 := ⟨n - 1, by omega⟩
    show wb_X6_noReadings_2 Q (w_X6_noReadings_2 Q n) (nI m) (nI i) τ
    unfold wb_X6_noReadings_2
    refine z_ifn (nI_ge (a := i) (b := 13) (by omega) (by omega)) ?_
    rw [show (5 : Int32) + nI i = nI (5 + i) by rw [show (5 : Int32) = nI 5 from rfl, nI_add]]
    refine s_sets h hm (by omega) (fun ρ hρ hcf => ?_)
    rintro _ rfl
    rw [show nI i + (1 : Int32) = nI (i + 1) from nI_1 i]
    refine ih (i + 1) n ρ (by omega) (by omega) (z_IM_ext hρ (fun x _ => ?_)) (z_cf_tr hmf hcf)
    rw [show 4 + 18 * m + (5 + i) = 9 + 18 * m + i by omega]
    exact z_frd_s f m i x
theorem s_noRead {f : Nat → Int32} {sv : Nat} {F : Nat → Nat → Int32} {len : Nat} {tx : Nat → Int32} {σ : z_S} {Q : z_S → Prop} {m : Nat} (h : z_IM f sv F len tx σ) (hm : m < 10) (hq : ∀ τ, z_IM (z_frd f m 13) sv F len tx τ → z_cf9 σ τ → Q τ) : w_X6_noReadings (nI m) σ Q := l_noRead hm hq 13 0 400 σ (by omega) (by omega) (z_IM_ext h (fun x _ => z_frd_0 f m x)) (z_cf_rfl σ)
/-- the numbers behind addMeter -/
def z_fadd (f : Nat → Int32) (c : Nat) (par : Int32) : Nat → Int32 := z_fup (z_frd (z_fup (z_fup (z_fup (z_fup (z_fup f (4 + 18 * c + 0) par) (4 + 18 * c + 1) (nI 1)) (4 + 18 * c + 2) (nI 5)) (4 + 18 * c + 3) (nI 10000)) (4 + 18 * c + 4) (nI 1)) c 13) 0 (nI (c + 1))
theorem z_fadd_ne (f : Nat → Int32) {c : Nat} (par : Int32) {x : Nat} (h0 : x ≠ 0) (hx : x < 4 + 18 * c ∨ 4 + 18 * c + 18 ≤ x) : z_fadd f c par x = f x := by
  unfold z_fadd
  rw [z_fup_ne _ _ h0, z_frd_ne _ (by omega), z_fup_ne _ _ (by omega), z_fup_ne _ _ (by omega), z_fup_ne _ _ (by omega), z_fup_ne _ _ (by omega), z_fup_ne _ _ (by omega)]
theorem z_fadd_c (f : Nat → Int32) (c : Nat) (par : Int32) : z_fadd f c par (4 + 18 * c) = par ∧ z_fadd f c par (4 + 18 * c + 1) = nI 1 ∧ z_fadd f c par (4 + 18 * c + 2) = nI 5 ∧ z_fadd f c par (4 + 18 * c + 3) = nI 10000 ∧ z_fadd f c par (4 + 18 * c + 4) = nI 1 ∧ ∀ b, b < 13 → z_fadd f c par (9 + 18 * c + b) = zNONE := by
  unfold z_fadd
  refine ⟨?_, ?_, ?_, ?_, ?_, fun b hb => ?_⟩
  · rw [z_fup_ne _ _ (by omega), z_frd_ne _ (by omega), z_fup_ne _ _ (by omega), z_fup_ne _ _ (by omega), z_fup_ne _ _ (by omega), z_fup_ne _ _ (by omega)]
    exact z_fup_at _ _ _
  · rw [z_fup_ne _ _ (by omega), z_frd_ne _ (by omega), z_fup_ne _ _ (by omega), z_fup_ne _ _ (by omega), z_fup_ne _ _ (by omega)]
    exact z_fup_at _ _ _
  · rw [z_fup_ne _ _ (by omega), z_frd_ne _ (by omega), z_fup_ne _ _ (by omega), z_fup_ne _ _ (by omega)]
    exact z_fup_at _ _ _
  · rw [z_fup_ne _ _ (by omega), z_frd_ne _ (by omega), z_fup_ne _ _ (by omega)]
    exact z_fup_at _ _ _
  · rw [z_fup_ne _ _ (by omega), z_frd_ne _ (by omega)]
    exact z_fup_at _ _ _
  · rw [z_fup_ne _ _ (by omega)]
    exact z_frd_in _ hb
theorem fine_add {f : Nat → Int32} {c : Nat} {par : Int32} (h : z_fine f c) (hc : c < 10) (hp : c = 0 ∧ par = zNONE ∨ ∃ p, p < c ∧ par = nI p) : z_fine (z_fadd f c par) (c + 1) := by
  obtain ⟨g1, g2, g3, g4, g5, g6, g7, g8⟩ := h
  obtain ⟨e0, e1, e2, e3, e4, er⟩ := z_fadd_c f c par
  refine ⟨by omega, z_fup_at _ _ _, by rw [z_fadd_ne f par (by omega) (by omega)]; exact g3, by rw [z_fadd_ne f par (by omega) (by omega)]; exact g4, by rw [z_fadd_ne f par (by omega) (by omega)]; exact g5, fun _ => ?_, fun m m1 m2 => ?_, fun m hm => ?_⟩
  · rcases hp with ⟨rfl, rfl⟩ | ⟨p, hp, -⟩
    · exact e0
    · rw [z_fadd_ne f par (by omega) (by omega)]
      exact g6 (by omega)
  · by_cases e : m = c
    · subst e
      rcases hp with ⟨h0, -⟩ | ⟨p, hp, hpp⟩
      · omega
      · exact ⟨p, hp, by rw [e0]; exact hpp⟩
    · rw [z_fadd_ne f par (by omega) (by omega)]
      exact g7 m m1 (by omega)
  · by_cases e : m = c
    · subst e
      exact ⟨⟨1, by omega, by omega, e1⟩, ⟨10000, by omega, by omega, e3⟩, ⟨1, by omega, by omega, e4⟩, 5, by omega, by omega, e2, fun b hb => Or.inl (er b hb)⟩
    · obtain ⟨a1, a3, a4, d, d1, d2, d3, d4⟩ := g8 m (by omega)
      have ne : ∀ x, 4 + 18 * m ≤ x → x < 4 + 18 * m + 18 → z_fadd f c par x = f x := fun x h1 h2 => z_fadd_ne f par (by omega) (by omega)
      exact ⟨by rw [ne _ (by omega) (by omega)]; exact a1, by rw [ne _ (by omega) (by omega)]; exact a3, by rw [ne _ (by omega) (by omega)]; exact a4, d, d1, d2, by rw [ne _ (by omega) (by omega)]; exact d3, fun b hb => by rw [ne _ (by omega) (by omega)]; exact d4 b hb⟩
theorem s_append29 {f : Nat → Int32} {sv : Nat} {F : Nat → Nat → Int32} {len : Nat} {tx : Nat → Int32} {σ : z_S} {Q : Int32 → z_S → Prop} {c : Nat} {par : Int32} (h : z_IC f sv F len tx σ) (hc : c < 10) (hq : ∀ τ, z_IC (z_fadd f c par) sv F len tx τ → z_mf σ τ → Q (nI c) τ) : w_X4_append_29 Q (nI c) par (nI c) σ := by
  unfold w_X4_append_29
  rw [z_tn (by omega)]
  refine ⟨z_vin hc (by omega), ?_⟩
  rintro _ rfl
  refine ⟨z_vin hc (by omega), ?_⟩
  rintro _ rfl
  refine ⟨z_vin hc (by omega), ?_⟩
  rintro _ rfl
  refine ⟨z_vin hc (by omega), ?_⟩
  rintro _ rfl
  refine ⟨z_vin hc (by omega), ?_⟩
  rintro _ rfl
  have h5 := ic_setc 4 (v := nI 1) (ic_setc 3 (v := nI 10000) (ic_setc 2 (v := nI 5) (ic_setc 1 (v := nI 1) (ic_setc 0 (v := par) h (by omega) hc) (by omega) hc) (by omega) hc) (by omega) hc) (by omega) hc
  refine s_forget h5 hc (fun τ ht hmf => ?_)
  rw [show nI c + (1 : Int32) = nI (c + 1) from nI_1 c]
  rintro _ rfl
  exact hq _ (ic_set0 (v := nI (c + 1)) ht (by omega)) (z_mf_tr (z_mf_tr (z_mf_i (by omega)) (z_mf_tr (z_mf_i (by omega)) (z_mf_tr (z_mf_i (by omega)) (z_mf_tr (z_mf_i (by omega)) (z_mf_i (by omega)))))) (z_mf_tr hmf (z_mf_i (by omega))))
theorem sm_add48 {f : Nat → Int32} {sv : Nat} {F : Nat → Nat → Int32} {len : Nat} {tx : Nat → Int32} {σ : z_S} {Q : Int32 → z_S → Prop} {c : Nat} {par : Int32} (h : z_IM f sv F len tx σ) (hc : c < 10) (hf : f 0 = nI c) (hq : ∀ τ, z_IM (z_fadd f c par) sv F len tx τ → z_cf9 σ τ → Q (nI c) τ) : w_X6_addMeter_48 Q (nI c) par 0 (nI c) σ := by
  unfold w_X6_addMeter_48
  refine s_sets (c := 0) h hc (by omega) (fun τ1 h1 c1 => s_sets (c := 1) (v := nI 1) h1 hc (by omega) (fun τ2 h2 c2 => s_sets (c := 2) (v := nI 5) h2 hc (by omega) (fun τ3 h3 c3 => s_sets (c := 3) (v := nI 10000) h3 hc (by omega) (fun τ4 h4 c4 => s_sets (c := 4) (v := nI 1) h4 hc (by omega) (fun τ5 h5 c5 => s_noRead h5 hc (fun τ6 h6 c6 => ⟨z_vin (i := 0) (by omega) (by omega), z_vin (i := 0) (by omega) (by omega), ?_⟩))))))
  have e0 : zg_i τ6 74 0 = nI c := by
    rw [im_at h6.2.1 (by omega), z_frd_ne _ (by omega), z_fup_ne _ _ (by omega), z_fup_ne _ _ (by omega), z_fup_ne _ _ (by omega), z_fup_ne _ _ (by omega), z_fup_ne _ _ (by omega)]
    exact hf
  rw [show (0 : Int32).toNatClampNeg = 0 from rfl, e0, show nI c + (1 : Int32) = nI (c + 1) from nI_1 c]
  rintro _ rfl
  exact hq _ (im_set (v := nI (c + 1)) h6 (by omega)) (z_cf_tr c1 (z_cf_tr c2 (z_cf_tr c3 (z_cf_tr c4 (z_cf_tr c5 (z_cf_tr c6 (z_cf_i (by omega) (by omega))))))))
theorem op_addMeter {σ : z_S} {K : Int32 → Int32 → z_S → Prop} (a : Int32) (h : z_Inv σ) (hK : ∀ r σ2, z_Inv σ2 → K r r σ2) : w_X5_addMeter a σ (fun r σ1 => w_X6_addMeter a σ1 (fun r2 σ2 => K r r2 σ2)) := by
  obtain ⟨f, c, sv, F, len, tx, hC, hM, hG⟩ := h
  have h10 := hG.1.1
  have hc := hG.1.2.1
  have hcc : ∀ {τ : z_S}, z_IC f sv F len tx τ → zg_i τ 1 0 = nI c := fun ht => by rw [ic_0 ht.2.1 (by omega)]; exact hc
  by_cases hbad : 0 < c ∧ ∀ m, m < c → a ≠ nI m
  · refine z_comb (wC := fun Q => w_X5_addMeter a σ Q) (wM := fun σ1 Q => w_X6_addMeter a σ1 Q) (r := -2000000001) hM hG (fun Q hq => ?_) (fun σ1 h1 Q hq => ?_) hK
    · unfold w_X5_addMeter
      rw [hcc hC]
      exact z_ifn (nI_nle hbad.1 (by omega)) (s_has_n (hcc hC) h10 hbad.2 (z_ifp rfl (hq σ hC (z_mf_rfl σ))))
    · unfold w_X6_addMeter
      rw [show (0 : Int32).toNatClampNeg = 0 from rfl, im_at h1.2.1 (by omega), hc]
      refine ⟨z_vin (i := 0) (by omega) (by omega), ?_⟩
      rintro _ rfl
      exact z_ifn (nI_nle hbad.1 (by omega)) (s_isMeter_n h1.2.1 hc h10 hbad.2 (z_ifp rfl (hq σ1 h1 (z_cf_rfl σ1))))
  · -- the two entries come to the same place
    have hin : c = 0 ∨ ∃ p, p < c ∧ a = nI p := by
      by_cases h0 : c = 0
      · exact Or.inl h0
      · rcases z_cas a c with hy | hn
        · exact Or.inr hy
        · exact absurd ⟨by omega, hn⟩ hbad
    have eC : ∀ Q : Int32 → z_S → Prop, w_X5_addMeter_24 Q a σ → w_X5_addMeter a σ Q := fun Q hq => by
      unfold w_X5_addMeter
      rw [hcc hC]
      rcases hin with h0 | ⟨p, hp, rfl⟩
      · subst h0
        exact z_ifp (by decide) hq
      · exact z_ifn (nI_nle (by omega) (by omega)) (s_has_y (hcc hC) h10 hp (z_ifn (by decide) hq))
    have eM : ∀ (σ1 : z_S) (Q : Int32 → z_S → Prop), z_IM f sv F len tx σ1 → w_X6_addMeter_22 Q a (nI c) σ1 → w_X6_addMeter a σ1 Q := fun σ1 Q h1 hq => by
      unfold w_X6_addMeter
      rw [show (0 : Int32).toNatClampNeg = 0 from rfl, im_at h1.2.1 (by omega), hc]
      refine ⟨z_vin (i := 0) (by omega) (by omega), ?_⟩
      rintro _ rfl
      rcases hin with h0 | ⟨p, hp, rfl⟩
      · subst h0
        exact z_ifp (by decide) hq
      · exact z_ifn (nI_nle (by omega) (by omega)) (s_isMeter_y h1.2.1 hc h10 hp (z_ifn (by decide) hq))
    by_cases h9 : c = 10
    · subst h9
      refine z_comb (wC := fun Q => w_X5_addMeter a σ Q) (wM := fun σ1 Q => w_X6_addMeter a σ1 Q) (r := -2000000004) hM hG (fun Q hq => eC Q ?_) (fun σ1 h1 Q hq => eM σ1 Q h1 ?_) hK
      · unfold w_X5_addMeter_24
        rw [hcc hC]
        exact z_ifn (by decide) (hq σ hC (z_mf_rfl σ))
      · unfold w_X6_addMeter_22
        exact z_ifp rfl (hq σ1 h1 (z_cf_rfl σ1))
    · have hc9 : c < 10 := by omega
      have hpar : ∃ par, (c = 0 ∧ par = zNONE ∨ ∃ p, p < c ∧ par = nI p) ∧ (c = 0 → par = zNONE) ∧ (c ≠ 0 → par = a) := by
        by_cases h0 : c = 0
        · exact ⟨zNONE, Or.inl ⟨h0, rfl⟩, fun _ => rfl, fun q => absurd h0 q⟩
        · rcases hin with q | ⟨p, hp, e⟩
          · exact absurd q h0
          · exact ⟨a, Or.inr ⟨p, hp, e⟩, fun q => absurd q h0, fun _ => rfl⟩
      obtain ⟨par, hp1, hp2, hp3⟩ := hpar
      refine z_comb (wC := fun Q => w_X5_addMeter a σ Q) (wM := fun σ1 Q => w_X6_addMeter a σ1 Q) (r := nI c) hM (z_GD_rec hG (fine_add hG.1 hc9 hp1)) (fun Q hq => eC Q ?_) (fun σ1 h1 Q hq => eM σ1 Q h1 ?_) hK
      · unfold w_X5_addMeter_24
        rw [hcc hC]
        refine z_ifp (nI_lt (b := 10) hc9 (by decide)) (push_IC hC (fun τ ht hmf => ?_))
        unfold w_X4_append
        rw [ic_0 ht.2.1 (by omega), hc]
        rintro _ rfl
        refine z_ifp (nI_lt (b := 10) hc9 (by decide)) (z_ite (fun e => ?_) (fun e => ?_))
        · have h0 : c = 0 := by
            by_cases q : c = 0
            · exact q
            · exact absurd e (nI_ne0 (by omega) (by omega))
          have := hp2 h0
          subst this
          exact s_append29 ht hc9 (fun ρ hr hmf2 => hq ρ hr (z_mf_tr hmf hmf2))
        · have h0 : c ≠ 0 := fun q => e (by rw [q]; rfl)
          have := hp3 h0
          subst this
          exact s_append29 ht hc9 (fun ρ hr hmf2 => hq ρ hr (z_mf_tr hmf hmf2))
      · unfold w_X6_addMeter_22
        refine z_ifn (fun e => h9 ((nI_eq (b := 10) (by omega) (by decide)).mp e)) (saves_IM hG.2.1 h1 (fun τ ht hcf => z_ite (fun e => ?_) (fun e => ?_)))
        · have h0 : c = 0 := by
            by_cases q : c = 0
            · exact q
            · exact absurd e (nI_ne0 (by omega) (by omega))
          have := hp2 h0
          subst this
          exact sm_add48 ht hc9 hc (fun ρ hr hcf2 => hq ρ hr (z_cf_tr hcf hcf2))
        · have h0 : c ≠ 0 := fun q => e (by rw [q]; rfl)
          have := hp3 h0
          subst this
          exact sm_add48 ht hc9 hc (fun ρ hr hcf2 => hq ρ hr (z_cf_tr hcf hcf2))
