/-! the reference's whole texts; textFault, load -/
theorem l_raM {c sv len : Nat} {F : Nat → Nat → Int32} {tx : Nat → Int32} {sp : Nat → Nat} {σ : z_S} {Q : Int32 → z_S → Prop} (real : Bool) (hl : len ≤ 120) (hb : ∀ j, j < len → ∃ b, b < 256 ∧ tx j = nI b) : ∀ d p n f k, len < z_bs tx len p + 1 + 6 * d → p ≤ len → d < n → z_fine f c → (∀ m, m < c → sp m = z_spn f m) → ∀ τ, z_IM f sv F len tx τ → z_cf9 σ τ → zg_i τ 73 9 = nI (z_bs tx len p) → zg_i τ 73 11 = nI k →
    (∀ E, z_aft tx len (z_par tx len c sp d) p = .inl E → ∀ ρ f', (real = false → f' = f) → z_IM f' sv F len tx ρ → z_cf9 σ ρ → zg_i ρ 73 9 = nI E → Q 0 ρ) → (∀ l, z_aft tx len (z_par tx len c sp d) p = .inr l → ∀ ρ, z_IM (z_appb real f l) sv F len tx ρ → z_cf9 σ ρ → zg_i ρ 73 11 = nI (z_cn k l) → Q 1 ρ) → w_X6_readsAll_21 Q n (z_b2 real) 1 (if z_bs tx len p < len then tx (z_bs tx len p) else -1) τ := by
  intro d
  induction d with
  | zero =>
    intro p n f k h1 h2 hn hf hsp τ hIM hcf hpos hk hF hS
    obtain ⟨n, rfl⟩ : ∃ k, n = k + 1 := ⟨n - 1, by omega⟩
    show wb_X6_readsAll_21 Q (w_X6_readsAll_21 Q n) _ _ _ _
    unfold wb_X6_readsAll_21
    rw [if_neg (show ¬ z_bs tx len p < len by omega)]
    exact z_ifn (by decide) (z_ifp rfl ⟨Or.inr rfl, hS [] (if_pos (by omega)) τ hIM hcf hk⟩)
  | succ d ih =>
    intro p n f k h1 h2 hn hf hsp τ hIM hcf hpos hk hF hS
    obtain ⟨n, rfl⟩ : ∃ k, n = k + 2 := ⟨n - 2, by omega⟩
    show wb_X6_readsAll_21 Q (w_X6_readsAll_21 Q (n + 1)) _ _ _ _
    unfold wb_X6_readsAll_21
    have hb' := z_bs_b (tx := tx) h2
    refine z_ifn (by decide) ?_
    by_cases hend : z_bs tx len p < len
    · rw [if_pos hend]
      obtain ⟨b, hb256, eb⟩ := hb (z_bs tx len p) hend
      have stop : ∀ ρ E f', z_aft tx len (z_par tx len c sp (d + 1)) p = .inl E → z_bs tx len E = E → E ≤ len → (real = false → f' = f) → z_IM f' sv F len tx ρ → z_cf9 σ ρ → zg_i ρ 73 9 = nI E → w_X6_readsAll_51 (w_X6_readsAll_21 Q (n + 1)) Q (z_b2 real) ρ := by
        intro ρ E f' ea hE hE2 hff hIM' hcf' hpos'
        unfold w_X6_readsAll_51 w_X6_readsAll_52
        refine s_here hl (z_tm_im hIM') hpos' hE2 (fun ρ2 g2 k2 => ?_)
        rw [hE] at k2
        show wb_X6_readsAll_21 Q (w_X6_readsAll_21 Q n) _ _ _ _
        unfold wb_X6_readsAll_21
        exact z_ifp rfl ⟨Or.inl rfl, hF E ea ρ2 f' hff (z_IM_ms hIM' (z_p9_ms g2)) (z_cf_tr hcf' (z_ms_cf (z_p9_ms g2))) k2⟩
      refine z_ifn (fun q => ?_) (s_sgM (by decide) hl (z_tm_im hIM) hpos hb'.2 (fun s1 τ2 g2 k2 => ?_) (fun s1 τ2 g2 k2 => ?_))
      · rw [eb] at q
        have := nI_pos (n := b) (by omega)
        rw [q] at this
        exact this (by decide)
      · have s2 : tx (z_bs tx len p) = 59 := by
          have := s1.2
          rw [z_bs_i h2] at this
          exact this
        rw [z_bs_i h2] at k2
        have ea : z_aft tx len (z_par tx len c sp (d + 1)) p = z_par tx len c sp (d + 1) (z_bs tx len p + 1) := (if_neg (by omega)).trans (if_pos s2)
        have hIM2 := z_IM_ms hIM (z_p9_ms g2)
        have hcf2 := z_cf_tr hcf (z_ms_cf (z_p9_ms g2))
        refine z_ifn (by decide) (rm_ent real hl hb hIM2 hf hsp k2 (show z_bs tx len p + 1 ≤ len by omega) (by rw [g2.1 73 11 (by omega)]; exact hk) (fun E e ρ im cf kE => ?_) (fun e p' he ρ im cf k9 k11 => ?_))
        · exact z_ifp rfl (stop ρ E f (ea.trans (z_par_l e)) (z_ent_i (by omega) e) (z_ent_l (by omega) e) (fun _ => rfl) im (z_cf_tr hcf2 cf) kE)
        · obtain ⟨ok, a2, a3⟩ := z_ent_r (show z_bs tx len p + 1 ≤ len by omega) he
          have hb2 := z_bs_b (tx := tx) a3
          have ea2 := ea.trans (z_par_r (d := d) he)
          rw [ea2] at hF hS
          have hcf3 := z_cf_tr hcf2 cf
          refine z_ifn (by decide) ?_
          unfold w_X6_readsAll_52
          refine s_here hl (z_tm_im im) k9 a3 (fun ρ2 g3 k3 => ?_)
          have hf2 : z_fine (z_updb real f e) c := by
            cases real with
            | true => exact z_upd_f hf hsp ok
            | false => exact hf
          have hsp2 : ∀ m, m < c → sp m = z_spn (z_updb real f e) m := by
            cases real with
            | true => exact fun m hm => (hsp m hm).trans (z_upd_s ok.2.1 m).symm
            | false => exact hsp
          refine ih p' (n + 1) (z_updb real f e) (z_c1 k e.2.2) (by omega) a3 (by omega) hf2 hsp2 ρ2 (z_IM_ms im (z_p9_ms g3)) (z_cf_tr hcf3 (z_ms_cf (z_p9_ms g3))) k3 (by rw [g3.1 73 11 (by omega)]; exact k11) (fun E hE ρ3 f' hff i3 c3 q3 => ?_) (fun l hl' ρ3 i3 c3 q3 => ?_)
          · refine hF E (by rw [hE]; rfl) ρ3 f' (fun hr => ?_) i3 c3 q3
            subst hr
            exact hff rfl
          · exact hS (e :: l) (by rw [hl']; rfl) ρ3 i3 c3 q3
      · have s2 : ¬ tx (z_bs tx len p) = 59 := fun q => s1 (by
          refine ⟨?_, ?_⟩
          · rw [z_bs_i h2]
            exact hend
          · rw [z_bs_i h2]
            exact q)
        rw [z_bs_i h2] at k2
        exact z_ifp rfl (stop τ2 _ f ((if_neg (by omega)).trans (if_neg s2)) (z_bs_i h2) hb'.2 (fun _ => rfl) (z_IM_ms hIM (z_p9_ms g2)) (z_cf_tr hcf (z_ms_cf (z_p9_ms g2))) k2)
    · rw [if_neg hend]
      exact z_ifp rfl ⟨Or.inr rfl, hS [] (if_pos (by omega)) τ hIM hcf hk⟩
theorem s_raM {f : Nat → Int32} {c sv len : Nat} {F : Nat → Nat → Int32} {tx : Nat → Int32} {sp : Nat → Nat} {σ : z_S} {Q : Int32 → z_S → Prop} (real : Bool) (hl : len ≤ 120) (hb : ∀ j, j < len → ∃ b, b < 256 ∧ tx j = nI b) (hIM : z_IM f sv F len tx σ) (hf : z_fine f c) (hsp : ∀ m, m < c → sp m = z_spn f m)
    (hF : ∀ E, z_par tx len c sp 21 0 = .inl E → ∀ ρ f', (real = false → f' = f) → z_IM f' sv F len tx ρ → z_cf9 σ ρ → zg_i ρ 73 9 = nI E → Q 0 ρ) (hS : ∀ l, z_par tx len c sp 21 0 = .inr l → ∀ ρ, z_IM (z_appb real f l) sv F len tx ρ → z_cf9 σ ρ → zg_i ρ 73 11 = nI (z_cn 0 l) → Q 1 ρ) : w_X6_readsAll (z_b2 real) σ Q := by
  unfold w_X6_readsAll
  rintro _ rfl _ rfl
  have ms : z_ms σ (zs_i (zs_i σ 73 9 0) 73 11 0) := ⟨fun p hp => by rw [zs_i_ne (by omega), zs_i_ne (by omega)], by rw [zs_i_nej (by decide), zs_i_nej (by decide)], by rw [zs_i_nej (by decide), zs_i_nej (by decide)], rfl, rfl⟩
  have hIM1 := z_IM_ms hIM ms
  have hcf1 := z_ms_cf ms
  have p0 : zg_i (zs_i (zs_i σ 73 9 0) 73 11 0) 73 9 = nI 0 := by
    rw [zs_i_nej (by decide), zs_i_at]
    exact nI_0.symm
  have n0 : zg_i (zs_i (zs_i σ 73 9 0) 73 11 0) 73 11 = nI 0 := by
    rw [zs_i_at]
    exact nI_0.symm
  refine rm_ent real hl hb hIM1 hf hsp p0 (Nat.zero_le len) n0 (fun E e ρ im cf kE => ?_) (fun e p' he ρ im cf k9 k11 => ?_)
  · refine s_here hl (z_tm_im im) kE (z_ent_l (Nat.zero_le len) e) (fun ρ2 g2 k2 => ?_)
    rw [z_ent_i (Nat.zero_le len) e] at k2
    show wb_X6_readsAll_21 Q (w_X6_readsAll_21 Q 399) _ _ _ _
    unfold wb_X6_readsAll_21
    exact z_ifp rfl ⟨Or.inl rfl, hF E (z_par_l e) ρ2 f (fun _ => rfl) (z_IM_ms im (z_p9_ms g2)) (z_cf_tr hcf1 (z_cf_tr cf (z_ms_cf (z_p9_ms g2)))) k2⟩
  · obtain ⟨ok, a2, a3⟩ := z_ent_r (Nat.zero_le len) he
    have hb2 := z_bs_b (tx := tx) a3
    have ea := z_par_r (d := 20) he
    rw [ea] at hF hS
    refine s_here hl (z_tm_im im) k9 a3 (fun ρ2 g3 k3 => ?_)
    have hf2 : z_fine (z_updb real f e) c := by
      cases real with
      | true => exact z_upd_f hf hsp ok
      | false => exact hf
    have hsp2 : ∀ m, m < c → sp m = z_spn (z_updb real f e) m := by
      cases real with
      | true => exact fun m hm => (hsp m hm).trans (z_upd_s ok.2.1 m).symm
      | false => exact hsp
    refine l_raM (σ := σ) (c := c) (sp := sp) real hl hb 20 p' 400 (z_updb real f e) (z_c1 0 e.2.2) (by omega) a3 (by omega) hf2 hsp2 ρ2 (z_IM_ms im (z_p9_ms g3)) (z_cf_tr hcf1 (z_cf_tr cf (z_ms_cf (z_p9_ms g3)))) k3 (by rw [g3.1 73 11 (by omega)]; exact k11) (fun E hE ρ3 f' hff i3 c3 q3 => ?_) (fun l hl' ρ3 i3 c3 q3 => ?_)
    · refine hF E (by rw [hE]; rfl) ρ3 f' (fun hr => ?_) i3 c3 q3
      subst hr
      exact hff rfl
    · exact hS (e :: l) (by rw [hl']; rfl) ρ3 i3 c3 q3
theorem push_IC2 {f : Nat → Int32} {sv : Nat} {F : Nat → Nat → Int32} {len : Nat} {tx : Nat → Int32} {σ : z_S} {Q : z_S → Prop} (h : z_IC f sv F len tx σ) (hq : ∀ τ, z_IC f (min sv 4 + 1) (z_F1 f sv F) len tx τ → z_mf σ τ → (∀ p, p < 81 → p ≠ 27 → zg_i τ p = zg_i σ p) → Q τ) : w_X2_push σ Q := by
  obtain ⟨⟨a, ha⟩, h2, h3, h4, h5⟩ := h
  have hsv : sv ≤ 5 := Nat.le_trans ha.1 ha.2.1
  refine s_push ha (fun τ hτ => ?_)
  obtain ⟨p1, p2, p3, p4, -⟩ := hτ
  refine hq τ ⟨p3, fun x hx => ?_, fun j x hj hx => ?_, by rw [p4 68 (by omega) (by omega)]; exact h4, fun j hj => by rw [p4 69 (by omega) (by omega)]; exact h5 j hj⟩ ⟨p4 73 (by omega) (by omega), p4 74 (by omega) (by omega), p4 80 (by omega) (by omega)⟩ p4
  · rw [← h2 x hx]
    exact zv_eq (fun p g1 g2 => p4 p (by omega) (by omega)) hx
  · unfold z_F1
    by_cases hj4 : j < min sv 4
    · rw [if_pos hj4, p1 j x hx hj4]
      exact h3 _ x (by split <;> omega) hx
    · rw [if_neg hj4, show j = min sv 4 by omega, p2 x hx]
      exact h2 x hx
theorem z_nNONE {n : Nat} (hn : n < 2 ^ 31) : nI n ≠ -2000000000 := fun q => by
  have := nI_pos hn
  rw [q] at this
  exact this (by decide)
theorem op_textFault {σ : z_S} {K : Int32 → Int32 → z_S → Prop} (h : z_Inv σ) (hK : ∀ r σ2, z_Inv σ2 → K r r σ2) : w_X5_textFault σ (fun r σ1 => w_X6_textFault σ1 (fun r2 σ2 => K r r2 σ2)) := by
  obtain ⟨f, c, sv, F, len, tx, hC, hM, hG⟩ := h
  have hl := hG.2.2.2.1
  have hb := hG.2.2.2.2
  rcases z_par_c (tx := tx) (len := len) (c := c) (sp := z_spn f) 21 0 (Nat.zero_le len) with ⟨E, eE, hE⟩ | ⟨l, el, hok⟩
  · refine z_comb (wC := fun Q => w_X5_textFault σ Q) (wM := fun σ1 Q => w_X6_textFault σ1 Q) (r := nI E) hM hG (fun Q hq => ?_) (fun σ1 h1 Q hq => ?_) hK
    · unfold w_X5_textFault
      refine s_parC (sp := z_spn f) hl hb ⟨hC.2.1, hG.1⟩ ⟨hC.2.2.2.1, hC.2.2.2.2⟩ (fun _ _ => rfl) (fun E' e' ρ hρ => ?_) (fun l e' => by rw [eE] at e'; cases e')
      rw [eE] at e'
      cases e'
      exact hq ρ (z_IC_cs hC hρ) (z_cs_mf hρ)
    · unfold w_X6_textFault
      refine s_raM (sp := z_spn f) false hl hb h1 hG.1 (fun _ _ => rfl) (fun E' e' ρ f' hff im cf k9 => ?_) (fun l e' => by rw [eE] at e'; cases e')
      rw [eE] at e'
      cases e'
      rw [hff rfl] at im
      refine z_ifp rfl ?_
      rw [k9]
      exact hq ρ im cf
  · refine z_comb (wC := fun Q => w_X5_textFault σ Q) (wM := fun σ1 Q => w_X6_textFault σ1 Q) (r := -2000000000) hM hG (fun Q hq => ?_) (fun σ1 h1 Q hq => ?_) hK
    · unfold w_X5_textFault
      exact s_parC (sp := z_spn f) hl hb ⟨hC.2.1, hG.1⟩ ⟨hC.2.2.2.1, hC.2.2.2.2⟩ (fun _ _ => rfl) (fun E' e' => by rw [el] at e'; cases e') (fun l' e' _ ρ hρ _ _ => hq ρ (z_IC_cs hC hρ) (z_cs_mf hρ))
    · unfold w_X6_textFault
      refine s_raM (sp := z_spn f) false hl hb h1 hG.1 (fun _ _ => rfl) (fun E' e' => by rw [el] at e'; cases e') (fun l' e' ρ im cf _ => ?_)
      rw [z_appb_f] at im
      exact z_ifn (by decide) (hq ρ im cf)
theorem op_load {σ : z_S} {K : Int32 → Int32 → z_S → Prop} (h : z_Inv σ) (hK : ∀ r σ2, z_Inv σ2 → K r r σ2) : w_X5_load σ (fun r σ1 => w_X6_load σ1 (fun r2 σ2 => K r r2 σ2)) := by
  obtain ⟨f, c, sv, F, len, tx, hC, hM, hG⟩ := h
  have hl := hG.2.2.2.1
  have hb := hG.2.2.2.2
  rcases z_par_c (tx := tx) (len := len) (c := c) (sp := z_spn f) 21 0 (Nat.zero_le len) with ⟨E, eE, hE⟩ | ⟨l, el, hok⟩
  · refine z_comb (wC := fun Q => w_X5_load σ Q) (wM := fun σ1 Q => w_X6_load σ1 Q) (r := -2000000003) hM hG (fun Q hq => ?_) (fun σ1 h1 Q hq => ?_) hK
    · unfold w_X5_load
      refine s_parC (sp := z_spn f) hl hb ⟨hC.2.1, hG.1⟩ ⟨hC.2.2.2.1, hC.2.2.2.2⟩ (fun _ _ => rfl) (fun E' e' ρ hρ => ?_) (fun l e' => by rw [eE] at e'; cases e')
      rw [eE] at e'
      cases e'
      exact z_ifn (z_nNONE (by omega)) (hq ρ (z_IC_cs hC hρ) (z_cs_mf hρ))
    · unfold w_X6_load
      refine s_raM (sp := z_spn f) false hl hb h1 hG.1 (fun _ _ => rfl) (fun E' e' ρ f' hff im cf k9 => ?_) (fun l e' => by rw [eE] at e'; cases e')
      rw [hff rfl] at im
      exact z_ifp rfl (hq ρ im cf)
  · have hsv := hG.2.1
    refine z_comb (wC := fun Q => w_X5_load σ Q) (wM := fun σ1 Q => w_X6_load σ1 Q) (r := nI (z_cn 0 l)) hM (z_GD_rec hG (z_app_f l f hG.1 (fun _ _ => rfl) hok)) (fun Q hq => ?_) (fun σ1 h1 Q hq => ?_) hK
    · unfold w_X5_load
      refine s_parC (sp := z_spn f) hl hb ⟨hC.2.1, hG.1⟩ ⟨hC.2.2.2.1, hC.2.2.2.2⟩ (fun _ _ => rfl) (fun E' e' => by rw [el] at e'; cases e') (fun l' e' hlen ρ hρ k5 kel => ?_)
      rw [el] at e'
      cases e'
      refine z_ifp rfl (push_IC2 (z_IC_cs hC hρ) (fun τ ht hmf hp => ?_))
      unfold w_X3_apply
      have := l_apC (Q := Q) (σ := σ) (sp := z_spn f) l 0 0 400 (by omega) (by omega) hok f τ ht hG.1 (fun _ _ => rfl) (z_mf_tr (z_cs_mf hρ) hmf) (by rw [hp 68 (by omega) (by omega), k5, Nat.zero_add]) (z_el_eq (fun p p1 p2 => hp p (by omega) (by omega)) l 0 kel) (fun κ hκ hm => hq κ hκ hm)
      rw [nI_0] at this
      exact this
    · unfold w_X6_load
      refine s_raM (sp := z_spn f) false hl hb h1 hG.1 (fun _ _ => rfl) (fun E' e' => by rw [el] at e'; cases e') (fun l' e' ρ im cf _ => ?_)
      rw [z_appb_f] at im
      refine z_ifn (by decide) (saves_IM hsv im (fun τ ht hcf => ?_))
      refine s_raM (sp := z_spn f) true hl hb ht hG.1 (fun _ _ => rfl) (fun E' e' => by rw [el] at e'; cases e') (fun l2 e2 ρ2 im2 cf2 k11 => ?_)
      rw [el] at e2
      cases e2
      rw [z_appb_t] at im2
      rw [k11]
      exact hq ρ2 im2 (z_cf_tr cf (z_cf_tr hcf cf2))
