/-! the reference reads -/
def z_p9 (σ τ : z_S) : Prop := (∀ p x, ¬ (p = 73 ∧ (x = 9 ∨ x = 10)) → zg_i τ p x = zg_i σ p x) ∧ zg_r τ = zg_r σ ∧ zg_n τ = zg_n σ
theorem z_p9_rfl (σ : z_S) : z_p9 σ σ := ⟨fun _ _ _ => rfl, rfl, rfl⟩
theorem z_p9_tr {σ τ ρ : z_S} (h1 : z_p9 σ τ) (h2 : z_p9 τ ρ) : z_p9 σ ρ := ⟨fun p x h => (h2.1 p x h).trans (h1.1 p x h), h2.2.1.trans h1.2.1, h2.2.2.trans h1.2.2⟩
theorem z_p9_i {σ : z_S} {y : Nat} {v : Int32} (hy : y = 9 ∨ y = 10) : z_p9 σ (zs_i σ 73 y v) := ⟨fun p x h => by rw [zg_i_si, if_neg (by omega)], rfl, rfl⟩
theorem z_p9_ms {σ τ : z_S} (h : z_p9 σ τ) : z_ms σ τ := ⟨fun p hp => funext fun x => h.1 p x (by omega), h.1 73 1 (by omega), h.1 73 8 (by omega), h.2.1, h.2.2⟩
def z_tm (len : Nat) (tx : Nat → Int32) (σ : z_S) : Prop := zg_i σ 73 8 = nI len ∧ ∀ j, j < 120 → zg_i σ 80 j = tx j
theorem z_tm_p9 {len : Nat} {tx : Nat → Int32} {σ τ : z_S} (h : z_tm len tx σ) (hc : z_p9 σ τ) : z_tm len tx τ := ⟨by rw [hc.1 73 8 (by omega)]; exact h.1, fun j hj => by rw [hc.1 80 j (by omega)]; exact h.2 j hj⟩
theorem z_tm_im {f : Nat → Int32} {sv : Nat} {F : Nat → Nat → Int32} {len : Nat} {tx : Nat → Int32} {σ : z_S} (h : z_IM f sv F len tx σ) : z_tm len tx σ := ⟨h.2.2.2.1, h.2.2.2.2⟩
theorem s_h38 {len p : Nat} {tx : Nat → Int32} {σ : z_S} {Q : Int32 → z_S → Prop} (hl : len ≤ 120) (ht : z_tm len tx σ) (hp : zg_i σ 73 9 = nI p) (h : p ≤ len) (hq : Q (if p < len then tx p else -1) σ) : w_X6_here_38 Q σ := by
  unfold w_X6_here_38
  rw [hp, ht.1]
  by_cases e : p < len
  · rw [if_pos e] at hq
    rw [z_tn (by omega), ht.2 p (by omega)]
    exact z_ifn (nI_ge e (by omega)) ⟨z_vin (by omega) (by omega), hq⟩
  · rw [if_neg e] at hq
    exact z_ifp (nI_le (by omega) (by omega)) hq
theorem l_skM {len : Nat} {tx : Nat → Int32} {σ : z_S} {Q : Int32 → z_S → Prop} (hl : len ≤ 120) (ht : z_tm len tx σ) : ∀ d p n, p + d = len → d < n → ∀ τ, z_p9 σ τ → zg_i τ 73 9 = nI p → (∀ ρ, z_p9 σ ρ → zg_i ρ 73 9 = nI (z_sk tx len d p) → Q (if z_sk tx len d p < len then tx (z_sk tx len d p) else -1) ρ) → w_X6_here_0 Q n τ := by
  intro d
  induction d with
  | zero =>
    intro p n hp hn τ hτ hpos hq
    obtain ⟨n, rfl⟩ : ∃ k, n = k + 1 := ⟨n - 1, by omega⟩
    show wb_X6_here_0 Q (w_X6_here_0 Q n) _
    unfold wb_X6_here_0
    refine z_ifp ?_ (s_h38 hl (z_tm_p9 ht hτ) hpos (by omega) (hq τ hτ hpos))
    rw [hpos, (z_tm_p9 ht hτ).1]
    exact nI_le (by omega) (by omega)
  | succ d ih =>
    intro p n hp hn τ hτ hpos hq
    obtain ⟨n, rfl⟩ : ∃ k, n = k + 1 := ⟨n - 1, by omega⟩
    show wb_X6_here_0 Q (w_X6_here_0 Q n) _
    unfold wb_X6_here_0
    have hc := z_tm_p9 ht hτ
    have hle : ¬ zg_i τ 73 8 ≤ zg_i τ 73 9 := by
      rw [hpos, hc.1]
      exact nI_ge (by omega) (by omega)
    refine z_ifn hle ?_
    rw [hpos, z_tn (by omega), hc.2 p (by omega)]
    refine ⟨z_vin (by omega) (by omega), ?_⟩
    by_cases e : tx p = 32
    · refine z_ifp e ?_
      rintro _ rfl
      rw [nI_1]
      have e2 : z_sk tx len (d + 1) p = z_sk tx len d (p + 1) := if_pos ⟨by omega, e⟩
      rw [e2] at hq
      exact ih (p + 1) n (by omega) (by omega) _ (z_p9_tr hτ (z_p9_i (by omega))) zs_i_at hq
    · have e2 : z_sk tx len (d + 1) p = p := if_neg (fun q => e q.2)
      rw [e2] at hq
      exact z_ifn e (s_h38 hl hc hpos (by omega) (hq τ hτ hpos))
theorem s_here {len p : Nat} {tx : Nat → Int32} {σ : z_S} {Q : Int32 → z_S → Prop} (hl : len ≤ 120) (ht : z_tm len tx σ) (hp : zg_i σ 73 9 = nI p) (h : p ≤ len) (hq : ∀ τ, z_p9 σ τ → zg_i τ 73 9 = nI (z_bs tx len p) → Q (if z_bs tx len p < len then tx (z_bs tx len p) else -1) τ) : w_X6_here σ Q := by
  unfold w_X6_here
  exact l_skM hl ht (len - p) p 400 (by omega) (by omega) σ (z_p9_rfl σ) hp hq
theorem s_sgM {len p : Nat} {tx : Nat → Int32} {σ : z_S} {Q : Int32 → z_S → Prop} {code : Int32} (hc : code ≠ -1) (hl : len ≤ 120) (ht : z_tm len tx σ) (hp : zg_i σ 73 9 = nI p) (h : p ≤ len) (h1 : z_sign tx len code p → ∀ τ, z_p9 σ τ → zg_i τ 73 9 = nI (z_bs tx len p + 1) → Q 1 τ) (h0 : ¬ z_sign tx len code p → ∀ τ, z_p9 σ τ → zg_i τ 73 9 = nI (z_bs tx len p) → Q 0 τ) : w_X6_sign code σ Q := by
  unfold w_X6_sign
  refine s_here hl ht hp h (fun τ hτ hpos => ?_)
  have no : ¬ z_sign tx len code p → w_X6_sign_13 Q (0 : Int32) τ := by
    intro g
    unfold w_X6_sign_13 w_X6_sign_28
    refine z_ifp rfl ?_
    rintro _ rfl
    refine ⟨Or.inl rfl, h0 g _ (z_p9_tr hτ (z_p9_i (by omega))) ?_⟩
    rw [zs_i_at, hpos, Int32.add_zero]
  by_cases hq : z_bs tx len p < len
  · rw [if_pos hq]
    by_cases e : tx (z_bs tx len p) = code
    · refine z_ifp e ?_
      unfold w_X6_sign_13 w_X6_sign_28
      refine z_ifn (by decide) ?_
      rintro _ rfl
      rw [hpos, nI_1]
      exact ⟨Or.inr rfl, h1 ⟨hq, e⟩ _ (z_p9_tr hτ (z_p9_i (by omega))) zs_i_at⟩
    · exact z_ifn e (no (fun g => e g.2))
  · rw [if_neg hq]
    exact z_ifn (fun e => hc e.symm) (no (fun g => hq g.1))
theorem l_rnM {len q K : Nat} {x1 x2 : Int32} {tx : Nat → Int32} {τ : z_S} {Q : Int32 → z_S → Prop} (hl : len ≤ 120) (hb : ∀ j, j < len → ∃ b, b < 256 ∧ tx j = nI b) (hc : z_tm len tx τ) (hpos : zg_i τ 73 9 = nI q) (hx2 : ¬ x2 < 0) (hq : w_X6_readsNumber_80 Q x1 (nI (q + K)) (nI (z_vn tx q (min K 7))) τ) : ∀ d j n, q + j + d = len → j + z_dc tx len d (q + j) = K → d < n → w_X6_readsNumber_13 Q n x1 x2 (nI (q + j)) (nI (z_vn tx q (min j 7))) τ := by
  intro d
  induction d with
  | zero =>
    intro j n hj hK hn
    obtain ⟨n, rfl⟩ : ∃ k, n = k + 1 := ⟨n - 1, by omega⟩
    show wb_X6_readsNumber_13 Q (w_X6_readsNumber_13 Q n) _ _ _ _ _
    unfold wb_X6_readsNumber_13
    have hK : j = K := hK
    subst hK
    refine z_ifn hx2 (z_ifp ?_ hq)
    rw [hc.1]
    exact nI_le (by omega) (by omega)
  | succ d ih =>
    intro j n hj hK hn
    obtain ⟨n, rfl⟩ : ∃ k, n = k + 1 := ⟨n - 1, by omega⟩
    show wb_X6_readsNumber_13 Q (w_X6_readsNumber_13 Q n) _ _ _ _ _
    unfold wb_X6_readsNumber_13
    rw [hc.1, z_tn (by omega), hc.2 (q + j) (by omega)]
    refine z_ifn hx2 (z_ifn (nI_ge (by omega) (by omega)) ⟨z_vin (by omega) (by omega), ?_⟩)
    obtain ⟨b, hb256, eb⟩ := hb (q + j) (by omega)
    have stop : z_dc tx len (d + 1) (q + j) = 0 → w_X6_readsNumber_80 Q x1 (nI (q + j)) (nI (z_vn tx q (min j 7))) τ := by
      intro e
      rw [e, Nat.add_zero] at hK
      subst hK
      exact hq
    by_cases hd : (48 : Int32) ≤ tx (q + j) ∧ tx (q + j) ≤ (57 : Int32)
    · have e : z_dc tx len (d + 1) (q + j) = z_dc tx len d (q + j + 1) + 1 := if_pos ⟨by omega, hd.1, hd.2⟩
      rw [e] at hK
      have hbb : 48 ≤ b ∧ b ≤ 57 := by
        rw [eb] at hd
        exact ⟨(nI_leI (a := 48) (by omega) (by omega)).mp hd.1, (nI_leI (b := 57) (by omega) (by omega)).mp hd.2⟩
      have go : ∀ y, y = nI (z_vn tx q (min (j + 1) 7)) → w_X6_readsNumber_72 (w_X6_readsNumber_13 Q n) Q x1 x2 (nI (q + j)) y τ := by
        rintro _ rfl
        unfold w_X6_readsNumber_72
        rintro _ rfl
        rw [nI_1]
        exact ih (j + 1) n (by omega) (by rw [show q + (j + 1) = q + j + 1 by omega]; omega) (by omega)
      have hin : ∀ Q2 : Int32 → z_S → Prop, Q2 1 τ → w_X6_in (tx (q + j)) (48 : Int32) (57 : Int32) τ Q2 := by
        intro Q2 g
        rw [eb]
        exact s_in_y (lo := 48) (hi := 57) (by omega) hbb.1 hbb.2 g
      refine hin _ (z_ifn (by decide) ?_)
      rw [hpos, nI_sub (by omega), Nat.add_sub_cancel_left, hc.2 (q + j) (by omega)]
      by_cases h7 : 7 ≤ j
      · refine z_ifp (nI_le (a := 7) h7 (by omega)) (go _ ?_)
        rw [show min j 7 = 7 by omega, show min (j + 1) 7 = 7 by omega]
      · refine z_ifn (nI_ge (b := 7) (by omega) (by omega)) ⟨z_vin (by omega) (by omega), go _ ?_⟩
        rw [show min j 7 = j by omega, show min (j + 1) 7 = j + 1 by omega, Int32.mul_comm]
        exact z_vn_s hd.1 hd.2 ⟨b, hb256, eb⟩
    · have hin : ∀ Q2 : Int32 → z_S → Prop, Q2 0 τ → w_X6_in (tx (q + j)) (48 : Int32) (57 : Int32) τ Q2 := by
        intro Q2 g
        refine s_in_n (lo := 48) (hi := 57) (by omega) (by omega) (fun i i1 i2 ei => hd ?_) g
        rw [ei]
        exact ⟨nI_le (a := 48) i1 (by omega), nI_le (b := 57) i2 (by omega)⟩
      exact hin _ (z_ifp rfl (stop (if_neg (fun g => hd g.2))))
theorem z_lep {v B : Nat} (hv : v < 2 ^ 31) (hB : B < 2 ^ 31) : nI v ≤ nI B - 1 ↔ v < B := by
  cases B with
  | zero =>
    refine ⟨fun h => ?_, fun h => absurd h (Nat.not_lt_zero v)⟩
    have := nI_pos hv
    exact absurd (Int32.lt_of_le_of_lt h (show nI 0 - 1 < 0 by decide)) this
  | succ B =>
    rw [nI_pred, nI_leI hv (by omega)]
    omega
theorem s_rnM {len p B : Nat} {x1 : Int32} {tx : Nat → Int32} {σ : z_S} {Q : Int32 → z_S → Prop} (hl : len ≤ 120) (hb : ∀ j, j < len → ∃ b, b < 256 ∧ tx j = nI b) (ht : z_tm len tx σ) (hx : x1 = nI B - 1) (hB : B < 2 ^ 31) (hp : zg_i σ 73 9 = nI p) (h : p ≤ len) (h1 : ∀ v p', z_num tx len p B = some (v, p') → ∀ τ, z_p9 σ τ → zg_i τ 73 9 = nI p' → zg_i τ 73 10 = nI v → Q 1 τ) (h0 : z_num tx len p B = none → ∀ τ, z_p9 σ τ → zg_i τ 73 9 = nI (z_bs tx len p) → Q 0 τ) : w_X6_readsNumber x1 σ Q := by
  subst hx
  unfold w_X6_readsNumber
  refine s_here hl ht hp h (fun τ hτ hpos => ?_)
  rintro _ rfl
  rw [hpos]
  have hc := z_tm_p9 ht hτ
  have hbq := z_bs_b (tx := tx) h
  have hkd := z_dc_b tx len (len - z_bs tx len p) (z_bs tx len p)
  have fin : w_X6_readsNumber_80 Q (nI B - 1) (nI (z_bs tx len p + z_dc tx len (len - z_bs tx len p) (z_bs tx len p))) (nI (z_vn tx (z_bs tx len p) (min (z_dc tx len (len - z_bs tx len p) (z_bs tx len p)) 7))) τ := by
    unfold z_num at h1 h0
    generalize z_dc tx len (len - z_bs tx len p) (z_bs tx len p) = k at h1 h0 hkd ⊢
    generalize z_bs tx len p = q at h1 h0 hkd hbq hpos ⊢
    unfold w_X6_readsNumber_80
    rw [hpos, nI_sub (by omega), Nat.add_sub_cancel_left]
    by_cases e : 0 < k ∧ k ≤ 6 ∧ z_vn tx q k < B
    · have hv := z_vn_b tx q k
      have h10 := z_p10b e.2.1
      rw [show min k 7 = k by omega]
      refine z_ifn (fun g => ?_) (z_ifn (nI_nlt (a := 6) e.2.1 (by omega)) (z_ifp ((z_lep (by omega) hB).mpr e.2.2) ?_))
      · have := (nI_eq (by omega) (by omega)).mp g
        omega
      · rintro _ rfl _ rfl
        refine ⟨Or.inr rfl, h1 _ _ (if_pos e) _ (z_p9_tr hτ (z_p9_tr (z_p9_i (by omega)) (z_p9_i (by omega)))) ?_ zs_i_at⟩
        rw [zs_i_nej (by decide), zs_i_at]
    · have no := h0 (if_neg e) τ hτ hpos
      by_cases e1 : k = 0
      · subst e1
        exact z_ifp rfl ⟨Or.inl rfl, no⟩
      · refine z_ifn (fun g => e1 ?_) ?_
        · have := (nI_eq (by omega) (by omega)).mp g
          omega
        · by_cases e2 : 6 < k
          · exact z_ifp (nI_lt (a := 6) e2 (by omega)) ⟨Or.inl rfl, no⟩
          · refine z_ifn (nI_nlt (a := 6) (by omega) (by omega)) ?_
            rw [show min k 7 = k by omega]
            have hv := z_vn_b tx q k
            have h10 := z_p10b (show k ≤ 6 by omega)
            exact z_ifn (fun g => e ⟨by omega, by omega, (z_lep (by omega) hB).mp g⟩) ⟨Or.inl rfl, no⟩
  by_cases hq : z_bs tx len p < len
  · rw [if_pos hq]
    obtain ⟨b, hb256, eb⟩ := hb (z_bs tx len p) hq
    refine l_rnM (q := z_bs tx len p) hl hb hc hpos ?_ fin (len - z_bs tx len p) 0 400 (by omega) (Nat.zero_add _) (by omega)
    rw [eb]
    exact nI_pos (by omega)
  · rw [if_neg hq]
    have e0 : len - z_bs tx len p = 0 := by omega
    rw [e0] at fin
    show wb_X6_readsNumber_13 Q (w_X6_readsNumber_13 Q 399) _ _ _ _ _
    unfold wb_X6_readsNumber_13
    exact z_ifp (by decide) fin
/-! the reference's entries -/
def z_b2 : Bool → Int32
  | true => 1
  | false => 0
def z_updb : Bool → (Nat → Int32) → Nat × Nat × Option Nat → Nat → Int32
  | true, f, e => z_upd f e
  | false, f, _ => f
def z_appb (r : Bool) (f : Nat → Int32) (l : List (Nat × Nat × Option Nat)) : Nat → Int32 := l.foldl (z_updb r) f
theorem z_appb_t : ∀ (l : List (Nat × Nat × Option Nat)) (f : Nat → Int32), z_appb true f l = z_app f l := by
  intro l
  induction l with
  | nil => exact fun _ => rfl
  | cons e l ih => exact fun f => ih (z_upd f e)
theorem z_appb_f : ∀ (l : List (Nat × Nat × Option Nat)) (f : Nat → Int32), z_appb false f l = f := by
  intro l
  induction l with
  | nil => exact fun _ => rfl
  | cons e l ih => exact fun f => ih f
theorem s_sets2 {σ : z_S} {Q : z_S → Prop} {m c : Nat} {v : Int32} (hm : m < 10) (hc : c < 18) (hq : Q (zs_i σ 74 (4 + 18 * m + c) v)) : w_X6_sets (nI m) (nI c) v σ Q := by
  unfold w_X6_sets
  have e : ((4 : Int32) + ((18 : Int32) * nI m)) + nI c = nI (4 + 18 * m + c) := by
    rw [show (4 : Int32) = nI 4 from rfl, show (18 : Int32) = nI 18 from rfl, nI_mul, nI_add, nI_add]
  rw [e, z_tn (by omega)]
  refine ⟨z_vin (by omega) (by omega), ?_⟩
  rintro _ rfl
  exact hq
theorem z_ent_i {tx : Nat → Int32} {len c : Nat} {sp : Nat → Nat} {p E : Nat} (hp : p ≤ len) (h : z_ent tx len c sp p = .inl E) : z_bs tx len E = E := by
  have inj : ∀ {x y : Nat}, (Sum.inl x : Nat ⊕ ((Nat × Nat × Option Nat) × Nat)) = .inl y → x = y := fun q => by
    injection q
  cases h1 : z_num tx len p c with
  | none =>
    rw [z_ent_1 h1] at h
    rw [← inj h]
    exact z_bs_i hp
  | some r1 =>
    obtain ⟨m, p1⟩ := r1
    obtain ⟨-, -, a2, a3⟩ := z_num_c hp h1
    by_cases g : z_sign tx len 64 p1
    · have q1 : z_bs tx len p1 + 1 ≤ len := g.1
      cases h2 : z_num tx len (z_bs tx len p1 + 1) 13 with
      | none =>
        rw [z_ent_3 h1 g h2] at h
        rw [← inj h]
        exact z_bs_i q1
      | some r2 =>
        obtain ⟨b, p2⟩ := r2
        obtain ⟨-, -, c2, c3⟩ := z_num_c q1 h2
        by_cases g2 : z_sign tx len 61 p2
        · have q2 : z_bs tx len p2 + 1 ≤ len := g2.1
          by_cases g3 : z_sign tx len 45 (z_bs tx len p2 + 1)
          · rw [z_ent_5 h1 g h2 g2 g3] at h
            cases h
          · cases h3 : z_num tx len (z_bs tx len p2 + 1) (sp m) with
            | none =>
              rw [z_ent_6 h1 g h2 g2 g3 h3] at h
              rw [← inj h]
              exact z_bs_i q2
            | some r3 =>
              obtain ⟨v, p3⟩ := r3
              rw [z_ent_7 h1 g h2 g2 g3 h3] at h
              cases h
        · rw [z_ent_4 h1 g h2 g2] at h
          rw [← inj h]
          exact z_bs_i c3
    · rw [z_ent_2 h1 g] at h
      rw [← inj h]
      exact z_bs_i a3
theorem rm_ent {f : Nat → Int32} {c sv k len p : Nat} {F : Nat → Nat → Int32} {tx : Nat → Int32} {sp : Nat → Nat} {σ : z_S} {Q : Int32 → z_S → Prop} (real : Bool) (hl : len ≤ 120) (hb : ∀ j, j < len → ∃ b, b < 256 ∧ tx j = nI b) (h : z_IM f sv F len tx σ) (hf : z_fine f c) (hsp : ∀ m, m < c → sp m = z_spn f m) (hp : zg_i σ 73 9 = nI p) (hp2 : p ≤ len) (hk : zg_i σ 73 11 = nI k)
    (hF : ∀ E, z_ent tx len c sp p = .inl E → ∀ τ, z_IM f sv F len tx τ → z_cf9 σ τ → zg_i τ 73 9 = nI E → Q 0 τ) (hS : ∀ e p', z_ent tx len c sp p = .inr (e, p') → ∀ τ, z_IM (z_updb real f e) sv F len tx τ → z_cf9 σ τ → zg_i τ 73 9 = nI p' → zg_i τ 73 11 = nI (z_c1 k e.2.2) → Q 1 τ) : w_X6_readsOne (z_b2 real) σ Q := by
  have h10 := hf.1
  have ht := z_tm_im h
  have im : ∀ {τ}, z_p9 σ τ → z_IM f sv F len tx τ := fun g => z_IM_ms h (z_p9_ms g)
  have cf : ∀ {τ}, z_p9 σ τ → z_cf9 σ τ := fun g => z_ms_cf (z_p9_ms g)
  unfold w_X6_readsOne
  rw [show (0 : Int32).toNatClampNeg = 0 from rfl, im_at h.2.1 (by omega), hf.2.1]
  refine ⟨z_vin (i := 0) (by omega) (by omega), s_rnM hl hb ht rfl (by omega) hp hp2 (fun m p1 e1 τ1 g1 k1 v1 => ?_) (fun e1 τ1 g1 k1 => z_ifp rfl ⟨Or.inl rfl, hF _ (z_ent_1 e1) τ1 (im g1) (cf g1) k1⟩)⟩
  obtain ⟨a1, -, -, a3⟩ := z_num_c hp2 e1
  refine z_ifn (by decide) ?_
  rintro _ rfl
  rw [v1]
  refine s_sgM (by decide) hl (z_tm_p9 ht g1) k1 a3 (fun s1 τ2 g2 k2 => ?_) (fun s1 τ2 g2 k2 => z_ifp rfl ⟨Or.inl rfl, hF _ (z_ent_2 e1 s1) τ2 (im (z_p9_tr g1 g2)) (cf (z_p9_tr g1 g2)) k2⟩)
  have G2 := z_p9_tr g1 g2
  have q1 : z_bs tx len p1 + 1 ≤ len := s1.1
  refine z_ifn (by decide) (s_rnM (B := 13) hl hb (z_tm_p9 ht G2) (by decide) (by omega) k2 q1 (fun b p2 e2 τ3 g3 k3 v3 => ?_) (fun e2 τ3 g3 k3 => z_ifp rfl ⟨Or.inl rfl, hF _ (z_ent_3 e1 s1 e2) τ3 (im (z_p9_tr G2 g3)) (cf (z_p9_tr G2 g3)) k3⟩))
  obtain ⟨c1, -, -, c3⟩ := z_num_c q1 e2
  have G3 := z_p9_tr G2 g3
  refine z_ifn (by decide) ?_
  rintro _ rfl
  rw [v3]
  refine s_sgM (by decide) hl (z_tm_p9 ht G3) k3 c3 (fun s2 τ4 g4 k4 => ?_) (fun s2 τ4 g4 k4 => z_ifp rfl ⟨Or.inl rfl, hF _ (z_ent_4 e1 s1 e2 s2) τ4 (im (z_p9_tr G3 g4)) (cf (z_p9_tr G3 g4)) k4⟩)
  have G4 := z_p9_tr G3 g4
  have q2 : z_bs tx len p2 + 1 ≤ len := s2.1
  have b3 := z_bs_b (tx := tx) q2
  have fin : ∀ (v : Option Nat) p' τ6, z_p9 σ τ6 → zg_i τ6 73 9 = nI p' → (∀ w, v = some w → zg_i τ6 73 10 = nI w) → z_ent tx len c sp p = .inr ((m, b, v), p') → ∀ x4, x4 = (match v with | none => (1 : Int32) | some _ => (0 : Int32)) → w_X6_readsOne_87 Q (z_b2 real) (nI m) (nI b) x4 τ6 := by
    intro v p' τ6 g6 k6 v6 e6 x4 hx4
    have k11 : zg_i τ6 73 11 = nI k := by rw [g6.1 73 11 (by omega)]; exact hk
    have ms7 : ∀ y, z_ms τ6 (zs_i τ6 73 11 y) := fun y => ⟨fun p hp => zs_i_ne (by omega), zs_i_nej (by decide), zs_i_nej (by decide), rfl, rfl⟩
    have fin2 : ∀ τ7 z, z_ms τ6 τ7 → zg_i τ7 73 9 = nI p' → zg_i τ7 73 11 = nI (z_c1 k v) → z = z_ov v → real = true → w_X6_readsOne_129 Q z ((5 : Int32) + nI b) (nI m) τ7 := by
      rintro τ7 _ g7 k7 n7 rfl rfl
      unfold w_X6_readsOne_129
      rw [show (5 : Int32) + nI b = nI (5 + b) by rw [show (5 : Int32) = nI 5 from rfl, nI_add]]
      refine s_sets2 (by omega) (by omega) ⟨Or.inr rfl, ?_⟩
      rw [show 4 + 18 * m + (5 + b) = 9 + 18 * m + b by omega]
      exact hS _ _ e6 _ (im_set (z_IM_ms (im g6) g7) (show 9 + 18 * m + b < 264 by omega)) (z_cf_tr (cf g6) (z_cf_tr (z_ms_cf g7) (z_cf_i (by omega) (by omega)))) (by rw [zs_i_ne (by decide)]; exact k7) (by rw [zs_i_ne (by decide)]; exact n7)
    unfold w_X6_readsOne_87 w_X6_readsOne_102
    cases v with
    | none =>
      have hx4 : x4 = 1 := hx4
      subst hx4
      refine z_ifn (by decide) ?_
      rintro _ rfl
      rw [k11, Int32.add_zero]
      have p7 : zg_i (zs_i τ6 73 11 (nI k)) 73 9 = nI p' := by rw [zs_i_nej (by decide)]; exact k6
      cases real with
      | false => exact z_ifp rfl ⟨Or.inr rfl, hS _ _ e6 _ (z_IM_ms (im g6) (ms7 _)) (z_cf_tr (cf g6) (z_ms_cf (ms7 _))) p7 zs_i_at⟩
      | true => exact z_ifn (by decide) (z_ifn (by decide) (fin2 _ _ (ms7 _) p7 zs_i_at rfl rfl))
    | some w =>
      have hx4 : x4 = 0 := hx4
      subst hx4
      refine z_ifp rfl ?_
      rintro _ rfl
      rw [k11, nI_1]
      have p7 : zg_i (zs_i τ6 73 11 (nI (k + 1))) 73 9 = nI p' := by rw [zs_i_nej (by decide)]; exact k6
      cases real with
      | false => exact z_ifp rfl ⟨Or.inr rfl, hS _ _ e6 _ (z_IM_ms (im g6) (ms7 _)) (z_cf_tr (cf g6) (z_ms_cf (ms7 _))) p7 zs_i_at⟩
      | true => exact z_ifn (by decide) (z_ifp rfl (fin2 _ _ (ms7 _) p7 zs_i_at (by rw [zs_i_nej (by decide)]; exact v6 w rfl) rfl))
  refine z_ifn (by decide) (s_sgM (by decide) hl (z_tm_p9 ht G4) k4 q2 (fun s3 τ5 g5 k5 => ?_) (fun s3 τ5 g5 k5 => ?_))
  · exact z_ifn (by decide) (fin none _ τ5 (z_p9_tr G4 g5) k5 (fun w hw => by cases hw) (z_ent_5 e1 s1 e2 s2 s3) 1 rfl)
  · have G5 := z_p9_tr G4 g5
    obtain ⟨-, -, -, d, hd3, hd6, hd, -⟩ := hf.2.2.2.2.2.2.2 m a1
    have hs : sp m = 10 ^ d := by
      rw [hsp m a1]
      unfold z_spn
      rw [hd, z_tn (by omega)]
    have h6 := z_p10b hd6
    refine z_ifp rfl (s_whole (im G5).2.1 (by omega) hd hd6 ?_)
    refine s_rnM (B := sp m) hl hb (z_tm_p9 ht G5) (by rw [hs]) (by omega) k5 b3.2 (fun v p3 e3 τ6 g6 k6 v6 => ?_) (fun e3 τ6 g6 k6 => ?_)
    · rw [z_num_i (sp m) q2] at e3
      exact z_ifn (by decide) (fin (some v) p3 τ6 (z_p9_tr G5 g6) k6 (fun w hw => by
        injection hw with hw
        subst hw
        exact v6) (z_ent_7 e1 s1 e2 s2 s3 e3) 0 rfl)
    · rw [z_num_i (sp m) q2] at e3
      rw [z_bs_i q2] at k6
      exact z_ifp rfl ⟨Or.inl rfl, hF _ (z_ent_6 e1 s1 e2 s2 s3 e3) τ6 (im (z_p9_tr G5 g6)) (cf (z_p9_tr G5 g6)) k6⟩
