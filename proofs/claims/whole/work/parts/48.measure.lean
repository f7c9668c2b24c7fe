/-! the class's energies -/
def z_ME (m : Nat) (σ τ : z_S) : Prop := (∀ p, p ≠ 31 + m → p ≠ 42 + m → p ≠ 52 → zg_i τ p = zg_i σ p) ∧ zg_r τ = zg_r σ ∧ zg_n τ = zg_n σ
theorem z_ME_rfl (m : Nat) (σ : z_S) : z_ME m σ σ := ⟨fun _ _ _ _ => rfl, rfl, rfl⟩
theorem z_ME_tr {m : Nat} {σ τ ρ : z_S} (h1 : z_ME m σ τ) (h2 : z_ME m τ ρ) : z_ME m σ ρ := ⟨fun p a b d => (h2.1 p a b d).trans (h1.1 p a b d), h2.2.1.trans h1.2.1, h2.2.2.trans h1.2.2⟩
theorem z_ME_i {m p y : Nat} {σ : z_S} {v : Int32} (hp : p = 31 + m ∨ p = 42 + m ∨ p = 52) : z_ME m σ (zs_i σ p y v) := ⟨fun q a b d => zs_i_ne (by omega), rfl, rfl⟩
theorem z_ME_cs {m : Nat} {σ τ : z_S} (hm : m < 10) (h : z_ME m σ τ) : z_cs σ τ := ⟨fun p hp => h.1 p (by omega) (by omega) (by omega), by rw [h.1 68 (by omega) (by omega) (by omega)], h.2.1, h.2.2⟩
/-- the rows of a meter filled between two intervals -/
def z_fill (m s n : Nat) (g : Nat → Int32) (q : Int32) (σ τ : z_S) : Prop := (∀ p, p ≠ 31 + m → p ≠ 42 + m → zg_i τ p = zg_i σ p) ∧ zg_r τ = zg_r σ ∧ zg_n τ = zg_n σ ∧ (∀ k, zg_i τ (31 + m) k = if s ≤ k ∧ k < n then g k else zg_i σ (31 + m) k) ∧ ∀ k, zg_i τ (42 + m) k = if s ≤ k ∧ k < n then q else zg_i σ (42 + m) k
theorem z_fill_0 (m s : Nat) (g : Nat → Int32) (q : Int32) (σ : z_S) : z_fill m s s g q σ σ := ⟨fun _ _ _ => rfl, rfl, rfl, fun k => by rw [if_neg (by omega)], fun k => by rw [if_neg (by omega)]⟩
theorem z_fill_s {m s j : Nat} {g : Nat → Int32} {q : Int32} {σ τ : z_S} (h : z_fill m s j g q σ τ) (hs : s ≤ j) (hm : m < 10) : z_fill m s (j + 1) g q σ (zs_i (zs_i τ (31 + m) j (g j)) (42 + m) j q) := by
  obtain ⟨h1, h2, h3, h4, h5⟩ := h
  refine ⟨fun p a b => ?_, h2, h3, fun k => ?_, fun k => ?_⟩
  · rw [zs_i_ne b, zs_i_ne a]
    exact h1 p a b
  · rw [zs_i_ne (by omega), zg_i_si]
    by_cases e : k = j
    · subst e
      rw [if_pos ⟨rfl, rfl⟩, if_pos (by omega)]
    · rw [if_neg (fun x => e x.2), h4 k]
      by_cases e2 : s ≤ k ∧ k < j
      · rw [if_pos e2, if_pos (by omega)]
      · rw [if_neg e2, if_neg (by omega)]
  · rw [zg_i_si]
    by_cases e : k = j
    · subst e
      rw [if_pos ⟨rfl, rfl⟩, if_pos (by omega)]
    · rw [if_neg (fun x => e x.2), zs_i_ne (by omega), h5 k]
      by_cases e2 : s ≤ k ∧ k < j
      · rw [if_pos e2, if_pos (by omega)]
      · rw [if_neg e2, if_neg (by omega)]
theorem z_fill_ext {m s n : Nat} {g g' : Nat → Int32} {q q' : Int32} {σ τ : z_S} (h : z_fill m s n g q σ τ) (hg : ∀ k, s ≤ k → k < n → g k = g' k) (hq : q = q') : z_fill m s n g' q' σ τ := by
  subst hq
  obtain ⟨h1, h2, h3, h4, h5⟩ := h
  refine ⟨h1, h2, h3, fun k => ?_, h5⟩
  rw [h4 k]
  by_cases e : s ≤ k ∧ k < n
  · rw [if_pos e, if_pos e, hg k e.1 e.2]
  · rw [if_neg e, if_neg e]
theorem l_level {m s e : Nat} {v q : Int32} {σ : z_S} {Q : z_S → Prop} (hm : m < 10) (he : e < 12) (hq : ∀ τ, z_fill m s (e + 1) (fun _ => v) q σ τ → Q τ) : ∀ d j n, j + d = e + 1 → d < n → s ≤ j → ∀ τ, z_fill m s j (fun _ => v) q σ τ → w_X1_level_3 Q n (nI m) (nI e) v q (nI j) τ := by
  intro d
  induction d with
  | zero =>
    intro j n hj hn hs τ hτ
    obtain ⟨n, rfl⟩ : ∃ k, n = k + 1 := ⟨n - 1, by omega⟩
    obtain rfl : j = e + 1 := by omega
    show wb_X1_level_3 Q (w_X1_level_3 Q n) _ _ _ _ _ _
    unfold wb_X1_level_3
    exact z_ifp ((nI_ltI (by omega) (by omega)).mpr (by omega)) (hq τ hτ)
  | succ d ih =>
    intro j n hj hn hs τ hτ
    obtain ⟨n, rfl⟩ : ∃ k, n = k + 1 := ⟨n - 1, by omega⟩
    show wb_X1_level_3 Q (w_X1_level_3 Q n) _ _ _ _ _ _
    unfold wb_X1_level_3
    rw [z_tn (by omega), z_tn (by omega), nI_1]
    refine z_ifn (nI_nlt (by omega) (by omega)) ⟨z_vin hm (by omega), z_vin (by omega) (by omega), ?_⟩
    rintro _ rfl
    refine ⟨z_vin hm (by omega), z_vin (by omega) (by omega), ?_⟩
    rintro _ rfl _ rfl
    exact ih (j + 1) n (by omega) (by omega) (by omega) _ (z_fill_s hτ hs hm)
theorem l_spread {m s e : Nat} {t : Int32} {σ : z_S} {Q : z_S → Prop} (hm : m < 10) (hs0 : s ≤ e) (he : e < 12) (hq : ∀ τ, z_fill m s (e + 1) (fun k => z_sg t (nI (e + 1 - s)) (k - s)) 1 σ τ → Q τ) : ∀ d j n, j + d = e + 1 → d < n → s ≤ j → ∀ τ, z_fill m s j (fun k => z_sg t (nI (e + 1 - s)) (k - s)) 1 σ τ → w_X1_spread_23 Q n (nI m) (nI s) (nI e) t (nI (e + 1 - s)) (t - t / nI (e + 1 - s) * nI (e + 1 - s)) (nI j) τ := by
  intro d
  induction d with
  | zero =>
    intro j n hj hn hs τ hτ
    obtain ⟨n, rfl⟩ : ∃ k, n = k + 1 := ⟨n - 1, by omega⟩
    obtain rfl : j = e + 1 := by omega
    show wb_X1_spread_23 Q (w_X1_spread_23 Q n) _ _ _ _ _ _ _ _
    unfold wb_X1_spread_23
    exact z_ifp ((nI_ltI (by omega) (by omega)).mpr (by omega)) (hq τ hτ)
  | succ d ih =>
    intro j n hj hn hs τ hτ
    obtain ⟨n, rfl⟩ : ∃ k, n = k + 1 := ⟨n - 1, by omega⟩
    show wb_X1_spread_23 Q (w_X1_spread_23 Q n) _ _ _ _ _ _ _ _
    unfold wb_X1_spread_23
    have nz : ¬ nI (e + 1 - s) = 0 := fun q => by
      have := (nI_eq (b := 0) (by omega) (by omega)).mp q
      omega
    rw [z_tn (by omega), nI_sub hs]
    refine z_ifn (nI_nlt (by omega) (by omega)) ⟨z_vin hm (by omega), nz, ?_⟩
    have fin := ih (j + 1) n (by omega) (by omega) (by omega) _ (z_fill_s hτ hs hm)
    have key : ∀ x : Int32, t / nI (e + 1 - s) + x = z_sg t (nI (e + 1 - s)) (j - s) → w_X1_spread_56 (w_X1_spread_23 Q n) Q (nI m) (nI s) (nI e) t (nI (e + 1 - s)) (t - t / nI (e + 1 - s) * nI (e + 1 - s)) (nI j) x (t / nI (e + 1 - s)) (nI j) (31 + m) τ := by
      intro x hx
      unfold w_X1_spread_56
      rw [hx, z_tn (by omega), z_tn (by omega), nI_1]
      refine ⟨⟨by omega, z_sh31 hm⟩, z_vin (by omega) (by omega), ?_⟩
      rintro _ rfl
      refine ⟨z_vin hm (by omega), z_vin (by omega) (by omega), ?_⟩
      rintro _ rfl _ rfl
      exact fin
    unfold z_sg at key
    by_cases hx : t - t / nI (e + 1 - s) * nI (e + 1 - s) ≤ nI (j - s)
    · rw [if_pos hx] at key
      exact z_ifp hx (key 0 rfl)
    · rw [if_neg hx] at key
      exact z_ifn hx (key 1 rfl)
theorem l_interp {m s e : Nat} {x y : Int32} {σ : z_S} {Q : z_S → Prop} (hm : m < 10) (hs0 : s ≤ e) (he : e < 12) (hq : ∀ τ, z_fill m s (e + 1) (fun k => (x * nI (e + 1 - k) + y * nI (k - s + 1)) / nI (e + 2 - s)) 2 σ τ → Q τ) : ∀ d j n, j + d = e + 1 → d < n → s ≤ j → ∀ τ, z_fill m s j (fun k => (x * nI (e + 1 - k) + y * nI (k - s + 1)) / nI (e + 2 - s)) 2 σ τ → w_X1_interpolate_40 Q n (nI m) (nI s) (nI e) x y (nI (e + 2 - s)) (nI j) τ := by
  intro d
  induction d with
  | zero =>
    intro j n hj hn hs τ hτ
    obtain ⟨n, rfl⟩ : ∃ k, n = k + 1 := ⟨n - 1, by omega⟩
    obtain rfl : j = e + 1 := by omega
    show wb_X1_interpolate_40 Q (w_X1_interpolate_40 Q n) _ _ _ _ _ _ _ _
    unfold wb_X1_interpolate_40
    exact z_ifp ((nI_ltI (by omega) (by omega)).mpr (by omega)) (hq τ hτ)
  | succ d ih =>
    intro j n hj hn hs τ hτ
    obtain ⟨n, rfl⟩ : ∃ k, n = k + 1 := ⟨n - 1, by omega⟩
    show wb_X1_interpolate_40 Q (w_X1_interpolate_40 Q n) _ _ _ _ _ _ _ _
    unfold wb_X1_interpolate_40
    have nz : ¬ nI (e + 2 - s) = 0 := fun q => by
      have := (nI_eq (b := 0) (by omega) (by omega)).mp q
      omega
    rw [z_tn (by omega), z_tn (by omega), nI_1, nI_1, nI_sub hs, nI_sub (by omega), nI_1]
    refine z_ifn (nI_nlt (by omega) (by omega)) ⟨z_vin hm (by omega), nz, z_vin (by omega) (by omega), ?_⟩
    rintro _ rfl
    refine ⟨z_vin hm (by omega), z_vin (by omega) (by omega), ?_⟩
    rintro _ rfl _ rfl
    exact ih (j + 1) n (by omega) (by omega) (by omega) _ (z_fill_s hτ hs hm)
theorem l_miss {f : Nat → Int32} {m e : Nat} {σ : z_S} {Q : Int32 → z_S → Prop} (he : e < 12) (h52 : ∀ k, k < 12 → zg_i σ 52 k = z_St f m k) : ∀ d j n, j + d = e + 1 → d < n → Q (if z_am f m d j = true then 1 else 0) σ → w_X1_isAllMissing_2 Q n (nI e) (nI j) σ := by
  intro d
  induction d with
  | zero =>
    intro j n hj hn hq
    obtain ⟨n, rfl⟩ : ∃ k, n = k + 1 := ⟨n - 1, by omega⟩
    obtain rfl : j = e + 1 := by omega
    show wb_X1_isAllMissing_2 Q (w_X1_isAllMissing_2 Q n) _ _ _
    unfold wb_X1_isAllMissing_2
    exact z_ifp ((nI_ltI (by omega) (by omega)).mpr (by omega)) ⟨Or.inr rfl, hq⟩
  | succ d ih =>
    intro j n hj hn hq
    obtain ⟨n, rfl⟩ : ∃ k, n = k + 1 := ⟨n - 1, by omega⟩
    show wb_X1_isAllMissing_2 Q (w_X1_isAllMissing_2 Q n) _ _ _
    unfold wb_X1_isAllMissing_2
    rw [z_tn (by omega), h52 j (by omega)]
    refine z_ifn (nI_nlt (by omega) (by omega)) ⟨z_vin (by omega) (by omega), ?_⟩
    unfold z_am at hq
    by_cases e1 : z_St f m j = 1
    · rw [if_pos e1] at hq
      refine z_ifp e1 ?_
      rintro _ rfl
      rw [nI_1]
      exact ih (j + 1) n (by omega) (by omega) hq
    · rw [if_neg e1, if_neg (by decide)] at hq
      exact z_ifn e1 ⟨Or.inl rfl, hq⟩
/-- an estimate fills the run -/
theorem rc_est {f : Nat → Int32} {c m s e : Nat} {σ : z_S} {Q : z_S → Prop} (h : z_rc f c σ) (hm : m < c) (hr : z_run f m s e) (h52 : ∀ k, k < 12 → zg_i σ 52 k = z_St f m k) (hv : ∀ k, k < 12 → z_St f m k = 0 → zg_i σ (31 + m) k = z_vo f m k) (hq : ∀ τ, z_fill m s (e + 1) (fun k => z_Er f m s e k) (z_Qr f m s e) σ τ → Q τ) : w_X1_estimate (nI m) (nI s) (nI e) σ Q := by
  have h10 := h.2.1
  obtain ⟨h1, h2, h3, h4, h5⟩ := id hr
  unfold w_X1_estimate
  rw [nI_1]
  refine rc_adv h hm (by omega) (by omega) ?_
  rw [nI_sub h1, nI_1, show e - s + 1 = e + 1 - s by omega]
  rintro _ rfl
  have oth : ¬ (z_am f m (e + 1 - s) s = true ∧ z_A f m s (e + 1) ≠ zNONE ∧ ¬ (f (4 + 18 * m + 3) * nI (e + 1 - s) < z_A f m s (e + 1))) → w_X1_estimate_71 Q (nI m) (nI s) (nI e) σ := by
    intro hno
    have qe : z_Qr f m s e = if 0 < s then (if e < 11 then 2 else 3) else if e < 11 then 3 else 4 := by
      unfold z_Qr
      rw [if_neg hno]
    have vS : ∀ k, 0 < s → k + 1 = s → zg_i σ (31 + m) k = z_vo f m (s - 1) := fun k a b => by
      subst b
      exact hv k (by omega) (h4 a)
    have vE : e < 11 → zg_i σ (31 + m) (e + 1) = z_vo f m (e + 1) := fun a => hv (e + 1) (by omega) (h5 a)
    unfold w_X1_estimate_71 w_X1_estimate_93
    rw [nI_1, z_tn (by omega)]
    by_cases e0 : 0 < s
    · rw [if_pos e0] at qe
      obtain ⟨k, rfl⟩ : ∃ k, s = k + 1 := ⟨s - 1, by omega⟩
      rw [show nI (k + 1) - (1 : Int32) = nI k from nI_pred k]
      refine z_ifn (nI_ge (a := 0) (b := k + 1) (by omega) (by omega)) ?_
      by_cases e1 : e < 11
      · rw [if_pos e1] at qe
        refine z_ifn (nI_ge (a := e) (b := 11) (by omega) (by omega)) ?_
        unfold w_X1_interpolate
        rw [show nI (k + 1) - (1 : Int32) = nI k from nI_pred k, nI_1, z_tn (by omega), z_tn (by omega), z_tn (by omega)]
        refine ⟨z_vin (by omega) (by omega), z_vin (by omega) (by omega), ?_⟩
        rintro _ rfl
        refine ⟨z_vin (by omega) (by omega), z_vin (by omega) (by omega), ?_⟩
        rintro _ rfl
        rw [nI_sub h1, show nI (e - (k + 1)) + (2 : Int32) = nI (e + 2 - (k + 1)) by rw [show (2 : Int32) = nI 2 from rfl, nI_add, show e - (k + 1) + 2 = e + 2 - (k + 1) by omega]]
        rintro _ rfl
        refine z_ifp ((nI_ltI (a := 0) (by omega) (by omega)).mpr (by omega)) ?_
        rw [vS k e0 rfl, vE e1]
        refine l_interp (by omega) h1 (by omega) (fun τ hτ => hq τ (z_fill_ext hτ (fun j _ _ => ?_) qe.symm)) (e + 1 - (k + 1)) (k + 1) 400 (by omega) (by omega) (Nat.le_refl _) σ (z_fill_0 m (k + 1) _ _ σ)
        unfold z_Er
        rw [qe, if_neg (by decide), if_pos rfl]
      · rw [if_neg e1] at qe
        obtain rfl : e = 11 := by omega
        refine z_ifp (by decide) (z_ifn (nI_ge (a := 0) (b := k + 1) (by omega) (by omega)) ?_)
        rw [z_tn (by omega), vS k e0 rfl]
        refine ⟨z_vin (by omega) (by omega), z_vin (by omega) (by omega), l_level (by omega) (by omega) (fun τ hτ => hq τ (z_fill_ext hτ (fun j _ _ => ?_) qe.symm)) (11 + 1 - (k + 1)) (k + 1) 400 (by omega) (by omega) (Nat.le_refl _) σ (z_fill_0 m (k + 1) _ _ σ)⟩
        unfold z_Er
        rw [qe, if_neg (by decide), if_neg (by decide), if_pos rfl, if_pos e0]
    · rw [if_neg e0] at qe
      obtain rfl : s = 0 := by omega
      refine z_ifp (by decide) (z_ifp (by decide) ?_)
      by_cases e1 : e < 11
      · rw [if_pos e1] at qe
        rw [z_tn (by omega), vE e1]
        refine z_ifn (nI_ge (a := e) (b := 11) (by omega) (by omega)) ⟨z_vin (by omega) (by omega), z_vin (by omega) (by omega), l_level (by omega) (by omega) (fun τ hτ => hq τ (z_fill_ext hτ (fun j _ _ => ?_) qe.symm)) (e + 1 - 0) 0 400 (by omega) (by omega) (Nat.le_refl _) σ (z_fill_0 m 0 _ _ σ)⟩
        unfold z_Er
        rw [qe, if_neg (by decide), if_neg (by decide), if_pos rfl, if_neg e0]
      · rw [if_neg e1] at qe
        obtain rfl : e = 11 := by omega
        refine z_ifp (by decide) (l_level (by omega) (by omega) (fun τ hτ => hq τ (z_fill_ext hτ (fun j _ _ => ?_) qe.symm)) (11 + 1 - 0) 0 400 (by omega) (by omega) (Nat.le_refl _) σ (z_fill_0 m 0 _ _ σ))
        unfold z_Er
        rw [qe, if_neg (by decide), if_neg (by decide), if_neg (by decide)]
  refine l_miss (by omega) h52 (e + 1 - s) s 400 (by omega) (by omega) ?_
  rw [z_tn (by omega)]
  by_cases a1 : z_am f m (e + 1 - s) s = true
  · rw [if_pos a1]
    refine z_ifn (by decide) ?_
    by_cases a2 : z_A f m s (e + 1) = zNONE
    · exact z_ifp a2 (oth (fun q => q.2.1 a2))
    · refine z_ifn a2 ⟨z_vin (by omega) (by omega), ?_⟩
      rw [show zg_i σ 5 m = f (4 + 18 * m + 3) from ic_col 3 h.1 (by omega) (by omega), show zg_i σ 3 m = f (4 + 18 * m + 1) from ic_col 1 h.1 (by omega) (by omega)]
      by_cases a3 : f (4 + 18 * m + 3) * nI (e + 1 - s) < z_A f m s (e + 1)
      · exact z_ifp a3 (oth (fun q => q.2.2 a3))
      · refine z_ifn a3 ⟨z_vin (by omega) (by omega), ?_⟩
        have qe : z_Qr f m s e = 1 := by
          unfold z_Qr
          rw [if_pos ⟨a1, a2, a3⟩]
        unfold w_X1_spread
        rw [nI_sub h1, nI_1, show e - s + 1 = e + 1 - s by omega]
        rintro _ rfl
        have nz : ¬ nI (e + 1 - s) = 0 := fun q => by
          have := (nI_eq (b := 0) (by omega) (by omega)).mp q
          omega
        refine z_ifp ((nI_ltI (a := 0) (by omega) (by omega)).mpr (by omega)) ⟨nz, ?_⟩
        rintro _ rfl
        refine l_spread (by omega) h1 (by omega) (fun τ hτ => hq τ (z_fill_ext hτ (fun j _ _ => ?_) qe.symm)) (e + 1 - s) s 400 (by omega) (by omega) (Nat.le_refl _) σ (z_fill_0 m s _ _ σ)
        unfold z_Er
        rw [qe, if_pos rfl]
  · rw [if_neg a1]
    exact z_ifp rfl (oth (fun q => a1 q.1))
def z_set (f : Nat → Int32) (m : Nat) (τ : z_S) (k : Nat) : Prop := zg_i τ (31 + m) k = z_en f m k ∧ zg_i τ (42 + m) k = z_ql f m k
theorem z_en_v {f : Nat → Int32} {m k : Nat} (h : z_St f m k = 0) : z_en f m k = z_vo f m k := if_pos h
theorem z_ql_v {f : Nat → Int32} {m k : Nat} (h : z_St f m k = 0) : z_ql f m k = 0 := if_pos h
theorem l_meas2 {f : Nat → Int32} {c m : Nat} {σ : z_S} {Q : z_S → Prop} (h : z_rc f c σ) (hm : m < c) (hq : ∀ τ, z_ME m σ τ → (∀ k, k < 12 → z_set f m τ k) → Q τ) : ∀ d i n, i + d = 12 → d < n → ∀ s τ, z_ME m σ τ → (∀ k, k < 12 → zg_i τ 52 k = z_St f m k) → (∀ k, k < 12 → z_St f m k = 0 → z_set f m τ k) → s ≤ i → (0 < s → z_St f m (s - 1) = 0) → (∀ k, s ≤ k → k < i → z_St f m k ≠ 0) → (∀ k, k < s → z_set f m τ k) → ((i = 12 ∨ z_St f m i = 0) → ∀ k, s ≤ k → k < i → z_set f m τ k) → w_X1_measure_73 Q n (nI m) (nI s) (nI i) τ := by
  have h10 := h.2.1
  intro d
  induction d with
  | zero =>
    intro i n hi hn s τ hME h52 hV hs g1 g2 g3 g4
    obtain ⟨n, rfl⟩ : ∃ k, n = k + 1 := ⟨n - 1, by omega⟩
    obtain rfl : i = 12 := by omega
    show wb_X1_measure_73 Q (w_X1_measure_73 Q n) _ _ _ _
    unfold wb_X1_measure_73
    refine z_ifp (by decide) (hq τ hME (fun k hk => ?_))
    by_cases e : k < s
    · exact g3 k e
    · exact g4 (Or.inl rfl) k (by omega) hk
  | succ d ih =>
    intro i n hi hn s τ hME h52 hV hs g1 g2 g3 g4
    obtain ⟨n, rfl⟩ : ∃ k, n = k + 1 := ⟨n - 1, by omega⟩
    show wb_X1_measure_73 Q (w_X1_measure_73 Q n) _ _ _ _
    unfold wb_X1_measure_73
    rw [z_tn (by omega), nI_1, h52 i (by omega)]
    refine z_ifn (nI_ge (a := i) (b := 12) (by omega) (by omega)) ⟨z_vin (by omega) (by omega), ?_⟩
    by_cases e : z_St f m i = 0
    · refine z_ifp e ?_
      rintro _ rfl _ rfl
      rw [nI_1]
      refine ih (i + 1) n (by omega) (by omega) (i + 1) τ hME h52 hV (Nat.le_refl _) (fun _ => e) (fun k a b => absurd a (by omega)) (fun k hk => ?_) (fun _ k a b => absurd a (by omega))
      by_cases e2 : k < s
      · exact g3 k e2
      · by_cases e3 : k = i
        · subst e3
          exact hV k (by omega) e
        · exact g4 (Or.inr e) k (by omega) (by omega)
    · refine z_ifn e ?_
      have est : (i < 11 → z_St f m (i + 1) = 0) → w_X1_measure_117 (w_X1_measure_73 Q n) Q (nI m) (nI s) (nI i) τ := by
        intro hend
        have hr : z_run f m s i := ⟨hs, by omega, fun k a b => by
          by_cases e3 : k = i
          · subst e3
            exact e
          · exact g2 k a (by omega), g1, hend⟩
        unfold w_X1_measure_117
        refine rc_est (z_rc_cs h (z_ME_cs (by omega) hME)) hm hr h52 (fun k hk hk0 => by rw [(hV k hk hk0).1, z_en_v hk0]) (fun ρ hρ => ?_)
        unfold w_X1_measure_126
        rintro _ rfl
        rw [nI_1]
        obtain ⟨p1, p2, p3, p4, p5⟩ := hρ
        have stay : ∀ k, (k < s ∨ i < k) → z_set f m τ k → z_set f m ρ k := fun k hk hx => by
          unfold z_set
          rw [p4 k, p5 k, if_neg (by omega), if_neg (by omega)]
          exact hx
        have inn : ∀ k, s ≤ k → k ≤ i → z_set f m ρ k := fun k a b => by
          unfold z_set
          rw [p4 k, p5 k, if_pos (by omega), if_pos (by omega)]
          have hk := hr.2.2.1 k a b
          unfold z_en z_ql
          rw [if_neg hk, if_neg hk, run_fs hr k a b, run_ls hr (11 - k) k (by omega) a b]
          exact ⟨rfl, rfl⟩
        refine ih (i + 1) n (by omega) (by omega) s ρ (z_ME_tr hME ⟨fun p a b _ => p1 p a b, p2, p3⟩) (fun k hk => by rw [p1 52 (by omega) (by omega)]; exact h52 k hk) (fun k hk hk0 => ?_) (by omega) g1 (fun k a b => hr.2.2.1 k a (by omega)) (fun k hk => stay k (Or.inl hk) (g3 k hk)) (fun _ k a b => inn k a (by omega))
        by_cases a : s ≤ k ∧ k ≤ i
        · exact absurd hk0 (hr.2.2.1 k a.1 a.2)
        · exact stay k (by omega) (hV k hk hk0)
      by_cases e1 : i = 11
      · subst e1
        exact z_ifp rfl (est (fun a => absurd a (by omega)))
      · refine z_ifn (fun q => e1 ((nI_eq (b := 11) (by omega) (by omega)).mp q)) ⟨z_vin (by omega) (by omega), ?_⟩
        rw [z_tn (by omega), h52 (i + 1) (by omega)]
        by_cases e2 : z_St f m (i + 1) = 0
        · exact z_ifp e2 (est (fun _ => e2))
        · refine z_ifn e2 ?_
          unfold w_X1_measure_126
          rintro _ rfl
          rw [nI_1]
          refine ih (i + 1) n (by omega) (by omega) s τ hME h52 hV (by omega) g1 (fun k a b => ?_) g3 (fun q => absurd q (fun q => q.elim (fun q => by omega) e2))
          by_cases e3 : k = i
          · subst e3
            exact e
          · exact g2 k a (by omega)
theorem l_meas1 {f : Nat → Int32} {c m : Nat} {σ : z_S} {Q : z_S → Prop} (h : z_rc f c σ) (hm : m < c) (hq : ∀ τ, z_ME m σ τ → (∀ k, k < 12 → z_set f m τ k) → Q τ) : ∀ d i n, i + d = 12 → d < n → ∀ τ, z_ME m σ τ → (∀ k, k < i → zg_i τ 52 k = z_St f m k) → (∀ k, k < i → z_St f m k = 0 → z_set f m τ k) → w_X1_measure_2 Q n (nI m) (nI i) τ := by
  have h10 := h.2.1
  intro d
  induction d with
  | zero =>
    intro i n hi hn τ hME h52 hV
    obtain ⟨n, rfl⟩ : ∃ k, n = k + 1 := ⟨n - 1, by omega⟩
    obtain rfl : i = 12 := by omega
    show wb_X1_measure_2 Q (w_X1_measure_2 Q n) _ _ _
    unfold wb_X1_measure_2
    exact z_ifp (by decide) (l_meas2 h hm hq 12 0 400 (by omega) (by omega) 0 τ hME h52 hV (Nat.le_refl _) (fun a => absurd a (Nat.lt_irrefl 0)) (fun k _ b => absurd b (Nat.not_lt_zero k)) (fun k b => absurd b (Nat.not_lt_zero k)) (fun _ k _ b => absurd b (Nat.not_lt_zero k)))
  | succ d ih =>
    intro i n hi hn τ hME h52 hV
    obtain ⟨n, rfl⟩ : ∃ k, n = k + 1 := ⟨n - 1, by omega⟩
    show wb_X1_measure_2 Q (w_X1_measure_2 Q n) _ _ _
    unfold wb_X1_measure_2
    have hr := z_rc_cs h (z_ME_cs (by omega) hME)
    refine z_ifn (nI_ge (a := i) (b := 12) (by omega) (by omega)) (rc_judge hr hm (by omega) ⟨z_vin (by omega) (by omega), ?_⟩)
    rw [z_tn (by omega), z_tn (by omega)]
    rintro _ rfl
    rw [zs_i_at]
    refine ⟨z_vin (by omega) (by omega), ?_⟩
    have hME1 : z_ME m σ (zs_i τ 52 i (z_St f m i)) := z_ME_tr hME (z_ME_i (by omega))
    have h52' : ∀ k, k < i + 1 → zg_i (zs_i τ 52 i (z_St f m i)) 52 k = z_St f m k := fun k hk => by
      rw [zg_i_si]
      by_cases e : k = i
      · subst e
        rw [if_pos ⟨rfl, rfl⟩]
      · rw [if_neg (fun q => e q.2)]
        exact h52 k (by omega)
    have hV' : ∀ k, k < i → z_St f m k = 0 → z_set f m (zs_i τ 52 i (z_St f m i)) k := fun k hk h0 => by
      unfold z_set
      rw [zs_i_ne (by omega), zs_i_ne (by omega)]
      exact hV k hk h0
    by_cases e : z_St f m i = 0
    · refine z_ifp e ⟨z_vin (by omega) (by omega), ?_⟩
      rw [nI_1]
      have hr1 := z_rc_cs h (z_ME_cs (by omega) hME1)
      refine rc_adv hr1 hm (by omega) (by omega) ⟨z_vin (by omega) (by omega), z_vin (by omega) (by omega), ?_⟩
      rw [show zg_i (zs_i τ 52 i (z_St f m i)) 3 m = f (4 + 18 * m + 1) from ic_col 1 hr1.1 (by omega) (by omega)]
      rintro _ rfl
      refine ⟨z_vin (by omega) (by omega), z_vin (by omega) (by omega), ?_⟩
      rintro _ rfl
      unfold w_X1_measure_62
      rintro _ rfl
      rw [nI_1]
      refine ih (i + 1) n (by omega) (by omega) _ (z_ME_tr hME1 (z_ME_tr (z_ME_i (p := 31 + m) (by omega)) (z_ME_i (p := 42 + m) (by omega)))) (fun k hk => ?_) (fun k hk h0 => ?_)
      · rw [zs_i_ne (by omega), zs_i_ne (by omega)]
        exact h52' k hk
      · by_cases ek : k = i
        · subst ek
          unfold z_set
          rw [zs_i_at, zs_i_ne (by omega), zs_i_at, z_en_v e, z_ql_v e]
          exact ⟨rfl, rfl⟩
        · have := hV' k (by omega) h0
          refine ⟨?_, ?_⟩
          · rw [zs_i_ne (by omega), zs_i_nej ek]
            exact this.1
          · rw [zs_i_nej ek, zs_i_ne (by omega)]
            exact this.2
    · refine z_ifn e ?_
      unfold w_X1_measure_62
      rintro _ rfl
      rw [nI_1]
      refine ih (i + 1) n (by omega) (by omega) _ hME1 h52' (fun k hk h0 => ?_)
      by_cases ek : k = i
      · subst ek
        exact absurd h0 e
      · exact hV' k (by omega) h0
theorem rc_meas {f : Nat → Int32} {c m : Nat} {σ : z_S} {Q : z_S → Prop} (h : z_rc f c σ) (hm : m < c) (hq : ∀ τ, z_ME m σ τ → (∀ k, k < 12 → z_set f m τ k) → Q τ) : w_X1_measure (nI m) σ Q := by
  unfold w_X1_measure
  exact l_meas1 h hm hq 12 0 400 (by omega) (by omega) σ (z_ME_rfl m σ) (fun k a => absurd a (Nat.not_lt_zero k)) (fun k a => absurd a (Nat.not_lt_zero k))
theorem op_energy {σ : z_S} {K : Int32 → Int32 → z_S → Prop} (a b : Int32) (h : z_Inv σ) (hK : ∀ r σ2, z_Inv σ2 → K r r σ2) : w_X5_energy a b σ (fun r σ1 => w_X6_energy a b σ1 (fun r2 σ2 => K r r2 σ2)) := by
  unfold w_X5_energy w_X6_energy
  refine op_gi (fun σ5 Q => w_X1_measure a σ5 (fun σ8 => vp_in a 10 ∧ vp_in b 12 ∧ Q (zg_i σ8 (31 + a.toNatClampNeg) b.toNatClampNeg) σ8)) (fun σ Q => w_X6_energyOf a b σ Q) h ?_ hK
  rintro f c m i hm hi rfl rfl hf
  have h10 := hf.1
  refine ⟨z_en f m i, fun σ Q hr hq => rc_meas hr hm (fun τ hME hs => ⟨z_vin (by omega) (by omega), z_vin hi (by omega), ?_⟩), fun σ1 Q hr hq => rm_energy hr hm hi (hq σ1 (z_ms_rfl σ1))⟩
  rw [z_tn (by omega), z_tn (by omega), (hs i hi).1]
  exact hq τ (z_ME_cs (by omega) hME)
theorem op_quality {σ : z_S} {K : Int32 → Int32 → z_S → Prop} (a b : Int32) (h : z_Inv σ) (hK : ∀ r σ2, z_Inv σ2 → K r r σ2) : w_X5_quality a b σ (fun r σ1 => w_X6_quality a b σ1 (fun r2 σ2 => K r r2 σ2)) := by
  unfold w_X5_quality w_X6_quality
  refine op_gi (fun σ5 Q => w_X1_measure a σ5 (fun σ8 => vp_in a 10 ∧ vp_in b 12 ∧ Q (zg_i σ8 (42 + a.toNatClampNeg) b.toNatClampNeg) σ8)) (fun σ Q => w_X6_qualityOf a b σ Q) h ?_ hK
  rintro f c m i hm hi rfl rfl hf
  have h10 := hf.1
  refine ⟨z_ql f m i, fun σ Q hr hq => rc_meas hr hm (fun τ hME hs => ⟨z_vin (by omega) (by omega), z_vin hi (by omega), ?_⟩), fun σ1 Q hr hq => rm_quality hr hm hi (hq σ1 (z_ms_rfl σ1))⟩
  rw [z_tn (by omega), z_tn (by omega), (hs i hi).2]
  exact hq τ (z_ME_cs (by omega) hME)
