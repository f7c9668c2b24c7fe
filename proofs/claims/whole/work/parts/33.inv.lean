/-! the invariant: class and reference hold the same numbers -/
abbrev zNONE : Int32 := -2000000000
def z_fine (f : Nat → Int32) (c : Nat) : Prop := c ≤ 10 ∧ f 0 = nI c ∧ (∃ sp, 2 ≤ sp ∧ sp ≤ 20 ∧ f 1 = nI sp) ∧ (∃ tl, tl ≤ 1000 ∧ f 2 = nI tl) ∧ (∃ rv, rv ≤ 8 ∧ f 3 = nI rv) ∧ (0 < c → f 4 = zNONE) ∧ (∀ m, 1 ≤ m → m < c → ∃ p, p < m ∧ f (4 + 18 * m) = nI p) ∧ ∀ m, m < c → (∃ mu, 1 ≤ mu ∧ mu ≤ 100 ∧ f (4 + 18 * m + 1) = nI mu) ∧ (∃ li, 1 ≤ li ∧ li ≤ 50000 ∧ f (4 + 18 * m + 3) = nI li) ∧ (∃ w, 1 ≤ w ∧ w ≤ 100 ∧ f (4 + 18 * m + 4) = nI w) ∧ ∃ d, 3 ≤ d ∧ d ≤ 6 ∧ f (4 + 18 * m + 2) = nI d ∧ ∀ b, b < 13 → f (9 + 18 * m + b) = zNONE ∨ ∃ v, v < 10 ^ d ∧ f (9 + 18 * m + b) = nI v
def z_IC (f : Nat → Int32) (sv : Nat) (F : Nat → Nat → Int32) (len : Nat) (tx : Nat → Int32) (σ : z_S) : Prop := (∃ a, z_his σ sv a) ∧ (∀ x, x < 264 → zv σ 1 x = f x) ∧ (∀ j x, j < sv → x < 264 → zv σ (zb σ j) x = F j x) ∧ zg_i σ 68 1 = nI len ∧ ∀ j, j < 120 → zg_i σ 69 j = tx j
def z_IM (f : Nat → Int32) (sv : Nat) (F : Nat → Nat → Int32) (len : Nat) (tx : Nat → Int32) (σ : z_S) : Prop := zg_i σ 73 1 = nI sv ∧ (∀ x, x < 264 → zm σ 0 x = f x) ∧ (∀ j x, j < sv → x < 264 → zm σ (j + 1) x = F j x) ∧ zg_i σ 73 8 = nI len ∧ ∀ j, j < 120 → zg_i σ 80 j = tx j
def z_GD (f : Nat → Int32) (c sv : Nat) (F : Nat → Nat → Int32) (len : Nat) (tx : Nat → Int32) : Prop := z_fine f c ∧ sv ≤ 5 ∧ (∀ j, j < sv → ∃ d, z_fine (F j) d) ∧ len ≤ 120 ∧ ∀ j, j < len → ∃ b, b < 256 ∧ tx j = nI b
def z_Inv (σ : z_S) : Prop := ∃ f c sv F len tx, z_IC f sv F len tx σ ∧ z_IM f sv F len tx σ ∧ z_GD f c sv F len tx
/-- the reference's numbers stay; the class's -/
def z_mf (σ τ : z_S) : Prop := zg_i τ 73 = zg_i σ 73 ∧ zg_i τ 74 = zg_i σ 74 ∧ zg_i τ 80 = zg_i σ 80
def z_cf9 (σ τ : z_S) : Prop := (∀ p, (p < 73 ∨ 80 < p) → zg_i τ p = zg_i σ p) ∧ zg_r τ = zg_r σ ∧ zg_n τ = zg_n σ
theorem z_mf_rfl (σ : z_S) : z_mf σ σ := ⟨rfl, rfl, rfl⟩
theorem z_mf_tr {σ τ ρ : z_S} (h1 : z_mf σ τ) (h2 : z_mf τ ρ) : z_mf σ ρ := ⟨h2.1.trans h1.1, h2.2.1.trans h1.2.1, h2.2.2.trans h1.2.2⟩
theorem z_cf_rfl (σ : z_S) : z_cf9 σ σ := ⟨fun _ _ => rfl, rfl, rfl⟩
theorem z_cf_tr {σ τ ρ : z_S} (h1 : z_cf9 σ τ) (h2 : z_cf9 τ ρ) : z_cf9 σ ρ := ⟨fun p h => (h2.1 p h).trans (h1.1 p h), h2.2.1.trans h1.2.1, h2.2.2.trans h1.2.2⟩
theorem z_IM_mf {f : Nat → Int32} {sv : Nat} {F : Nat → Nat → Int32} {len : Nat} {tx : Nat → Int32} {σ τ : z_S} (h : z_IM f sv F len tx σ) (hm : z_mf σ τ) : z_IM f sv F len tx τ := by
  obtain ⟨h1, h2, h3, h4, h5⟩ := h
  unfold z_IM zm at *
  rw [hm.1, hm.2.1, hm.2.2]
  exact ⟨h1, h2, h3, h4, h5⟩
theorem z_IC_cf {f : Nat → Int32} {sv : Nat} {F : Nat → Nat → Int32} {len : Nat} {tx : Nat → Int32} {σ τ : z_S} (h : z_IC f sv F len tx σ) (hm : z_cf9 σ τ) : z_IC f sv F len tx τ := by
  obtain ⟨⟨a, g1, g2, g3, g4, g5, g6⟩, h2, h3, h4, h5⟩ := h
  obtain ⟨q1, q2, q3⟩ := hm
  have hb : ∀ j, zb τ j = zb σ j := fun j => by unfold zb; rw [q2]
  refine ⟨⟨a, g1, g2, by rw [q3]; exact g3, by rw [q1 27 (by omega)]; exact g4, by rw [q2]; exact g5, by rw [q2]; exact g6⟩, fun x hx => ?_, fun j x hj hx => ?_, by rw [q1 68 (by omega)]; exact h4, fun j hj => by rw [q1 69 (by omega)]; exact h5 j hj⟩
  · rw [← h2 x hx]
    exact zv_eq (fun p h1 h2 => q1 p (by omega)) hx
  · rw [hb, ← h3 j x hj hx]
    obtain ⟨f', hf, -⟩ := g6
    have e : zb σ j = 81 + 26 * f' j := by unfold zb; rw [(hf j (by omega)).1]; rfl
    rw [e]
    exact zv_eq (fun p h1 h2 => q1 p (by omega)) hx
/-- scratch of the class changed: energies, bills, what the parser notes -/
def z_cs (σ τ : z_S) : Prop := (∀ p, (p < 29 ∨ p = 69 ∨ 73 ≤ p) → zg_i τ p = zg_i σ p) ∧ zg_i τ 68 1 = zg_i σ 68 1 ∧ zg_r τ = zg_r σ ∧ zg_n τ = zg_n σ
theorem z_cs_rfl (σ : z_S) : z_cs σ σ := ⟨fun _ _ => rfl, rfl, rfl, rfl⟩
theorem z_cs_tr {σ τ ρ : z_S} (h1 : z_cs σ τ) (h2 : z_cs τ ρ) : z_cs σ ρ := ⟨fun p h => (h2.1 p h).trans (h1.1 p h), h2.2.1.trans h1.2.1, h2.2.2.1.trans h1.2.2.1, h2.2.2.2.trans h1.2.2.2⟩
theorem z_cs_mf {σ τ : z_S} (h : z_cs σ τ) : z_mf σ τ := ⟨h.1 73 (by omega), h.1 74 (by omega), h.1 80 (by omega)⟩
theorem z_IC_cs {f : Nat → Int32} {sv : Nat} {F : Nat → Nat → Int32} {len : Nat} {tx : Nat → Int32} {σ τ : z_S} (h : z_IC f sv F len tx σ) (hm : z_cs σ τ) : z_IC f sv F len tx τ := by
  obtain ⟨⟨a, g1, g2, g3, g4, g5, g6⟩, h2, h3, h4, h5⟩ := h
  obtain ⟨q1, q68, q2, q3⟩ := hm
  have hb : ∀ j, zb τ j = zb σ j := fun j => by unfold zb; rw [q2]
  refine ⟨⟨a, g1, g2, by rw [q3]; exact g3, by rw [q1 27 (by omega)]; exact g4, by rw [q2]; exact g5, by rw [q2]; exact g6⟩, fun x hx => ?_, fun j x hj hx => ?_, by rw [q68]; exact h4, fun j hj => by rw [q1 69 (by omega)]; exact h5 j hj⟩
  · rw [← h2 x hx]
    exact zv_eq (fun p h1 h2 => q1 p (by omega)) hx
  · rw [hb, ← h3 j x hj hx]
    obtain ⟨f', hf, -⟩ := g6
    have e : zb σ j = 81 + 26 * f' j := by unfold zb; rw [(hf j (by omega)).1]; rfl
    rw [e]
    exact zv_eq (fun p h1 h2 => q1 p (by omega)) hx
/-- scratch of the reference changed -/
def z_ms (σ τ : z_S) : Prop := (∀ p, (p < 73 ∨ p = 74 ∨ 80 ≤ p) → zg_i τ p = zg_i σ p) ∧ zg_i τ 73 1 = zg_i σ 73 1 ∧ zg_i τ 73 8 = zg_i σ 73 8 ∧ zg_r τ = zg_r σ ∧ zg_n τ = zg_n σ
theorem z_ms_rfl (σ : z_S) : z_ms σ σ := ⟨fun _ _ => rfl, rfl, rfl, rfl, rfl⟩
theorem z_ms_tr {σ τ ρ : z_S} (h1 : z_ms σ τ) (h2 : z_ms τ ρ) : z_ms σ ρ := ⟨fun p h => (h2.1 p h).trans (h1.1 p h), h2.2.1.trans h1.2.1, h2.2.2.1.trans h1.2.2.1, h2.2.2.2.1.trans h1.2.2.2.1, h2.2.2.2.2.trans h1.2.2.2.2⟩
theorem z_ms_cf {σ τ : z_S} (h : z_ms σ τ) : z_cf9 σ τ := ⟨fun p hp => h.1 p (by omega), h.2.2.2.1, h.2.2.2.2⟩
theorem z_IM_ms {f : Nat → Int32} {sv : Nat} {F : Nat → Nat → Int32} {len : Nat} {tx : Nat → Int32} {σ τ : z_S} (h : z_IM f sv F len tx σ) (hm : z_ms σ τ) : z_IM f sv F len tx τ := by
  obtain ⟨h1, h2, h3, h4, h5⟩ := h
  obtain ⟨q, q1, q8, -, -⟩ := hm
  unfold z_IM zm at *
  rw [q1, q8, q 74 (by omega), q 80 (by omega)]
  exact ⟨h1, h2, h3, h4, h5⟩
/-- both halves make one step of the law -/
theorem z_comb {f f' : Nat → Int32} {c' sv sv' len len' : Nat} {F F' : Nat → Nat → Int32} {tx tx' : Nat → Int32} {σ : z_S} {α : Type} {r : α} {wC : (α → z_S → Prop) → Prop} {wM : z_S → (α → z_S → Prop) → Prop} {K : α → α → z_S → Prop}
    (hM0 : z_IM f sv F len tx σ) (hG : z_GD f' c' sv' F' len' tx')
    (hC : ∀ Q, (∀ τ, z_IC f' sv' F' len' tx' τ → z_mf σ τ → Q r τ) → wC Q)
    (hM : ∀ σ1, z_IM f sv F len tx σ1 → ∀ Q, (∀ τ, z_IM f' sv' F' len' tx' τ → z_cf9 σ1 τ → Q r τ) → wM σ1 Q)
    (hK : ∀ r σ2, z_Inv σ2 → K r r σ2) : wC (fun r σ1 => wM σ1 (fun r2 σ2 => K r r2 σ2)) :=
  hC _ (fun τ hc hmf => hM τ (z_IM_mf hM0 hmf) _ (fun ρ hm hcf => hK r ρ ⟨f', c', sv', F', len', tx', z_IC_cf hc hcf, hm, hG⟩))
/-- what the places of 'now' hold -/
theorem ic_0 {σ : z_S} {f : Nat → Int32} {x : Nat} (h : ∀ x, x < 264 → zv σ 1 x = f x) (hx : x < 4) : zg_i σ 1 x = f x := by
  rw [← h x (by omega)]
  unfold zv
  rw [if_pos hx]
theorem zv_col {σ : z_S} {k m c : Nat} (hc : c < 5) (hm : m < 10) : zv σ k (4 + 18 * m + c) = zg_i σ (k + (1 + c)) m := by
  unfold zv
  rw [if_neg (by omega), if_pos (by omega), if_pos (by omega), show (4 + 18 * m + c - 4) % 18 = c by omega, show (4 + 18 * m + c - 4) / 18 = m by omega]
theorem zv_read {σ : z_S} {k m b : Nat} (hb : b < 13) (hm : m < 10) : zv σ k (9 + 18 * m + b) = zg_i σ (k + (7 + m)) b := by
  unfold zv
  rw [if_neg (by omega), if_pos (by omega), if_neg (by omega), show (9 + 18 * m + b - 4) % 18 - 5 = b by omega, show (9 + 18 * m + b - 4) / 18 = m by omega]
theorem zv_kept {σ : z_S} {k r m : Nat} (hr : r < 8) (hm : m < 10) : zv σ k (184 + 10 * r + m) = zg_i σ (k + (18 + r)) m := by
  unfold zv
  rw [if_neg (by omega), if_neg (by omega), show (184 + 10 * r + m - 184) / 10 = r by omega, show (184 + 10 * r + m - 184) % 10 = m by omega]
theorem ic_col {σ : z_S} {f : Nat → Int32} {m : Nat} (c : Nat) (h : ∀ x, x < 264 → zv σ 1 x = f x) (hc : c < 5) (hm : m < 10) : zg_i σ (2 + c) m = f (4 + 18 * m + c) := by
  rw [← h _ (by omega), zv_col hc hm, show 1 + (1 + c) = 2 + c by omega]
theorem ic_read {σ : z_S} {f : Nat → Int32} {m b : Nat} (h : ∀ x, x < 264 → zv σ 1 x = f x) (hb : b < 13) (hm : m < 10) : zg_i σ (8 + m) b = f (9 + 18 * m + b) := by
  rw [← h _ (by omega), zv_read hb hm, show 1 + (7 + m) = 8 + m by omega]
theorem ic_kept {σ : z_S} {f : Nat → Int32} {r m : Nat} (h : ∀ x, x < 264 → zv σ 1 x = f x) (hr : r < 8) (hm : m < 10) : zg_i σ (19 + r) m = f (184 + 10 * r + m) := by
  rw [← h _ (by omega), zv_kept hr hm, show 1 + (18 + r) = 19 + r by omega]
theorem im_at {σ : z_S} {f : Nat → Int32} {x : Nat} (h : ∀ x, x < 264 → zm σ 0 x = f x) (hx : x < 264) : zg_i σ 74 x = f x := by
  rw [← h x hx]
  unfold zm
  rw [show 264 * 0 + x = x by omega]
/-! the small tests -/
theorem s_has {σ : z_S} {Q : Int32 → z_S → Prop} {x : Int32} {c : Nat} (hc : zg_i σ 1 0 = nI c) (h10 : c ≤ 10) (h1 : ∀ m, m < c → x = nI m → Q 1 σ) (h0 : (∀ m, m < c → x ≠ nI m) → Q 0 σ) : w_X4_has x σ Q := by
  unfold w_X4_has
  rw [hc]
  refine z_ite (fun hx => ⟨Or.inl rfl, h0 (fun m hm e => ?_)⟩) (fun hx => z_ite (fun hx2 => ⟨Or.inl rfl, h0 (fun m hm e => ?_)⟩) (fun hx2 => ⟨Or.inr rfl, ?_⟩))
  · rw [e] at hx
    exact nI_pos (by omega) hx
  · rw [e] at hx2
    exact nI_ge hm (by omega) hx2
  · obtain ⟨m, hm, e⟩ := z_ltn hx (Int32.not_le.mp hx2) (by omega)
    exact h1 m hm e
theorem z_rng {x : Int32} {lo hi : Nat} (hh : hi < 2 ^ 31) (h1 : ¬ x < nI lo) (h2 : ¬ nI hi < x) (hl : lo < 2 ^ 31) : ∃ i, lo ≤ i ∧ i ≤ hi ∧ x = nI i := by
  have h0 : ¬ x < 0 := fun q => h1 (by
    have := nI_pos' hl
    exact Int32.lt_of_lt_of_le q this)
  obtain ⟨i, hi2, rfl⟩ := z_len h0 (Int32.not_lt.mp h2) hh
  exact ⟨i, (nI_leI hl (by omega)).mp (Int32.not_lt.mp h1), hi2, rfl⟩
theorem s_within {σ : z_S} {Q : Int32 → z_S → Prop} {x : Int32} {lo hi : Nat} (hl : lo < 2 ^ 31) (hh : hi < 2 ^ 31) (h1 : ∀ i, lo ≤ i → i ≤ hi → x = nI i → Q 1 σ) (h0 : (∀ i, lo ≤ i → i ≤ hi → x ≠ nI i) → Q 0 σ) : w_X5_within x (nI lo) (nI hi) σ Q := by
  unfold w_X5_within
  refine z_ite (fun hx => ⟨Or.inl rfl, h0 (fun i g1 g2 e => ?_)⟩) (fun hx => z_ite (fun hx2 => ⟨Or.inl rfl, h0 (fun i g1 g2 e => ?_)⟩) (fun hx2 => ⟨Or.inr rfl, ?_⟩))
  · rw [e] at hx
    exact nI_nlt g1 (by omega) hx
  · rw [e] at hx2
    exact nI_nlt g2 (by omega) hx2
  · obtain ⟨i, g1, g2, e⟩ := z_rng hh hx hx2 hl
    exact h1 i g1 g2 e
theorem s_in {σ : z_S} {Q : Int32 → z_S → Prop} {x : Int32} {lo hi : Nat} (hl : lo < 2 ^ 31) (hh : hi < 2 ^ 31) (h1 : ∀ i, lo ≤ i → i ≤ hi → x = nI i → Q 1 σ) (h0 : (∀ i, lo ≤ i → i ≤ hi → x ≠ nI i) → Q 0 σ) : w_X6_in x (nI lo) (nI hi) σ Q := by
  unfold w_X6_in
  refine z_ite (fun hx => ⟨Or.inl rfl, h0 (fun i g1 g2 e => ?_)⟩) (fun hx => z_ite (fun hx2 => ⟨Or.inl rfl, h0 (fun i g1 g2 e => ?_)⟩) (fun hx2 => ⟨Or.inr rfl, ?_⟩))
  · rw [e] at hx
    exact nI_nlt g1 (by omega) hx
  · rw [e] at hx2
    exact nI_nlt g2 (by omega) hx2
  · obtain ⟨i, g1, g2, e⟩ := z_rng hh hx hx2 hl
    exact h1 i g1 g2 e
/-- 0 to n - 1, also for n = 0 -/
theorem s_inn {σ : z_S} {Q : Int32 → z_S → Prop} {x : Int32} {n : Nat} (hn : n < 2 ^ 31) (h1 : ∀ m, m < n → x = nI m → Q 1 σ) (h0 : (∀ m, m < n → x ≠ nI m) → Q 0 σ) : w_X6_in x 0 (nI n - 1) σ Q := by
  cases n with
  | zero =>
    unfold w_X6_in
    refine z_ite (fun hx => ⟨Or.inl rfl, h0 (fun m hm => absurd hm (by omega))⟩) (fun hx => z_ifp ?_ ⟨Or.inl rfl, h0 (fun m hm => absurd hm (by omega))⟩)
    refine Int32.lt_of_lt_of_le (show nI 0 - 1 < 0 by decide) (Int32.not_lt.mp hx)
  | succ n =>
    rw [nI_pred]
    exact s_in (lo := 0) (by omega) (by omega) (fun i _ g2 e => h1 i (by omega) e) (fun h => h0 (fun m hm => h m (by omega) (by omega)))
theorem s_isMeter {σ : z_S} {Q : Int32 → z_S → Prop} {x : Int32} {f : Nat → Int32} {c : Nat} (h : ∀ x, x < 264 → zm σ 0 x = f x) (hc : f 0 = nI c) (h10 : c ≤ 10) (h1 : ∀ m, m < c → x = nI m → Q 1 σ) (h0 : (∀ m, m < c → x ≠ nI m) → Q 0 σ) : w_X6_isMeter x σ Q := by
  unfold w_X6_isMeter
  rw [show (0 : Int32).toNatClampNeg = 0 from rfl, im_at h (by omega), hc]
  exact ⟨z_vin (i := 0) (by omega) (by omega), s_inn (by omega) (fun m hm e => ⟨Or.inr rfl, h1 m hm e⟩) (fun q => ⟨Or.inl rfl, h0 q⟩)⟩
theorem s_of {σ : z_S} {Q : Int32 → z_S → Prop} {f : Nat → Int32} {m c : Nat} (h : ∀ x, x < 264 → zm σ 0 x = f x) (hm : m < 10) (hc : c < 18) (hq : Q (f (4 + 18 * m + c)) σ) : w_X6_of (nI m) (nI c) σ Q := by
  unfold w_X6_of
  have e : ((4 : Int32) + ((18 : Int32) * nI m)) + nI c = nI (4 + 18 * m + c) := by
    rw [show (4 : Int32) = nI 4 from rfl, show (18 : Int32) = nI 18 from rfl, nI_mul, nI_add, nI_add]
  rw [e, z_tn (by omega), im_at h (by omega)]
  exact ⟨z_vin (by omega) (by omega), hq⟩
