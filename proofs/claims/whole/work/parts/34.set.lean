/-! writes to the present state; recording -/
def z_fup (f : Nat → Int32) (x : Nat) (v : Int32) : Nat → Int32 := fun y => if y = x then v else f y
theorem z_fup_at (f : Nat → Int32) (x : Nat) (v : Int32) : z_fup f x v x = v := if_pos rfl
theorem z_fup_ne (f : Nat → Int32) {x y : Nat} (v : Int32) (h : y ≠ x) : z_fup f x v y = f y := if_neg h
/-- the states that the history holds behind a recording -/
def z_F1 (f : Nat → Int32) (sv : Nat) (F : Nat → Nat → Int32) : Nat → Nat → Int32 := fun j => if j < min sv 4 then F (if sv = 5 then j + 1 else j) else f
theorem push_IC {f : Nat → Int32} {sv : Nat} {F : Nat → Nat → Int32} {len : Nat} {tx : Nat → Int32} {σ : z_S} {Q : z_S → Prop} (h : z_IC f sv F len tx σ) (hq : ∀ τ, z_IC f (min sv 4 + 1) (z_F1 f sv F) len tx τ → z_mf σ τ → Q τ) : w_X2_push σ Q := by
  obtain ⟨⟨a, ha⟩, h2, h3, h4, h5⟩ := h
  have hsv : sv ≤ 5 := Nat.le_trans ha.1 ha.2.1
  refine s_push ha (fun τ hτ => ?_)
  obtain ⟨p1, p2, p3, p4, -⟩ := hτ
  refine hq τ ⟨p3, fun x hx => ?_, fun j x hj hx => ?_, by rw [p4 68 (by omega) (by omega)]; exact h4, fun j hj => by rw [p4 69 (by omega) (by omega)]; exact h5 j hj⟩ ⟨p4 73 (by omega) (by omega), p4 74 (by omega) (by omega), p4 80 (by omega) (by omega)⟩
  · rw [← h2 x hx]
    exact zv_eq (fun p g1 g2 => p4 p (by omega) (by omega)) hx
  · unfold z_F1
    by_cases hj4 : j < min sv 4
    · rw [if_pos hj4, p1 j x hx hj4]
      exact h3 _ x (by split <;> omega) hx
    · rw [if_neg hj4, show j = min sv 4 by omega, p2 x hx]
      exact h2 x hx
theorem saves_IM {f : Nat → Int32} {sv : Nat} {F : Nat → Nat → Int32} {len : Nat} {tx : Nat → Int32} {σ : z_S} {Q : z_S → Prop} (hs : sv ≤ 5) (h : z_IM f sv F len tx σ) (hq : ∀ τ, z_IM f (min sv 4 + 1) (z_F1 f sv F) len tx τ → z_cf9 σ τ → Q τ) : w_X6_saves σ Q := by
  obtain ⟨h1, h2, h3, h4, h5⟩ := h
  refine s_saves h1 hs (fun τ hτ => ?_)
  obtain ⟨p1, p2, p3, p4, p5, p6, p7⟩ := hτ
  refine hq τ ⟨p4, fun x hx => by rw [p1 x hx]; exact h2 x hx, fun j x hj hx => ?_, by rw [p5 8 (by omega)]; exact h4, fun j hj => by rw [p6 80 (by omega) (by omega)]; exact h5 j hj⟩ ⟨fun p hp => p6 p (by omega) (by omega), ?_, ?_⟩
  · unfold z_F1
    by_cases hj4 : j < min sv 4
    · rw [if_pos hj4, p2 (j + 1) x hx (by omega) (by omega)]
      by_cases h5' : sv = 5
      · rw [if_pos h5', if_pos h5']
        exact h3 _ x (by omega) hx
      · rw [if_neg h5', if_neg h5']
        exact h3 _ x (by omega) hx
    · rw [if_neg hj4, show j = min sv 4 by omega, p3 x hx]
      exact h2 x hx
  · show τ.2.2.1 = _
    rw [p7]
    rfl
  · show τ.2.2.2 = _
    rw [p7]
    rfl
theorem z_GD_rec {f f' : Nat → Int32} {c c' sv : Nat} {F : Nat → Nat → Int32} {len : Nat} {tx : Nat → Int32} (h : z_GD f c sv F len tx) (h' : z_fine f' c') : z_GD f' c' (min sv 4 + 1) (z_F1 f sv F) len tx := by
  obtain ⟨h1, h2, h3, h4, h5⟩ := h
  refine ⟨h', by omega, fun j hj => ?_, h4, h5⟩
  unfold z_F1
  by_cases hj4 : j < min sv 4
  · rw [if_pos hj4]
    exact h3 _ (by split <;> omega)
  · rw [if_neg hj4]
    exact ⟨c, h1⟩
/-- a write to a place of 'now' -/
theorem ic_set {f : Nat → Int32} {sv : Nat} {F : Nat → Nat → Int32} {len : Nat} {tx : Nat → Int32} {σ : z_S} {p y x : Nat} {v : Int32} (h : z_IC f sv F len tx σ) (hp : p < 27) (hv : ∀ z, z < 264 → zv (zs_i σ p y v) 1 z = if z = x then v else zv σ 1 z) : z_IC (z_fup f x v) sv F len tx (zs_i σ p y v) := by
  obtain ⟨⟨a, g1, g2, g3, g4, g5, g6⟩, h2, h3, h4, h5⟩ := h
  refine ⟨⟨a, g1, g2, g3, by rw [zs_i_ne (by omega)]; exact g4, g5, g6⟩, fun z hz => ?_, fun j z hj hz => ?_, by rw [zs_i_ne (by omega)]; exact h4, fun j hj => by rw [zs_i_ne (by omega)]; exact h5 j hj⟩
  · rw [hv z hz]
    unfold z_fup
    split
    · rfl
    · exact h2 z hz
  · rw [← h3 j z hj hz]
    have hb : zb (zs_i σ p y v) j = zb σ j := rfl
    rw [hb]
    obtain ⟨f', hf, -⟩ := g6
    have e : zb σ j = 81 + 26 * f' j := by unfold zb; rw [(hf j (by omega)).1]; rfl
    rw [e]
    exact zv_eq (fun q g1 g2 => zs_i_ne (by omega)) hz
theorem ic_set0 {f : Nat → Int32} {sv : Nat} {F : Nat → Nat → Int32} {len : Nat} {tx : Nat → Int32} {σ : z_S} {x : Nat} {v : Int32} (h : z_IC f sv F len tx σ) (hx : x < 4) : z_IC (z_fup f x v) sv F len tx (zs_i σ 1 x v) := by
  refine ic_set h (by omega) (fun z hz => ?_)
  unfold zv
  by_cases h1 : z < 4
  · rw [if_pos h1, if_pos h1, zg_i_si]
    by_cases h2 : z = x
    · rw [if_pos ⟨rfl, h2⟩, if_pos h2]
    · rw [if_neg (fun q => h2 q.2), if_neg h2]
  · rw [if_neg h1, if_neg h1, if_neg (show ¬ z = x by omega)]
    by_cases h2 : z < 184
    · rw [if_pos h2, if_pos h2]
      by_cases h3 : (z - 4) % 18 < 5
      · rw [if_pos h3, if_pos h3, zs_i_ne (by omega)]
      · rw [if_neg h3, if_neg h3, zs_i_ne (by omega)]
    · rw [if_neg h2, if_neg h2, zs_i_ne (by omega)]
theorem ic_setc {f : Nat → Int32} {sv : Nat} {F : Nat → Nat → Int32} {len : Nat} {tx : Nat → Int32} {σ : z_S} {m : Nat} (c : Nat) {v : Int32} (h : z_IC f sv F len tx σ) (hc : c < 5) (hm : m < 10) : z_IC (z_fup f (4 + 18 * m + c) v) sv F len tx (zs_i σ (2 + c) m v) := by
  refine ic_set h (by omega) (fun z hz => ?_)
  unfold zv
  by_cases h1 : z < 4
  · rw [if_pos h1, if_pos h1, if_neg (show ¬ z = 4 + 18 * m + c by omega), zs_i_ne (by omega)]
  · rw [if_neg h1, if_neg h1]
    by_cases h2 : z < 184
    · rw [if_pos h2, if_pos h2]
      by_cases h3 : (z - 4) % 18 < 5
      · rw [if_pos h3, if_pos h3, zg_i_si]
        by_cases h4 : z = 4 + 18 * m + c
        · rw [if_pos h4, if_pos (by omega)]
        · rw [if_neg h4, if_neg (by omega)]
      · rw [if_neg h3, if_neg h3, if_neg (by omega), zs_i_ne (by omega)]
    · rw [if_neg h2, if_neg h2, if_neg (by omega), zs_i_ne (by omega)]
theorem ic_setr {f : Nat → Int32} {sv : Nat} {F : Nat → Nat → Int32} {len : Nat} {tx : Nat → Int32} {σ : z_S} {m b : Nat} {v : Int32} (h : z_IC f sv F len tx σ) (hb : b < 13) (hm : m < 10) : z_IC (z_fup f (9 + 18 * m + b) v) sv F len tx (zs_i σ (8 + m) b v) := by
  refine ic_set h (by omega) (fun z hz => ?_)
  unfold zv
  by_cases h1 : z < 4
  · rw [if_pos h1, if_pos h1, if_neg (show ¬ z = 9 + 18 * m + b by omega), zs_i_ne (by omega)]
  · rw [if_neg h1, if_neg h1]
    by_cases h2 : z < 184
    · rw [if_pos h2, if_pos h2]
      by_cases h3 : (z - 4) % 18 < 5
      · rw [if_pos h3, if_pos h3, if_neg (by omega), zs_i_ne (by omega)]
      · rw [if_neg h3, if_neg h3, zg_i_si]
        by_cases h4 : z = 9 + 18 * m + b
        · rw [if_pos h4, if_pos (by omega)]
        · rw [if_neg h4, if_neg (by omega)]
    · rw [if_neg h2, if_neg h2, if_neg (by omega), zs_i_ne (by omega)]
theorem ic_setk {f : Nat → Int32} {sv : Nat} {F : Nat → Nat → Int32} {len : Nat} {tx : Nat → Int32} {σ : z_S} {r m : Nat} {v : Int32} (h : z_IC f sv F len tx σ) (hr : r < 8) (hm : m < 10) : z_IC (z_fup f (184 + 10 * r + m) v) sv F len tx (zs_i σ (19 + r) m v) := by
  refine ic_set h (by omega) (fun z hz => ?_)
  unfold zv
  by_cases h1 : z < 4
  · rw [if_pos h1, if_pos h1, if_neg (by omega), zs_i_ne (by omega)]
  · rw [if_neg h1, if_neg h1]
    by_cases h2 : z < 184
    · rw [if_pos h2, if_pos h2, if_neg (show ¬ z = 184 + 10 * r + m by omega)]
      by_cases h3 : (z - 4) % 18 < 5
      · rw [if_pos h3, if_pos h3, zs_i_ne (by omega)]
      · rw [if_neg h3, if_neg h3, zs_i_ne (by omega)]
    · rw [if_neg h2, if_neg h2, zg_i_si]
      by_cases h4 : z = 184 + 10 * r + m
      · rw [if_pos h4, if_pos (by omega)]
      · rw [if_neg h4, if_neg (by omega)]
theorem im_set {f : Nat → Int32} {sv : Nat} {F : Nat → Nat → Int32} {len : Nat} {tx : Nat → Int32} {σ : z_S} {x : Nat} {v : Int32} (h : z_IM f sv F len tx σ) (hx : x < 264) : z_IM (z_fup f x v) sv F len tx (zs_i σ 74 x v) := by
  obtain ⟨h1, h2, h3, h4, h5⟩ := h
  refine ⟨by rw [zs_i_ne (by omega)]; exact h1, fun z hz => ?_, fun j z hj hz => ?_, by rw [zs_i_ne (by omega)]; exact h4, fun j hj => by rw [zs_i_ne (by omega)]; exact h5 j hj⟩
  · unfold zm z_fup
    rw [zg_i_si]
    by_cases e : z = x
    · rw [if_pos (by omega), if_pos e]
    · rw [if_neg (by omega), if_neg e]
      have := h2 z hz
      unfold zm at this
      exact this
  · rw [← h3 j z hj hz]
    unfold zm
    rw [zg_i_si, if_neg (by omega)]
theorem z_mf_i {σ : z_S} {p y : Nat} {v : Int32} (hp : p < 73) : z_mf σ (zs_i σ p y v) := ⟨zs_i_ne (by omega), zs_i_ne (by omega), zs_i_ne (by omega)⟩
theorem z_cf_i {σ : z_S} {p y : Nat} {v : Int32} (hp : 73 ≤ p) (hp2 : p ≤ 80) : z_cf9 σ (zs_i σ p y v) := ⟨fun q hq => zs_i_ne (by omega), rfl, rfl⟩
theorem s_sets {f : Nat → Int32} {sv : Nat} {F : Nat → Nat → Int32} {len : Nat} {tx : Nat → Int32} {σ : z_S} {Q : z_S → Prop} {m c : Nat} {v : Int32} (h : z_IM f sv F len tx σ) (hm : m < 10) (hc : c < 18) (hq : ∀ τ, z_IM (z_fup f (4 + 18 * m + c) v) sv F len tx τ → z_cf9 σ τ → Q τ) : w_X6_sets (nI m) (nI c) v σ Q := by
  unfold w_X6_sets
  have e : ((4 : Int32) + ((18 : Int32) * nI m)) + nI c = nI (4 + 18 * m + c) := by
    rw [show (4 : Int32) = nI 4 from rfl, show (18 : Int32) = nI 18 from rfl, nI_mul, nI_add, nI_add]
  rw [e, z_tn (by omega)]
  refine ⟨z_vin (by omega) (by omega), ?_⟩
  rintro _ rfl
  exact hq _ (im_set h (by omega)) (z_cf_i (by omega) (by omega))
/-- what stays right when one number changes -/
theorem fine_set {f : Nat → Int32} {c m k : Nat} {v : Int32} (h : z_fine f c) (hm : m < 10) (hk : k = 1 ∧ (∃ n, 1 ≤ n ∧ n ≤ 100 ∧ v = nI n) ∨ k = 3 ∧ (∃ n, 1 ≤ n ∧ n ≤ 50000 ∧ v = nI n) ∨ k = 4 ∧ (∃ n, 1 ≤ n ∧ n ≤ 100 ∧ v = nI n)) : z_fine (z_fup f (4 + 18 * m + k) v) c := by
  obtain ⟨h1, h2, h3, h4, h5, h6, h7, h8⟩ := h
  have ne : ∀ y, y ≠ 4 + 18 * m + k → z_fup f (4 + 18 * m + k) v y = f y := fun y hy => z_fup_ne f v hy
  have hk5 : 1 ≤ k ∧ k < 5 ∧ k ≠ 2 := by omega
  refine ⟨h1, by rw [ne _ (by omega)]; exact h2, by rw [ne _ (by omega)]; exact h3, by rw [ne _ (by omega)]; exact h4, by rw [ne _ (by omega)]; exact h5, by rw [ne _ (by omega)]; exact h6, fun q g1 g2 => by rw [ne _ (by omega)]; exact h7 q g1 g2, fun q hq => ?_⟩
  obtain ⟨a1, a3, a4, d, d1, d2, d3, d4⟩ := h8 q hq
  refine ⟨?_, ?_, ?_, d, d1, d2, by rw [ne _ (by omega)]; exact d3, fun b hb => by rw [ne _ (by omega)]; exact d4 b hb⟩
  · by_cases e : 4 + 18 * q + 1 = 4 + 18 * m + k
    · rw [e, z_fup_at]
      rcases hk with ⟨-, hk⟩ | ⟨hk, -⟩ | ⟨hk, -⟩
      · exact hk
      · omega
      · omega
    · rw [ne _ e]
      exact a1
  · by_cases e : 4 + 18 * q + 3 = 4 + 18 * m + k
    · rw [e, z_fup_at]
      rcases hk with ⟨hk, -⟩ | ⟨-, hk⟩ | ⟨hk, -⟩
      · omega
      · exact hk
      · omega
    · rw [ne _ e]
      exact a3
  · by_cases e : 4 + 18 * q + 4 = 4 + 18 * m + k
    · rw [e, z_fup_at]
      rcases hk with ⟨hk, -⟩ | ⟨hk, -⟩ | ⟨-, hk⟩
      · omega
      · omega
      · exact hk
    · rw [ne _ e]
      exact a4
