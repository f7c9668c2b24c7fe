/-! the text: what both parsers read -/
def z_sk (tx : Nat → Int32) (len : Nat) : Nat → Nat → Nat
  | 0, p => p
  | d + 1, p => if p < len ∧ tx p = 32 then z_sk tx len d (p + 1) else p
def z_bs (tx : Nat → Int32) (len p : Nat) : Nat := z_sk tx len (len - p) p
theorem z_sk_b (tx : Nat → Int32) (len : Nat) : ∀ d p, p ≤ z_sk tx len d p ∧ z_sk tx len d p ≤ p + d := by
  intro d
  induction d with
  | zero => exact fun p => ⟨Nat.le_refl p, Nat.le_refl p⟩
  | succ d ih =>
    intro p
    unfold z_sk
    by_cases h : p < len ∧ tx p = 32
    · rw [if_pos h]
      have := ih (p + 1)
      omega
    · rw [if_neg h]
      omega
theorem z_sk_e (tx : Nat → Int32) (len : Nat) : ∀ d p, p + d = len → z_sk tx len d p < len → tx (z_sk tx len d p) ≠ 32 := by
  intro d
  induction d with
  | zero =>
    intro p hp h
    have h : p < len := h
    omega
  | succ d ih =>
    intro p hp
    by_cases h : p < len ∧ tx p = 32
    · have e : z_sk tx len (d + 1) p = z_sk tx len d (p + 1) := if_pos h
      rw [e]
      exact ih (p + 1) (by omega)
    · have e : z_sk tx len (d + 1) p = p := if_neg h
      rw [e]
      exact fun h1 h2 => h ⟨h1, h2⟩
theorem z_bs_b {tx : Nat → Int32} {len p : Nat} (hp : p ≤ len) : p ≤ z_bs tx len p ∧ z_bs tx len p ≤ len := by
  have := z_sk_b tx len (len - p) p
  unfold z_bs
  omega
theorem z_bs_n {tx : Nat → Int32} {len p : Nat} (hp : p ≤ len) (h : z_bs tx len p < len) : tx (z_bs tx len p) ≠ 32 := z_sk_e tx len (len - p) p (by omega) h
theorem z_bs_i {tx : Nat → Int32} {len p : Nat} (hp : p ≤ len) : z_bs tx len (z_bs tx len p) = z_bs tx len p := by
  have hb := z_bs_b (tx := tx) hp
  have hn := z_bs_n (tx := tx) hp
  generalize z_bs tx len p = q at hb hn
  unfold z_bs
  cases e : len - q with
  | zero => rfl
  | succ d => exact if_neg (fun h => hn h.1 h.2)
def z_dc (tx : Nat → Int32) (len : Nat) : Nat → Nat → Nat
  | 0, _ => 0
  | d + 1, p => if p < len ∧ (48 : Int32) ≤ tx p ∧ tx p ≤ (57 : Int32) then z_dc tx len d (p + 1) + 1 else 0
theorem z_dc_b (tx : Nat → Int32) (len : Nat) : ∀ d p, z_dc tx len d p ≤ d := by
  intro d
  induction d with
  | zero => exact fun p => Nat.le_refl 0
  | succ d ih =>
    intro p
    unfold z_dc
    by_cases h : p < len ∧ (48 : Int32) ≤ tx p ∧ tx p ≤ (57 : Int32)
    · rw [if_pos h]
      have := ih (p + 1)
      omega
    · rw [if_neg h]
      omega
def z_vn (tx : Nat → Int32) (q : Nat) : Nat → Nat
  | 0 => 0
  | j + 1 => 10 * z_vn tx q j + min 9 ((tx (q + j)).toNatClampNeg - 48)
theorem z_vn_b (tx : Nat → Int32) (q : Nat) : ∀ j, z_vn tx q j < 10 ^ j := by
  intro j
  induction j with
  | zero => exact Nat.zero_lt_one
  | succ j ih =>
    show 10 * z_vn tx q j + min 9 _ < 10 ^ j * 10
    omega
theorem z_p10b {j n : Nat} (h : j ≤ n) : 10 ^ j ≤ 10 ^ n := Nat.pow_le_pow_right (by omega) h
/-- one digit more -/
theorem z_vn_s {tx : Nat → Int32} {q j : Nat} (h1 : (48 : Int32) ≤ tx (q + j)) (h2 : tx (q + j) ≤ (57 : Int32)) (hb : ∃ b, b < 256 ∧ tx (q + j) = nI b) : nI (z_vn tx q j) * (10 : Int32) + tx (q + j) - (48 : Int32) = nI (z_vn tx q (j + 1)) := by
  obtain ⟨b, hb, e⟩ := hb
  rw [e] at h1 h2
  have g1 : 48 ≤ b := (nI_leI (a := 48) (by omega) (by omega)).mp h1
  have g2 : b ≤ 57 := (nI_leI (b := 57) (by omega) (by omega)).mp h2
  have e2 : z_vn tx q (j + 1) = 10 * z_vn tx q j + min 9 ((tx (q + j)).toNatClampNeg - 48) := rfl
  rw [e2, e, z_tn (by omega), show (10 : Int32) = nI 10 from rfl, nI_mul, nI_add, show (48 : Int32) = nI 48 from rfl, nI_sub (by omega)]
  congr 1
  omega
def z_num (tx : Nat → Int32) (len p B : Nat) : Option (Nat × Nat) :=
  if 0 < z_dc tx len (len - z_bs tx len p) (z_bs tx len p) ∧ z_dc tx len (len - z_bs tx len p) (z_bs tx len p) ≤ 6 ∧ z_vn tx (z_bs tx len p) (z_dc tx len (len - z_bs tx len p) (z_bs tx len p)) < B then some (z_vn tx (z_bs tx len p) (z_dc tx len (len - z_bs tx len p) (z_bs tx len p)), z_bs tx len p + z_dc tx len (len - z_bs tx len p) (z_bs tx len p)) else none
theorem z_num_i {tx : Nat → Int32} {len p : Nat} (B : Nat) (hp : p ≤ len) : z_num tx len (z_bs tx len p) B = z_num tx len p B := by
  unfold z_num
  rw [z_bs_i hp]
theorem z_num_c {tx : Nat → Int32} {len p B v p' : Nat} (hp : p ≤ len) (h : z_num tx len p B = some (v, p')) : v < B ∧ v < 1000000 ∧ p < p' ∧ p' ≤ len := by
  have hb := z_bs_b (tx := tx) hp
  have hd := z_dc_b tx len (len - z_bs tx len p) (z_bs tx len p)
  have hv := z_vn_b tx (z_bs tx len p) (z_dc tx len (len - z_bs tx len p) (z_bs tx len p))
  unfold z_num at h
  generalize z_dc tx len (len - z_bs tx len p) (z_bs tx len p) = k at h hd hv
  by_cases e : 0 < k ∧ k ≤ 6 ∧ z_vn tx (z_bs tx len p) k < B
  · rw [if_pos e] at h
    injection h with h
    injection h with h1 h2
    have := z_p10b e.2.1
    omega
  · rw [if_neg e] at h
    cases h
/-- an entry: its fault, or meter, boundary, value, and where it ends -/
def z_ov : Option Nat → Int32
  | none => -2000000000
  | some v => nI v
abbrev z_sign (tx : Nat → Int32) (len : Nat) (code : Int32) (p : Nat) : Prop := z_bs tx len p < len ∧ tx (z_bs tx len p) = code
def z_ent (tx : Nat → Int32) (len c : Nat) (sp : Nat → Nat) (p : Nat) : Nat ⊕ ((Nat × Nat × Option Nat) × Nat) :=
  match z_num tx len p c with
  | none => .inl (z_bs tx len p)
  | some r1 => if z_sign tx len 64 r1.2 then (match z_num tx len (z_bs tx len r1.2 + 1) 13 with
    | none => .inl (z_bs tx len (z_bs tx len r1.2 + 1))
    | some r2 => if z_sign tx len 61 r2.2 then (if z_sign tx len 45 (z_bs tx len r2.2 + 1) then .inr ((r1.1, r2.1, none), z_bs tx len (z_bs tx len r2.2 + 1) + 1) else (match z_num tx len (z_bs tx len r2.2 + 1) (sp r1.1) with
      | none => .inl (z_bs tx len (z_bs tx len r2.2 + 1))
      | some r3 => .inr ((r1.1, r2.1, some r3.1), r3.2))) else .inl (z_bs tx len r2.2)) else .inl (z_bs tx len r1.2)
section ZEN
variable {tx : Nat → Int32} {len c : Nat} {sp : Nat → Nat} {p m b v p1 p2 p3 : Nat}
theorem z_ent_1 (h : z_num tx len p c = none) : z_ent tx len c sp p = .inl (z_bs tx len p) := by
  unfold z_ent
  rw [h]
theorem z_ent_2 (h : z_num tx len p c = some (m, p1)) (g : ¬ z_sign tx len 64 p1) : z_ent tx len c sp p = .inl (z_bs tx len p1) := by
  unfold z_ent
  rw [h]
  exact if_neg g
theorem z_ent_3 (h : z_num tx len p c = some (m, p1)) (g : z_sign tx len 64 p1) (h2 : z_num tx len (z_bs tx len p1 + 1) 13 = none) : z_ent tx len c sp p = .inl (z_bs tx len (z_bs tx len p1 + 1)) := by
  unfold z_ent
  rw [h]
  refine (if_pos g).trans ?_
  show (match z_num tx len (z_bs tx len p1 + 1) 13 with | none => _ | some r2 => _) = _
  rw [h2]
theorem z_ent_b (h : z_num tx len p c = some (m, p1)) (g : z_sign tx len 64 p1) (h2 : z_num tx len (z_bs tx len p1 + 1) 13 = some (b, p2)) : z_ent tx len c sp p = if z_sign tx len 61 p2 then (if z_sign tx len 45 (z_bs tx len p2 + 1) then .inr ((m, b, none), z_bs tx len (z_bs tx len p2 + 1) + 1) else (match z_num tx len (z_bs tx len p2 + 1) (sp m) with
      | none => .inl (z_bs tx len (z_bs tx len p2 + 1))
      | some r3 => .inr ((m, b, some r3.1), r3.2))) else .inl (z_bs tx len p2) := by
  unfold z_ent
  rw [h]
  refine (if_pos g).trans ?_
  show (match z_num tx len (z_bs tx len p1 + 1) 13 with | none => _ | some r2 => _) = _
  rw [h2]
theorem z_ent_4 (h : z_num tx len p c = some (m, p1)) (g : z_sign tx len 64 p1) (h2 : z_num tx len (z_bs tx len p1 + 1) 13 = some (b, p2)) (g2 : ¬ z_sign tx len 61 p2) : z_ent tx len c sp p = .inl (z_bs tx len p2) := (z_ent_b h g h2).trans (if_neg g2)
theorem z_ent_5 (h : z_num tx len p c = some (m, p1)) (g : z_sign tx len 64 p1) (h2 : z_num tx len (z_bs tx len p1 + 1) 13 = some (b, p2)) (g2 : z_sign tx len 61 p2) (g3 : z_sign tx len 45 (z_bs tx len p2 + 1)) : z_ent tx len c sp p = .inr ((m, b, none), z_bs tx len (z_bs tx len p2 + 1) + 1) := (z_ent_b h g h2).trans ((if_pos g2).trans (if_pos g3))
theorem z_ent_6 (h : z_num tx len p c = some (m, p1)) (g : z_sign tx len 64 p1) (h2 : z_num tx len (z_bs tx len p1 + 1) 13 = some (b, p2)) (g2 : z_sign tx len 61 p2) (g3 : ¬ z_sign tx len 45 (z_bs tx len p2 + 1)) (h3 : z_num tx len (z_bs tx len p2 + 1) (sp m) = none) : z_ent tx len c sp p = .inl (z_bs tx len (z_bs tx len p2 + 1)) := by
  refine (z_ent_b h g h2).trans ((if_pos g2).trans ((if_neg g3).trans ?_))
  rw [h3]
theorem z_ent_7 (h : z_num tx len p c = some (m, p1)) (g : z_sign tx len 64 p1) (h2 : z_num tx len (z_bs tx len p1 + 1) 13 = some (b, p2)) (g2 : z_sign tx len 61 p2) (g3 : ¬ z_sign tx len 45 (z_bs tx len p2 + 1)) (h3 : z_num tx len (z_bs tx len p2 + 1) (sp m) = some (v, p3)) : z_ent tx len c sp p = .inr ((m, b, some v), p3) := by
  refine (z_ent_b h g h2).trans ((if_pos g2).trans ((if_neg g3).trans ?_))
  rw [h3]
end ZEN
/-- what an entry's parts are -/
def z_eok (c : Nat) (sp : Nat → Nat) (e : Nat × Nat × Option Nat) : Prop := e.1 < c ∧ e.2.1 < 13 ∧ ∀ v, e.2.2 = some v → v < sp e.1 ∧ v < 1000000
theorem z_ent_c {tx : Nat → Int32} {len c : Nat} {sp : Nat → Nat} {p : Nat} (hp : p ≤ len) : (∃ F, z_ent tx len c sp p = .inl F ∧ F ≤ len) ∨ ∃ e p', z_ent tx len c sp p = .inr (e, p') ∧ z_eok c sp e ∧ p + 5 ≤ p' ∧ p' ≤ len := by
  cases h : z_num tx len p c with
  | none => exact Or.inl ⟨_, z_ent_1 h, (z_bs_b hp).2⟩
  | some r1 =>
    obtain ⟨m, p1⟩ := r1
    obtain ⟨a1, -, a2, a3⟩ := z_num_c hp h
    have b1 := z_bs_b (tx := tx) a3
    by_cases g : z_sign tx len 64 p1
    · have q1 : z_bs tx len p1 + 1 ≤ len := g.1
      cases h2 : z_num tx len (z_bs tx len p1 + 1) 13 with
      | none => exact Or.inl ⟨_, z_ent_3 h g h2, (z_bs_b q1).2⟩
      | some r2 =>
        obtain ⟨b, p2⟩ := r2
        obtain ⟨c1, -, c2, c3⟩ := z_num_c q1 h2
        have b2 := z_bs_b (tx := tx) c3
        by_cases g2 : z_sign tx len 61 p2
        · have q2 : z_bs tx len p2 + 1 ≤ len := g2.1
          have b3 := z_bs_b (tx := tx) q2
          by_cases g3 : z_sign tx len 45 (z_bs tx len p2 + 1)
          · have q3 : z_bs tx len (z_bs tx len p2 + 1) + 1 ≤ len := g3.1
            exact Or.inr ⟨_, _, z_ent_5 h g h2 g2 g3, ⟨a1, c1, fun v hv => by cases hv⟩, by omega, q3⟩
          · cases h3 : z_num tx len (z_bs tx len p2 + 1) (sp m) with
            | none => exact Or.inl ⟨_, z_ent_6 h g h2 g2 g3 h3, b3.2⟩
            | some r3 =>
              obtain ⟨v, p3⟩ := r3
              obtain ⟨d1, d0, d2, d3⟩ := z_num_c q2 h3
              exact Or.inr ⟨_, _, z_ent_7 h g h2 g2 g3 h3, ⟨a1, c1, fun w hw => by
                injection hw with hw
                subst hw
                exact ⟨d1, d0⟩⟩, by omega, d3⟩
        · exact Or.inl ⟨_, z_ent_4 h g h2 g2, b2.2⟩
    · exact Or.inl ⟨_, z_ent_2 h g, b1.2⟩
/-! the class reads -/
def z_p6 (σ τ : z_S) : Prop := (∀ p x, ¬ (p = 68 ∧ (x = 6 ∨ x = 7)) → zg_i τ p x = zg_i σ p x) ∧ zg_r τ = zg_r σ ∧ zg_n τ = zg_n σ
theorem z_p6_rfl (σ : z_S) : z_p6 σ σ := ⟨fun _ _ _ => rfl, rfl, rfl⟩
theorem z_p6_tr {σ τ ρ : z_S} (h1 : z_p6 σ τ) (h2 : z_p6 τ ρ) : z_p6 σ ρ := ⟨fun p x h => (h2.1 p x h).trans (h1.1 p x h), h2.2.1.trans h1.2.1, h2.2.2.trans h1.2.2⟩
theorem z_p6_i {σ : z_S} {y : Nat} {v : Int32} (hy : y = 6 ∨ y = 7) : z_p6 σ (zs_i σ 68 y v) := ⟨fun p x h => by rw [zg_i_si, if_neg (by omega)], rfl, rfl⟩
theorem z_p6_cs {σ τ : z_S} (h : z_p6 σ τ) : z_cs σ τ := ⟨fun p hp => funext fun x => h.1 p x (by omega), h.1 68 1 (by omega), h.2.1, h.2.2⟩
def z_tc (len : Nat) (tx : Nat → Int32) (σ : z_S) : Prop := zg_i σ 68 1 = nI len ∧ ∀ j, j < 120 → zg_i σ 69 j = tx j
theorem z_tc_cs {len : Nat} {tx : Nat → Int32} {σ τ : z_S} (h : z_tc len tx σ) (hc : z_cs σ τ) : z_tc len tx τ := ⟨by rw [hc.2.1]; exact h.1, fun j hj => by rw [hc.1 69 (by omega)]; exact h.2 j hj⟩
theorem z_tc_p6 {len : Nat} {tx : Nat → Int32} {σ τ : z_S} (h : z_tc len tx σ) (hc : z_p6 σ τ) : z_tc len tx τ := z_tc_cs h (z_p6_cs hc)
theorem s_peek_y {len p : Nat} {tx : Nat → Int32} {σ : z_S} {Q : Int32 → z_S → Prop} (hl : len ≤ 120) (ht : z_tc len tx σ) (hp : zg_i σ 68 6 = nI p) (h : p < len) (hq : Q (tx p) σ) : w_X3_peek σ Q := by
  unfold w_X3_peek
  rw [hp, ht.1, z_tn (by omega), ht.2 p (by omega)]
  exact z_ifn (nI_pos (by omega)) (z_ifn (nI_ge h (by omega)) ⟨z_vin (by omega) (by omega), hq⟩)
theorem s_peek_n {len p : Nat} {tx : Nat → Int32} {σ : z_S} {Q : Int32 → z_S → Prop} (hl : len ≤ 120) (ht : z_tc len tx σ) (hp : zg_i σ 68 6 = nI p) (h : len ≤ p) (h2 : p < 2 ^ 31) (hq : Q (-2000000000) σ) : w_X3_peek σ Q := by
  unfold w_X3_peek
  rw [hp, ht.1]
  exact z_ifn (nI_pos h2) (z_ifp (nI_le h h2) hq)
theorem l_skC {len : Nat} {tx : Nat → Int32} {σ : z_S} {Q : z_S → Prop} (hl : len ≤ 120) (ht : z_tc len tx σ) : ∀ d p n, p + d = len → d < n → ∀ τ, z_p6 σ τ → zg_i τ 68 6 = nI p → (∀ ρ, z_p6 σ ρ → zg_i ρ 68 6 = nI (z_sk tx len d p) → Q ρ) → w_X3_skipBlanks_0 Q n τ := by
  intro d
  induction d with
  | zero =>
    intro p n hp hn τ hτ hpos hq
    obtain ⟨n, rfl⟩ : ∃ k, n = k + 1 := ⟨n - 1, by omega⟩
    show wb_X3_skipBlanks_0 Q (w_X3_skipBlanks_0 Q n) _
    unfold wb_X3_skipBlanks_0
    rw [hpos, (z_tc_p6 ht hτ).1]
    exact z_ifp (nI_le (by omega) (by omega)) (hq τ hτ hpos)
  | succ d ih =>
    intro p n hp hn τ hτ hpos hq
    obtain ⟨n, rfl⟩ : ∃ k, n = k + 1 := ⟨n - 1, by omega⟩
    show wb_X3_skipBlanks_0 Q (w_X3_skipBlanks_0 Q n) _
    unfold wb_X3_skipBlanks_0
    have hc := z_tc_p6 ht hτ
    have hle : ¬ zg_i τ 68 1 ≤ zg_i τ 68 6 := by
      rw [hpos, hc.1]
      exact nI_ge (by omega) (by omega)
    refine z_ifn hle (s_peek_y hl hc hpos (by omega) ?_)
    by_cases e : tx p = 32
    · refine z_ifp e ?_
      rintro _ rfl
      rw [hpos, nI_1]
      have e2 : z_sk tx len (d + 1) p = z_sk tx len d (p + 1) := if_pos ⟨by omega, e⟩
      rw [e2] at hq
      exact ih (p + 1) n (by omega) (by omega) _ (z_p6_tr hτ (z_p6_i (by omega))) zs_i_at hq
    · have e2 : z_sk tx len (d + 1) p = p := if_neg (fun q => e q.2)
      rw [e2] at hq
      exact z_ifn e (hq τ hτ hpos)
theorem s_skip {len p : Nat} {tx : Nat → Int32} {σ : z_S} {Q : z_S → Prop} (hl : len ≤ 120) (ht : z_tc len tx σ) (hp : zg_i σ 68 6 = nI p) (h : p ≤ len) (hq : ∀ τ, z_p6 σ τ → zg_i τ 68 6 = nI (z_bs tx len p) → Q τ) : w_X3_skipBlanks σ Q := by
  unfold w_X3_skipBlanks
  exact l_skC hl ht (len - p) p 400 (by omega) (by omega) σ (z_p6_rfl σ) hp hq
theorem s_tsC {len p : Nat} {tx : Nat → Int32} {σ : z_S} {Q : Int32 → z_S → Prop} {code : Int32} (hc : code ≠ -2000000000) (hl : len ≤ 120) (ht : z_tc len tx σ) (hp : zg_i σ 68 6 = nI p) (h : p ≤ len) (h1 : z_sign tx len code p → ∀ τ, z_p6 σ τ → zg_i τ 68 6 = nI (z_bs tx len p + 1) → Q 1 τ) (h0 : ¬ z_sign tx len code p → ∀ τ, z_p6 σ τ → zg_i τ 68 7 = nI (z_bs tx len p) → Q 0 τ) : w_X3_takeSign code σ Q := by
  unfold w_X3_takeSign
  refine s_skip hl ht hp h (fun τ hτ hpos => ?_)
  have hb := z_bs_b (tx := tx) h
  have no : ¬ z_sign tx len code p → ∀ σ7 : z_S, σ7 = zs_i τ 68 7 (zg_i τ 68 6) → ((0 : Int32) = 0 ∨ (0 : Int32) = 1) ∧ Q (0 : Int32) σ7 := by
    intro g
    rintro _ rfl
    refine ⟨Or.inl rfl, h0 g _ (z_p6_tr hτ (z_p6_i (by omega))) ?_⟩
    rw [zs_i_at]
    exact hpos
  by_cases hq : z_bs tx len p < len
  · refine s_peek_y hl (z_tc_p6 ht hτ) hpos hq ?_
    by_cases e : tx (z_bs tx len p) = code
    · refine z_ifp e ?_
      rintro _ rfl
      rw [hpos, nI_1]
      exact ⟨Or.inr rfl, h1 ⟨hq, e⟩ _ (z_p6_tr hτ (z_p6_i (by omega))) zs_i_at⟩
    · exact z_ifn e (no (fun g => e g.2))
  · exact s_peek_n hl (z_tc_p6 ht hτ) hpos (by omega) (by omega) (z_ifn (fun e => hc e.symm) (no (fun g => hq g.1)))
theorem l_tnC {len q K : Nat} {x1 : Int32} {tx : Nat → Int32} {σ : z_S} {Q : Int32 → z_S → Prop} (hl : len ≤ 120) (hb : ∀ j, j < len → ∃ b, b < 256 ∧ tx j = nI b) (ht : z_tc len tx σ) (hq : ∀ ρ, z_p6 σ ρ → zg_i ρ 68 6 = nI (q + K) → w_X3_takeNumber_69 Q x1 (nI q) (nI (z_vn tx q (min K 6))) ρ) : ∀ d j n, q + j + d = len → j + z_dc tx len d (q + j) = K → d < n → ∀ τ, z_p6 σ τ → zg_i τ 68 6 = nI (q + j) → w_X3_takeNumber_11 Q n x1 (nI q) (nI (z_vn tx q (min j 6))) τ := by
  intro d
  induction d with
  | zero =>
    intro j n hj hK hn τ hτ hpos
    obtain ⟨n, rfl⟩ : ∃ k, n = k + 1 := ⟨n - 1, by omega⟩
    show wb_X3_takeNumber_11 Q (w_X3_takeNumber_11 Q n) _ _ _ _
    unfold wb_X3_takeNumber_11
    have hK : j = K := hK
    subst hK
    refine z_ifp ?_ (hq τ hτ hpos)
    rw [hpos, (z_tc_p6 ht hτ).1]
    exact nI_le (by omega) (by omega)
  | succ d ih =>
    intro j n hj hK hn τ hτ hpos
    obtain ⟨n, rfl⟩ : ∃ k, n = k + 1 := ⟨n - 1, by omega⟩
    show wb_X3_takeNumber_11 Q (w_X3_takeNumber_11 Q n) _ _ _ _
    unfold wb_X3_takeNumber_11
    have hc := z_tc_p6 ht hτ
    have hle : ¬ zg_i τ 68 1 ≤ zg_i τ 68 6 := by
      rw [hpos, hc.1]
      exact nI_ge (by omega) (by omega)
    refine z_ifn hle (s_peek_y hl hc hpos (by omega) ?_)
    unfold w_X3_isDigit
    by_cases h1 : (48 : Int32) ≤ tx (q + j)
    · by_cases h2 : tx (q + j) ≤ (57 : Int32)
      · have e : z_dc tx len (d + 1) (q + j) = z_dc tx len d (q + j + 1) + 1 := if_pos ⟨by omega, h1, h2⟩
        rw [e] at hK
        refine z_ifn (Int32.not_lt.mpr h1) (z_ifn (Int32.not_lt.mpr h2) ⟨Or.inr rfl, z_ifn (by decide) ?_⟩)
        rw [show zg_i τ 68 6 - nI q = nI j by rw [hpos, nI_sub (by omega), Nat.add_sub_cancel_left]]
        have go : ∀ y, y = nI (z_vn tx q (min (j + 1) 6)) → w_X3_takeNumber_56 (w_X3_takeNumber_11 Q n) Q x1 (nI q) y τ := by
          rintro _ rfl
          unfold w_X3_takeNumber_56
          rintro _ rfl
          rw [hpos, nI_1]
          exact ih (j + 1) n (by omega) (by rw [show q + (j + 1) = q + j + 1 by omega]; omega) (by omega) _ (z_p6_tr hτ (z_p6_i (by omega))) zs_i_at
        by_cases h6 : 6 ≤ j
        · refine z_ifp (nI_le (a := 6) h6 (by omega)) (go _ ?_)
          rw [show min j 6 = 6 by omega, show min (j + 1) 6 = 6 by omega]
        · refine z_ifn (nI_ge (b := 6) (by omega) (by omega)) (s_peek_y hl hc hpos (by omega) ?_)
          rintro _ rfl
          refine go _ ?_
          rw [show min j 6 = j by omega, show min (j + 1) 6 = j + 1 by omega]
          exact z_vn_s h1 h2 (hb _ (by omega))
      · have e : z_dc tx len (d + 1) (q + j) = 0 := if_neg (fun g => h2 g.2.2)
        rw [e, Nat.add_zero] at hK
        subst hK
        exact z_ifn (Int32.not_lt.mpr h1) (z_ifp (Int32.not_le.mp h2) ⟨Or.inl rfl, z_ifp rfl (hq τ hτ hpos)⟩)
    · have e : z_dc tx len (d + 1) (q + j) = 0 := if_neg (fun g => h1 g.2.1)
      rw [e, Nat.add_zero] at hK
      subst hK
      exact z_ifp (Int32.not_le.mp h1) ⟨Or.inl rfl, z_ifp rfl (hq τ hτ hpos)⟩
theorem s_tnC {len p B : Nat} {tx : Nat → Int32} {σ : z_S} {Q : Int32 → z_S → Prop} (hl : len ≤ 120) (hb : ∀ j, j < len → ∃ b, b < 256 ∧ tx j = nI b) (ht : z_tc len tx σ) (hB : B < 2 ^ 31) (hp : zg_i σ 68 6 = nI p) (h : p ≤ len) (h1 : ∀ v p', z_num tx len p B = some (v, p') → ∀ τ, z_p6 σ τ → zg_i τ 68 6 = nI p' → Q (nI v) τ) (h0 : z_num tx len p B = none → ∀ τ, z_p6 σ τ → zg_i τ 68 7 = nI (z_bs tx len p) → Q (-2000000000) τ) : w_X3_takeNumber (nI B) σ Q := by
  unfold w_X3_takeNumber
  refine s_skip hl ht hp h (fun τ hτ hpos => ?_)
  rintro _ rfl
  rw [hpos]
  have hbq := z_bs_b (tx := tx) h
  have hkd := z_dc_b tx len (len - z_bs tx len p) (z_bs tx len p)
  refine l_tnC (q := z_bs tx len p) (K := z_dc tx len (len - z_bs tx len p) (z_bs tx len p)) hl hb (z_tc_p6 ht hτ) (fun ρ hρ hpos2 => ?_) (len - z_bs tx len p) 0 400 (by omega) (Nat.zero_add _) (by omega) τ (z_p6_rfl τ) hpos
  unfold z_num at h1 h0
  generalize z_dc tx len (len - z_bs tx len p) (z_bs tx len p) = k at h1 h0 hkd hpos2 ⊢
  generalize z_bs tx len p = q at h1 h0 hkd hpos2 hbq ⊢
  have hρ2 := z_p6_tr hτ hρ
  unfold w_X3_takeNumber_69
  rintro _ rfl
  rw [hpos2, nI_sub (by omega), Nat.add_sub_cancel_left]
  by_cases e : 0 < k ∧ k ≤ 6 ∧ z_vn tx q k < B
  · have hv := z_vn_b tx q k
    have h10 := z_p10b e.2.1
    rw [show min k 6 = k by omega]
    refine z_ifn (nI_ne0 e.1 (by omega)) (z_ifn (nI_nlt (a := 6) e.2.1 (by omega)) (z_ifp (nI_lt e.2.2 hB) ?_))
    exact h1 _ _ (if_pos e) ρ hρ2 hpos2
  · have no : w_X3_takeNumber_94 Q (nI q) ρ := by
      unfold w_X3_takeNumber_94
      rintro _ rfl
      exact h0 (if_neg e) _ (z_p6_tr hρ2 (z_p6_i (by omega))) zs_i_at
    by_cases e1 : k = 0
    · subst e1
      exact z_ifp nI_0 no
    · refine z_ifn (nI_ne0 (by omega) (by omega)) ?_
      by_cases e2 : 6 < k
      · exact z_ifp (nI_lt (a := 6) e2 (by omega)) no
      · refine z_ifn (nI_nlt (a := 6) (by omega) (by omega)) ?_
        rw [show min k 6 = k by omega]
        have hv := z_vn_b tx q k
        have h10 := z_p10b (show k ≤ 6 by omega)
        exact z_ifn (nI_nlt (by omega) (by omega)) no
