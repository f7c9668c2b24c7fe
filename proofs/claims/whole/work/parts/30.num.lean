/-! ===== from here on nothing speaks of the machine: the functions w_.. alone ===== -/
theorem nI_mul (a b : Nat) : nI a * nI b = nI (a * b) := by
  unfold nI
  rw [Int32.ofNat_mul]
theorem nI_sub {a b : Nat} (h : b ≤ a) : nI a - nI b = nI (a - b) := by
  have e : a = (a - b) + b := by omega
  rw [e, ← nI_add, Nat.add_sub_cancel]
  exact Int32.add_sub_cancel _ _
theorem z_vin {i n : Nat} (h : i < n) (hn : n < 2 ^ 31) : vp_in (nI i) n := nI_in h hn
theorem z_tn {i : Nat} (h : i < 2 ^ 31) : (nI i).toNatClampNeg = i := nI_clamp h
theorem z_ltn {x : Int32} {n : Nat} (h0 : ¬ x < 0) (h1 : x < nI n) (hn : n < 2 ^ 31) : ∃ i, i < n ∧ x = nI i := by
  obtain ⟨j, hj, rfl⟩ := nI_of h0
  exact ⟨j, (nI_ltI hj hn).mp h1, rfl⟩
theorem z_len {x : Int32} {n : Nat} (h0 : ¬ x < 0) (h1 : x ≤ nI n) (hn : n < 2 ^ 31) : ∃ i, i ≤ n ∧ x = nI i := by
  obtain ⟨j, hj, rfl⟩ := nI_of h0
  exact ⟨j, (nI_leI hj hn).mp h1, rfl⟩
theorem z_ifp {P A B : Prop} [Decidable P] (h : P) (a : A) : if P then A else B := by rw [if_pos h]; exact a
theorem z_ifn {P A B : Prop} [Decidable P] (h : ¬ P) (b : B) : if P then A else B := by rw [if_neg h]; exact b
theorem z_ite {P A B : Prop} [Decidable P] (a : P → A) (b : ¬ P → B) : if P then A else B := by
  by_cases h : P
  · exact z_ifp h (a h)
  · exact z_ifn h (b h)
theorem z_ext {σ τ : z_S} (h1 : ∀ p x, zg_i σ p x = zg_i τ p x) (h2 : σ.2 = τ.2) : σ = τ := Prod.ext (funext fun p => funext fun x => h1 p x) h2
/-- row a of the reference's states copied to row b, the first i numbers -/
def zs_cp (σ : z_S) (a b i : Nat) : z_S := (fun p x => if p = 74 ∧ 264 * b ≤ x ∧ x < 264 * b + i then σ.1 74 (264 * a + (x - 264 * b)) else σ.1 p x, σ.2)
theorem zs_cp_i (σ : z_S) (a b i p x : Nat) : zg_i (zs_cp σ a b i) p x = if p = 74 ∧ 264 * b ≤ x ∧ x < 264 * b + i then zg_i σ 74 (264 * a + (x - 264 * b)) else zg_i σ p x := rfl
theorem zs_cp_0 (σ : z_S) (a b : Nat) : zs_cp σ a b 0 = σ := z_ext (fun p x => by rw [zs_cp_i, if_neg (by omega)]) rfl
theorem zs_cp_s (σ : z_S) {a b i : Nat} (hi : i < 264) : zs_i (zs_cp σ a b i) 74 (264 * b + i) (zg_i (zs_cp σ a b i) 74 (264 * a + i)) = zs_cp σ a b (i + 1) := by
  refine z_ext (fun p x => ?_) rfl
  simp only [zg_i_si, zs_cp_i]
  by_cases hp : p = 74
  · subst hp
    by_cases hx : x = 264 * b + i
    · subst hx
      rw [if_pos ⟨rfl, rfl⟩, if_neg (by omega), if_pos (by omega), Nat.add_sub_cancel_left]
    · rw [if_neg (by omega)]
      by_cases h2 : 264 * b ≤ x ∧ x < 264 * b + i
      · rw [if_pos (by omega), if_pos (by omega)]
      · rw [if_neg (by omega), if_neg (by omega)]
  · rw [if_neg (by omega), if_neg (by omega), if_neg (by omega)]
theorem l_copies {σ : z_S} {Q : z_S → Prop} {a b : Nat} (ha : a < 6) (hb : b < 6) (hq : Q (zs_cp σ a b 264)) : ∀ (d i n : Nat), i + d = 264 → d < n → w_X6_copies_2 Q n (nI a) (nI b) (nI i) (zs_cp σ a b i) := by
  intro d
  induction d with
  | zero =>
    intro i n hi hn
    obtain ⟨n, rfl⟩ : ∃ k, n = k + 1 := ⟨n - 1, by omega⟩
    show wb_X6_copies_2 Q (w_X6_copies_2 Q n) (nI a) (nI b) (nI i) (zs_cp σ a b i)
    unfold wb_X6_copies_2
    obtain rfl : i = 264 := by omega
    exact z_ifp (nI_le (Nat.le_refl 264) (by omega)) hq
  | succ d ih =>
    intro i n hi hn
    obtain ⟨n, rfl⟩ : ∃ k, n = k + 1 := ⟨n - 1, by omega⟩
    show wb_X6_copies_2 Q (w_X6_copies_2 Q n) (nI a) (nI b) (nI i) (zs_cp σ a b i)
    unfold wb_X6_copies_2
    refine z_ifn (nI_ge (a := i) (b := 264) (by omega) (by omega)) ?_
    rw [show (264 : Int32) * nI a + nI i = nI (264 * a + i) by rw [show (264 : Int32) = nI 264 from rfl, nI_mul, nI_add], show (264 : Int32) * nI b + nI i = nI (264 * b + i) by rw [show (264 : Int32) = nI 264 from rfl, nI_mul, nI_add]]
    refine ⟨z_vin (by omega) (by omega), z_vin (by omega) (by omega), ?_⟩
    rintro _ rfl _ rfl
    rw [z_tn (by omega), z_tn (by omega), zs_cp_s σ (by omega), show nI i + (1 : Int32) = nI (i + 1) from nI_1 i]
    exact ih (i + 1) n (by omega) (by omega)
theorem s_copies {σ : z_S} {Q : z_S → Prop} {a b : Nat} (ha : a < 6) (hb : b < 6) (hq : Q (zs_cp σ a b 264)) : w_X6_copies (nI a) (nI b) σ Q := by
  have h := l_copies ha hb hq 264 0 400 (by omega) (by omega)
  rw [zs_cp_0] at h
  exact h
