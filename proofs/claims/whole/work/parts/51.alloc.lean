/-! numbers for the bills -/
theorem q_toInt {n : Nat} (h : n < 2 ^ 63) : (lN n).toInt = (n : Int) := lg_ofNat_toInt h
theorem q_le {a b : Nat} (ha : a < 2 ^ 63) (hb : b < 2 ^ 63) : lN a ≤ lN b ↔ a ≤ b := by
  rw [Int64.le_iff_toInt_le, q_toInt ha, q_toInt hb]; omega
theorem q_lt {a b : Nat} (ha : a < 2 ^ 63) (hb : b < 2 ^ 63) : lN a < lN b ↔ a < b := by
  rw [Int64.lt_iff_toInt_lt, q_toInt ha, q_toInt hb]; omega
theorem q_eq {a b : Nat} (ha : a < 2 ^ 63) (hb : b < 2 ^ 63) : lN a = lN b ↔ a = b := by
  rw [← Int64.toInt_inj, q_toInt ha, q_toInt hb]; omega
theorem q_div {a b : Nat} (ha : a < 2 ^ 63) (h0 : 0 < b) (hb : b < 2 ^ 63) : lN a / lN b = lN (a / b) := by
  have hd : a / b ≤ a := Nat.div_le_self a b
  refine Int64.toInt_inj.mp ?_
  rw [lg_ldiv_nonneg (by rw [q_toInt ha]; omega) (by rw [q_toInt hb]; omega), q_toInt ha, q_toInt hb, q_toInt (by omega)]
  exact (Int.natCast_ediv a b).symm
theorem q_rem {a b : Nat} (ha : a < 2 ^ 63) (h0 : 0 < b) (hb : b < 2 ^ 63) : lN a - lN a / lN b * lN b = lN (a % b) := by
  rw [q_div ha h0 hb, lN_mul]
  have e : a / b * b ≤ a := Nat.div_mul_le_self a b
  rw [lN_sub e]
  congr 1
  have := Nat.div_add_mod a b
  rw [Nat.mul_comm] at this
  omega
def nZ (z : Int) : Int32 := Int32.ofInt z
def lZ (z : Int) : Int64 := Int64.ofInt z
theorem nZ_toInt {z : Int} (h1 : -2 ^ 31 ≤ z) (h2 : z < 2 ^ 31) : (nZ z).toInt = z := Int32.toInt_ofInt_of_le h1 h2
theorem lZ_toInt {z : Int} (h1 : -2 ^ 63 ≤ z) (h2 : z < 2 ^ 63) : (lZ z).toInt = z := Int64.toInt_ofInt_of_le h1 h2
theorem nZ_n (n : Nat) : nZ n = nI n := by
  unfold nZ nI
  exact Int32.ofInt_eq_ofNat
theorem lZ_n (n : Nat) : lZ n = lN n := by
  unfold lZ lN
  exact Int64.ofInt_eq_ofNat
theorem nZ_sub (a b : Int) : nZ a - nZ b = nZ (a - b) := by
  unfold nZ
  rw [Int32.ofInt_sub]
theorem nZ_add (a b : Int) : nZ a + nZ b = nZ (a + b) := by
  unfold nZ
  rw [Int32.ofInt_add]
theorem lZ_sub (a b : Int) : lZ a - lZ b = lZ (a - b) := by
  unfold lZ
  rw [Int64.ofInt_sub]
theorem nZ_l {z : Int} (h1 : -2 ^ 31 ≤ z) (h2 : z < 2 ^ 31) : (nZ z).toInt64 = lZ z := Int64.toInt_inj.mp (by rw [Int32.toInt_toInt64, nZ_toInt h1 h2, lZ_toInt (by omega) (by omega)])
theorem lZ_neg (a : Int) : -lZ a = lZ (-a) := by
  unfold lZ
  rw [Int64.ofInt_neg]
/-! sums and counts -/
def z_sm (g : Nat → Nat) : Nat → Nat
  | 0 => 0
  | n + 1 => z_sm g n + g n
theorem z_sm_0 {g : Nat → Nat} : ∀ n, (∀ k, k < n → g k = 0) → z_sm g n = 0 := by
  intro n
  induction n with
  | zero => intro _; rfl
  | succ n ih =>
    intro h
    show z_sm g n + g n = 0
    rw [ih (fun k hk => h k (by omega)), h n (by omega)]
theorem z_sm_mono {g : Nat → Nat} {a : Nat} : ∀ n, a ≤ n → z_sm g a ≤ z_sm g n := by
  intro n
  induction n with
  | zero => intro h; rw [Nat.le_zero.mp h]; exact Nat.le_refl _
  | succ n ih =>
    intro h
    by_cases e : a = n + 1
    · rw [e]
      exact Nat.le_refl _
    · exact Nat.le_trans (ih (by omega)) (Nat.le_add_right _ _)
theorem z_sm_le {g g' : Nat → Nat} : ∀ n, (∀ k, k < n → g k ≤ g' k) → z_sm g n ≤ z_sm g' n := by
  intro n
  induction n with
  | zero => intro _; exact Nat.le_refl _
  | succ n ih =>
    intro h
    exact Nat.add_le_add (ih (fun k hk => h k (by omega))) (h n (by omega))
theorem z_sm_ext {g g' : Nat → Nat} (n : Nat) (h : ∀ k, k < n → g k = g' k) : z_sm g n = z_sm g' n := Nat.le_antisymm (z_sm_le n (fun k hk => Nat.le_of_eq (h k hk))) (z_sm_le n (fun k hk => Nat.le_of_eq (h k hk).symm))
theorem z_sm_at {g : Nat → Nat} {k n : Nat} (h : k < n) : g k ≤ z_sm g n := Nat.le_trans (Nat.le_add_left _ _) (z_sm_mono (g := g) (a := k + 1) n h)
theorem z_sm_bd {g : Nat → Nat} {b : Nat} : ∀ n, (∀ k, k < n → g k ≤ b) → z_sm g n ≤ n * b := by
  intro n
  induction n with
  | zero => intro _; exact Nat.zero_le _
  | succ n ih =>
    intro h
    have h1 := ih (fun k hk => h k (by omega))
    have h2 := h n (by omega)
    show z_sm g n + g n ≤ (n + 1) * b
    rw [Nat.add_mul]
    omega
def z_ct (P : Nat → Bool) (n : Nat) : Nat := z_sm (fun k => if P k = true then 1 else 0) n
theorem z_ct_le {P P' : Nat → Bool} (n : Nat) (h : ∀ k, k < n → P k = true → P' k = true) : z_ct P n ≤ z_ct P' n := z_sm_le n (fun k hk => by
  by_cases e : P k = true
  · rw [if_pos e, if_pos (h k hk e)]
    exact Nat.le_refl _
  · rw [if_neg e]
    exact Nat.zero_le _)
theorem z_ct_lt {P P' : Nat → Bool} {j : Nat} : ∀ n, (∀ k, k < n → P k = true → P' k = true) → j < n → P' j = true → ¬ P j = true → z_ct P n < z_ct P' n := by
  intro n
  induction n with
  | zero => intro _ h; exact absurd h (Nat.not_lt_zero j)
  | succ n ih =>
    intro h hj h1 h2
    unfold z_ct at ih ⊢
    show z_sm _ n + (if P n = true then 1 else 0) < z_sm _ n + (if P' n = true then 1 else 0)
    by_cases e : j = n
    · subst e
      rw [if_neg h2, if_pos h1]
      have := z_ct_le (P := P) (P' := P') j (fun k hk => h k (by omega))
      unfold z_ct at this
      omega
    · have := ih (fun k hk => h k (by omega)) (by omega) h1 h2
      by_cases e2 : P n = true
      · rw [if_pos e2, if_pos (h n (by omega) e2)]
        omega
      · rw [if_neg e2]
        omega
theorem z_ct_up {P : Nat → Bool} {b : Nat} (hb : ¬ P b = true) : ∀ n, b < n → z_ct (fun k => P k || k == b) n = z_ct P n + 1 := by
  have lo : ∀ n, n ≤ b → z_ct (fun k => P k || k == b) n = z_ct P n := fun n hn => z_sm_ext n (fun k hk => by
    have : (k == b) = false := by
      rw [beq_eq_false_iff_ne]
      omega
    simp only [this, Bool.or_false])
  intro n
  induction n with
  | zero => intro h; exact absurd h (Nat.not_lt_zero b)
  | succ n ih =>
    intro h
    show z_ct (fun k => P k || k == b) n + (if (P n || n == b) = true then 1 else 0) = (z_ct P n + (if P n = true then 1 else 0)) + 1
    by_cases e : b = n
    · subst e
      rw [lo b (Nat.le_refl b), if_neg hb, if_pos (by simp)]
    · have : (n == b) = false := by
        rw [beq_eq_false_iff_ne]
        omega
      rw [ih (by omega), this, Bool.or_false]
      omega
/-! the rule of the greatest remainders -/
abbrev z_ah (r : Nat → Nat) (j k : Nat) : Prop := r k < r j ∨ (r j = r k ∧ j < k)
def z_rk (P : Nat → Bool) (r : Nat → Nat) (c k : Nat) : Nat := z_ct (fun j => P j && decide (z_ah r j k)) c
theorem z_rk_iff {P G : Nat → Bool} {r : Nat → Nat} {c k : Nat} (hG : ∀ j, j < c → G j = true → P j = true) (hu : ∀ j i, j < c → i < c → P j = true → z_ah r j i → G i = true → G j = true) (hk : k < c) (hP : P k = true) : z_rk P r c k < z_ct G c ↔ G k = true := by
  constructor
  · intro h
    refine Classical.byContradiction fun hn => ?_
    refine Nat.not_le.mpr h (z_ct_le c (fun j hj hg => ?_))
    have hj' : j ≠ k := fun q => hn (q ▸ hg)
    rw [Bool.and_eq_true, decide_eq_true_iff]
    refine ⟨hG j hj hg, ?_⟩
    unfold z_ah
    rcases Nat.lt_trichotomy (r j) (r k) with q | q | q
    · exact absurd (hu k j hk hj hP (Or.inl q) hg) hn
    · rcases Nat.lt_trichotomy j k with q2 | q2 | q2
      · exact Or.inr ⟨q, q2⟩
      · exact absurd q2 hj'
      · exact absurd (hu k j hk hj hP (Or.inr ⟨q.symm, q2⟩) hg) hn
    · exact Or.inl q
  · intro h
    refine z_ct_lt (j := k) c (fun j hj hg => ?_) hk h ?_
    · rw [Bool.and_eq_true, decide_eq_true_iff] at hg
      exact hu j k hj hk hg.1 hg.2 h
    · rw [Bool.and_eq_true, decide_eq_true_iff]
      intro q
      have := q.2
      unfold z_ah at this
      omega
theorem z_parts {S T : Nat} {cl : Nat → Nat} : ∀ n, z_sm (fun k => S * cl k / T) n * T + z_sm (fun k => S * cl k % T) n = S * z_sm cl n := by
  intro n
  induction n with
  | zero => show 0 * T + 0 = S * 0; omega
  | succ n ih =>
    show (z_sm (fun k => S * cl k / T) n + S * cl n / T) * T + (z_sm (fun k => S * cl k % T) n + S * cl n % T) = S * (z_sm cl n + cl n)
    rw [Nat.add_mul, Nat.mul_add, ← ih]
    have := Nat.div_add_mod (S * cl n) T
    rw [Nat.mul_comm] at this
    omega
/-- what one child gets: S in shares cl of T -/
def z_lf (S T : Nat) (cl : Nat → Nat) (c : Nat) : Nat := S - z_sm (fun k => S * cl k / T) c
theorem z_parts_le {S T c n : Nat} {cl : Nat → Nat} (hT : T = z_sm cl c) (h0 : 0 < T) (hn : n ≤ c) : z_sm (fun k => S * cl k / T) n ≤ S := by
  have h1 := z_parts (S := S) (T := T) (cl := cl) c
  rw [← hT] at h1
  have h2 : z_sm (fun k => S * cl k / T) c * T ≤ S * T := by omega
  exact Nat.le_trans (z_sm_mono c hn) (Nat.le_of_mul_le_mul_right h2 h0)
theorem z_lf_le {S T c : Nat} {cl : Nat → Nat} {P : Nat → Bool} (hT : T = z_sm cl c) (h0 : 0 < T) (hP : ∀ k, k < c → ¬ P k = true → cl k = 0) : z_lf S T cl c ≤ z_ct P c := by
  have h1 := z_parts (S := S) (T := T) (cl := cl) c
  rw [← hT] at h1
  have h2 := z_parts_le (S := S) (n := c) hT h0 (Nat.le_refl c)
  have h3 : z_sm (fun k => S * cl k % T) c ≤ z_sm (fun k => (if P k = true then 1 else 0) * T) c := z_sm_le c (fun k hk => by
    by_cases e : P k = true
    · rw [if_pos e, Nat.one_mul]
      exact Nat.le_of_lt (Nat.mod_lt _ h0)
    · rw [hP k hk e, Nat.mul_zero, Nat.zero_mod]
      exact Nat.zero_le _)
  have h4 : ∀ n, z_sm (fun k => (if P k = true then 1 else 0) * T) n = z_ct P n * T := by
    intro n
    induction n with
    | zero => show 0 = 0 * T; omega
    | succ n ih =>
      show z_sm _ n + (if P n = true then 1 else 0) * T = (z_ct P n + (if P n = true then 1 else 0)) * T
      rw [Nat.add_mul, ih]
  rw [h4 c] at h3
  unfold z_lf
  have h5 : (S - z_sm (fun k => S * cl k / T) c) * T ≤ z_ct P c * T := by
    rw [Nat.sub_mul]
    omega
  exact Nat.le_of_mul_le_mul_right h5 h0
def z_mo (S T : Nat) (cl : Nat → Nat) (P : Nat → Bool) (c k : Nat) : Nat := S * cl k / T + if z_rk P (fun k => S * cl k % T) c k < z_lf S T cl c then 1 else 0
/-! bounds of the energies -/
theorem z_St_v {f : Nat → Int32} {m i : Nat} (h : z_St f m i = 0) : z_A f m i (i + 1) ≠ zNONE ∧ z_A f m i (i + 1) ≤ f (4 + 18 * m + 3) := by
  unfold z_St at h
  by_cases e : z_A f m i (i + 1) = zNONE
  · rw [if_pos e] at h
    exact absurd h (by decide)
  · rw [if_neg e] at h
    by_cases e2 : z_A f m i (i + 1) ≤ f (4 + 18 * m + 3)
    · exact ⟨e, e2⟩
    · rw [if_neg e2] at h
      exact absurd h (by decide)
theorem z_vo_c {f : Nat → Int32} {c m i : Nat} (hf : z_fine f c) (hm : m < c) (hi : i < 12) (h : z_St f m i = 0) : ∃ v, v ≤ 5000000 ∧ z_vo f m i = nI v := by
  obtain ⟨⟨mu, hmu1, hmu, emu⟩, ⟨li, hli1, hli, eli⟩, -, -⟩ := hf.2.2.2.2.2.2.2 m hm
  obtain ⟨h1, h2⟩ := z_St_v h
  rcases z_A_c hf hm (a := i) (b := i + 1) (by omega) (by omega) with q | ⟨v, hv, ev⟩
  · exact absurd q h1
  · unfold z_vo
    rw [ev, eli] at h2
    have := (nI_leI (by omega) (by omega)).mp h2
    rw [ev, emu, nI_mul]
    exact ⟨v * mu, Nat.le_trans (Nat.mul_le_mul (show v ≤ 50000 by omega) hmu) (by decide), rfl⟩
theorem z_en_c {f : Nat → Int32} {c m i : Nat} (hf : z_fine f c) (hm : m < c) (hi : i < 12) : ∃ v, v ≤ 5000001 ∧ z_en f m i = nI v := by
  unfold z_en
  by_cases e : z_St f m i = 0
  · rw [if_pos e]
    obtain ⟨v, hv, ev⟩ := z_vo_c hf hm hi e
    exact ⟨v, by omega, ev⟩
  · rw [if_neg e]
    have hr := z_run_of hi e
    obtain ⟨h1, h2, h3, h4, h5⟩ := id hr
    have b1 := (z_fs_p f m i).1
    have b2 := (z_ls_p f m (11 - i) i).1
    generalize z_fs f m i = s at *
    generalize z_ls f m (11 - i) i = e' at *
    unfold z_Er
    rcases z_Qr_c f m s e' with g | ⟨g, g1, g2⟩ | ⟨g, g1⟩ | ⟨g, g1, g2⟩
    · rw [if_pos g]
      obtain ⟨⟨mu, hmu1, hmu, emu⟩, ⟨li, hli1, hli, eli⟩, -, -⟩ := hf.2.2.2.2.2.2.2 m hm
      have g' := g
      unfold z_Qr at g'
      by_cases q : z_am f m (e' + 1 - s) s = true ∧ z_A f m s (e' + 1) ≠ zNONE ∧ ¬ (f (4 + 18 * m + 3) * nI (e' + 1 - s) < z_A f m s (e' + 1))
      · obtain ⟨-, q1, q2⟩ := q
        rcases z_A_c hf hm (a := s) (b := e' + 1) (by omega) (by omega) with w | ⟨v, hv, ev⟩
        · exact absurd w q1
        · rw [ev, eli, nI_mul] at q2
          have l1 : li * (e' + 1 - s) ≤ 50000 * 12 := Nat.mul_le_mul hli (by omega)
          have q3 := (nI_leI (by omega) (by omega)).mp (Int32.not_lt.mp q2)
          have l2 : v * mu ≤ (li * (e' + 1 - s)) * mu := Nat.mul_le_mul q3 (Nat.le_refl _)
          have l3 : (li * (e' + 1 - s)) * mu ≤ 50000 * 12 * 100 := Nat.mul_le_mul l1 hmu
          unfold z_sg
          rw [ev, emu, nI_mul, pk_rem (by omega) (by omega) (by omega), pk_div (by omega) (by omega) (by omega)]
          have l4 : v * mu / (e' + 1 - s) ≤ 5000000 := by
            refine Nat.div_le_of_le_mul ?_
            have : (li * (e' + 1 - s)) * mu = (e' + 1 - s) * (li * mu) := by rw [Nat.mul_comm li, Nat.mul_assoc]
            have l5 : li * mu ≤ 50000 * 100 := Nat.mul_le_mul hli hmu
            have l6 : (e' + 1 - s) * (li * mu) ≤ (e' + 1 - s) * 5000000 := Nat.mul_le_mul (Nat.le_refl _) (by omega)
            omega
          split
          · exact ⟨v * mu / (e' + 1 - s), by omega, by rw [Int32.add_zero]⟩
          · exact ⟨v * mu / (e' + 1 - s) + 1, by omega, by rw [nI_1]⟩
      · rw [if_neg q] at g'
        have z1 : ∀ a b : Prop, ∀ _ : Decidable a, ∀ _ : Decidable b, (if a then (if b then (2 : Int32) else 3) else if b then 3 else 4) ≠ 1 := by
          intro a b _ _
          by_cases ha : a
          · by_cases hb : b
            · rw [if_pos ha, if_pos hb]; decide
            · rw [if_pos ha, if_neg hb]; decide
          · by_cases hb : b
            · rw [if_neg ha, if_pos hb]; decide
            · rw [if_neg ha, if_neg hb]; decide
        exact absurd g' (z1 _ _ _ _)
    · rw [if_neg (by rw [g]; decide), if_pos g]
      obtain ⟨x, hx, ex⟩ := z_vo_c hf hm (i := s - 1) (by omega) (h4 g1)
      obtain ⟨y, hy, ey⟩ := z_vo_c hf hm (i := e' + 1) (by omega) (h5 g2)
      have l1 : x * (e' + 1 - i) ≤ 5000000 * (e' + 1 - i) := Nat.mul_le_mul hx (Nat.le_refl _)
      have l2 : y * (i - s + 1) ≤ 5000000 * (i - s + 1) := Nat.mul_le_mul hy (Nat.le_refl _)
      rw [ex, ey, nI_mul, nI_mul, nI_add, pk_div (by omega) (by omega) (by omega)]
      exact ⟨_, Nat.le_trans (Nat.div_le_of_le_mul (show _ ≤ (e' + 2 - s) * 5000000 by omega)) (by decide), rfl⟩
    · rw [if_neg (by rw [g]; decide), if_neg (by rw [g]; decide), if_pos g]
      by_cases e0 : 0 < s
      · rw [if_pos e0]
        obtain ⟨x, hx, ex⟩ := z_vo_c hf hm (i := s - 1) (by omega) (h4 e0)
        exact ⟨x, by omega, ex⟩
      · rw [if_neg e0]
        obtain ⟨y, hy, ey⟩ := z_vo_c hf hm (i := e' + 1) (by omega) (h5 (by omega))
        exact ⟨y, by omega, ey⟩
    · rw [if_neg (by rw [g]; decide), if_neg (by rw [g]; decide), if_neg (by rw [g]; decide)]
      exact ⟨0, by omega, rfl⟩
