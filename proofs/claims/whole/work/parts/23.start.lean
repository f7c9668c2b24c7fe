def w_law (xs : Nat → Int32) (Ln : Nat) : Nat → Int32 → z_S → Prop
  | 0 => fun _ _ => False
  | n + 1 => wb_law xs Ln (w_law xs Ln n)
set_option maxRecDepth 100000 in
theorem t_law {D : va_G} {cI cJ cM cS : ClassId} {n0 : Nat} {p : Program} {l : Launch} {e : Env} {s : State} {m : MethodId} {b Ln : Nat} {xs : Nat → Int32} {below : List Frame} {meth : Method} {c : Code} (hX : z_X D cI cJ cM cS p s m #[Value.ref b] c cL_law 4 RL) (hY : z_Y s meth ret) (hn0 : n0 = s.heap.size) (hx : va_X b Ln xs s s.heap) (hbl : b < s.heap.size) (hbA : ¬ z_Ab n0 b) : ∀ (n : Nat) (cells slots : Nat) (x3 : Int32) (σ : z_S), cells + 26 * n ≤ 600000 → slots + 289 * n ≤ 7302250 → w_law xs Ln n x3 σ → z_t D cI cJ cM cS n0 p l e room_1 s m #[Value.ref b] below meth c 4 (lw_Z below #[Value.ref b] s) cells slots 18 [(0, .ref b), (1, .ref (n0 + 0)), (2, .ref (n0 + 73)), (3, .int x3)] [] σ := by
  intro n
  induction n with
  | zero => intro _ _ _ _ _ _ hf; exact hf.elim
  | succ n ih =>
    intro cells slots x3 σ hc hs hf
    have hf : wb_law xs Ln (w_law xs Ln n) x3 σ := hf
    exact t_law_body (k := w_law xs Ln n) hX hY hn0 hx hbl hbA (by omega) (by omega) (fun i σ' hf => ih (cells + 26) (slots + 289) i σ' (by omega) (by omega) hf) x3 σ hf
set_option maxHeartbeats 4000000 in
set_option maxRecDepth 100000 in
theorem whole_start_open (HP : ∀ (xs : Nat → Int32) (Ln : Nat), Ln ≤ 2048 → w_law xs Ln 513 0 zs_0) {p : Program} {e : Env} {s : State} {m : MethodId} {below : List Frame} {meth : Method} {c : Code} (l : Launch) (hflags : l.flags = flags0) {b L : Nat} {xs : Nat → Int32} (hL : L ≤ 2048) (C0 : lw_At p s m meth c b L xs) : W p l e room_1 s m #[Value.ref b] below meth c s.heap [] 0 0 (lw_Z below #[Value.ref b] s) (entryFrame m ([Value.ref b] : List Value).toArray 4) := by
  obtain ⟨hx, hb, hr, hml, hown, hts, hxs, hbl, hlocks, hgv⟩ := id C0
  have htz : ∀ w ∈ z_ws, w.before #[Value.ref b] s = true := fun w h => hts w (z_ws_tbl h)
  obtain ⟨c0, i0, hK0⟩ := u_known (C := RX0) (T := TX0) (N := 4) (n := 4) htz z_inX0 (htz _ kw_180)
  obtain ⟨c1, i1, hK1⟩ := u_known (C := RX1) (T := TX1) (N := 3) (n := 3) htz z_inX1 (htz _ kw_160)
  obtain ⟨c2, i2, hK2⟩ := u_known (C := RX2) (T := TX2) (N := 2) (n := 2) htz z_inX2 (htz _ kw_144)
  obtain ⟨c3, i3, hK3⟩ := u_known (C := RX3) (T := TX3) (N := 8) (n := 8) htz z_inX3 (htz _ kw_202)
  obtain ⟨c4, i4, hK4⟩ := u_known (C := RX4) (T := TX4) (N := 11) (n := 11) htz z_inX4 (htz _ kw_80)
  obtain ⟨c5, i5, hK5⟩ := u_known (C := RX5) (T := TX5) (N := 5) (n := 5) htz z_inX5 (htz _ kw_72)
  obtain ⟨c6, i6, hK6⟩ := u_known (C := RX6) (T := TX6) (N := 13) (n := 13) htz z_inX6 (htz _ kw_649)
  obtain ⟨dC, dI, hKc⟩ : ∃ (dC : Nat → ClassId) (dI : Nat → Nat → Nat), ∀ (k : Nat) (q : vw_C), vwCl[k]? = some q → u_Kn s q.1 q.2.1 q.2.2 (dC k) (dI k) := by
    refine ⟨fun k => match k with | 0 => c0 | 1 => c1 | 2 => c2 | 3 => c3 | 4 => c4 | 5 => c5 | _ => c6, fun k => match k with | 0 => i0 | 1 => i1 | 2 => i2 | 3 => i3 | 4 => i4 | 5 => i5 | _ => i6, ?_⟩
    intro k q hq
    match k, hq with
    | 0, hq => cases hq; exact hK0
    | 1, hq => cases hq; exact hK1
    | 2, hq => cases hq; exact hK2
    | 3, hq => cases hq; exact hK3
    | 4, hq => cases hq; exact hK4
    | 5, hq => cases hq; exact hK5
    | 6, hq => cases hq; exact hK6
    | k + 7, hq => simp [vwCl] at hq
  obtain ⟨cI, kI, pI, a1, a2, a3⟩ := Cond.arrayClass_spec (htz _ kw_142)
  obtain ⟨cJ, kJ, pJ, b1, b2, b3⟩ := Cond.arrayClass_spec (htz _ kw_200)
  have wM : (Cond.arrayOver (.array .int)).before #[Value.ref b] s = true := hts _ (List.mem_of_getElem? (i := 86) (by decide +kernel))
  have wS : (Cond.arrayOver (.object "MeterTree$State")).before #[Value.ref b] s = true := hts _ (List.mem_of_getElem? (i := 150) (by decide +kernel))
  obtain ⟨pM, cM, kM, m1, m2, m3, m4, m5⟩ := arrayOverA_spec wM
  obtain ⟨pS, cS, kS, s1, s2, s3, s4, s5⟩ := Cond.arrayOver_spec wS
  have hKz : z_K (dC, dI) cI cJ cM cS s := by
    refine ⟨hKc, fun k q hk => ?_⟩
    match k, hk with
    | 0, hk => cases hk; exact ⟨fun n z => ⟨fun _ h => (by cases h), kI, a2, pI, a3⟩, a1⟩
    | 1, hk => cases hk; exact ⟨fun n z => ⟨fun _ h => (by cases h), kJ, b2, pJ, b3⟩, b1⟩
    | 2, hk => cases hk; exact ⟨fun n z => ⟨fun _ h => (by cases h), kM, m3, pM, m4⟩, m5⟩
    | 3, hk => cases hk; exact ⟨fun n z => ⟨fun _ h => (by cases h), kS, s3, pS, s4⟩, kS, pS, s3, s4, s1, s5⟩
    | k + 4, hk => simp [z_tys] at hk
  have hX : z_X (dC, dI) cI cJ cM cS p s m #[Value.ref b] c cL_law 4 RL := ⟨⟨hx, hb, hml, hown, htz⟩, hKz⟩
  have hNest : va_Nw (.methodLinkNest RX3 75 yX5_isBoundary RX5) s := va_tabs (A := #[Value.ref b]) (u := s) rfl rfl (hts _ (List.mem_of_getElem? (i := 638) (by decide +kernel)))
  have hY : z_Y s meth ret := ⟨⟨hNest, wM, va_AO.of wS⟩, hr, hlocks⟩
  have hbA : ¬ z_Ab s.heap.size b := Nat.not_le.mpr hbl
  have hl := lv_entry ([.ref b]) (n := 4) (Nat.le_of_ble_eq_true rfl)
  rw [lg_entry_eq]
  have key : z_w (dC, dI) s.heap.size p l e room_1 s m #[Value.ref b] below meth c 4 (lw_Z below #[Value.ref b] s) 0 0 0 [(0, .ref b)] [] 0 (fun _ => .inr (0, [])) := by
    refine zr_new hX (ci := 5) (C := RX5) (T := TX5) (N := 5) (fs := [.null, .null, .null, .null, .null]) rfl z_inX5 tyX5 tyX5_ok kw_71 kw_72 kw_61 (fun j hj => by rcases (show j = 0 ∨ j = 1 ∨ j = 2 ∨ j = 3 ∨ j = 4 by omega) with rfl | rfl | rfl | rfl | rfl <;> rfl) (by decide) (by decide) dL_law_0 ?_
    refine zr_nmh (fun h1 g1 => ?_)
    have f1 : h1 (0) = .inr (5, [.null, .null, .null, .null, .null]) := by rw [g1, z_up_at]
    refine zr_dup hX dL_law_3 rfl ?_
    refine zr_callg hX hY (c_X5_init f1) dL_law_4 rfl kw_73 kw_74 kw_61 ⟨rfl, rfl⟩ hy_X5_init kw_75 ⟨by decide, by decide⟩ ⟨by decide, by decide⟩ (Nat.le_of_ble_eq_true rfl) ?_
    refine zr_astore_n (L' := [(1, .ref (s.heap.size + 0)), (0, .ref b)]) hX dL_law_7 rfl (by decide) rfl ?_
    refine zr_new hX (ci := 6) (C := RX6) (T := TX6) (N := 13) (fs := [.null, .int 0, .null, .null, .null, .null, .null, .null, .int 0, .int 0, .int 0, .int 0, .long 0]) rfl z_inX6 tyX6 tyX6_ok kw_648 kw_649 kw_67 (fun j hj => by rcases (show j = 0 ∨ j = 1 ∨ j = 2 ∨ j = 3 ∨ j = 4 ∨ j = 5 ∨ j = 6 ∨ j = 7 ∨ j = 8 ∨ j = 9 ∨ j = 10 ∨ j = 11 ∨ j = 12 by omega) with rfl | rfl | rfl | rfl | rfl | rfl | rfl | rfl | rfl | rfl | rfl | rfl | rfl <;> rfl) (by decide) (by decide) dL_law_8 ?_
    refine zr_nmh (fun h2 g2 => ?_)
    have f2 : h2 (73) = .inr (6, [.null, .int 0, .null, .null, .null, .null, .null, .null, .int 0, .int 0, .int 0, .int 0, .long 0]) := by rw [g2, z_up_at]
    refine zr_dup hX dL_law_11 rfl ?_
    refine zr_callg hX hY (c_X6_init f2) dL_law_12 rfl kw_650 kw_651 kw_67 ⟨rfl, rfl⟩ hy_X6_init kw_652 ⟨by decide, by decide⟩ ⟨by decide, by decide⟩ (Nat.le_of_ble_eq_true rfl) ?_
    refine zr_astore_n (L' := [(2, .ref (s.heap.size + 73)), (1, .ref (s.heap.size + 0)), (0, .ref b)]) hX dL_law_15 rfl (by decide) rfl ?_
    refine zr_iconst hX dL_law_16 (v := (0 : Int32)) (by decide) ?_
    refine zr_istore_n (L' := [(3, .int 0), (2, .ref (s.heap.size + 73)), (1, .ref (s.heap.size + 0)), (0, .ref b)]) hX dL_law_17 rfl (by decide) rfl ?_
    have h9 := t_law (l := l) (e := e) (below := below) (cI := cI) (cJ := cJ) (cM := cM) (cS := cS) (n0 := s.heap.size) hX hY rfl hxs hbl hbA 513 81 2707 0 zs_0 (by decide) (by decide) (HP xs L hL) (by decide)
    intro H locs ls hl hR hS
    refine h9 H locs ls (lv_sub hl [3, 2, 1, 0] rfl) (z_H_ext hR (fun k hk => ?_)) hS
    show z_E s.heap.size cI cJ cM cS zs_0 k = if k < 73 then h2 k else z_E s.heap.size cI cJ cM cS zs_0 k
    by_cases h73 : k < 73
    · rw [if_pos h73, g2, z_up_ne _ _ (by omega)]
      rfl
    · rw [if_neg h73]
  exact key s.heap [] _ hl ⟨rfl, fun k hk => absurd hk (Nat.not_lt_zero k)⟩ va_S.rf
