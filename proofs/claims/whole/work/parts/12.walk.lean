theorem dX1_sumImbalance_0 : decode cX1_sumImbalance 0 = .ok (.iconst 0, 1) := by decide +kernel
theorem dX1_sumImbalance_1 : decode cX1_sumImbalance 1 = .ok (.istore_n 3, 1) := by decide +kernel
theorem dX1_sumImbalance_2 : decode cX1_sumImbalance 2 = .ok (.iconst 0, 1) := by decide +kernel
theorem dX1_sumImbalance_3 : decode cX1_sumImbalance 3 = .ok (.istore 4, 2) := by decide +kernel
theorem dX1_sumImbalance_5 : decode cX1_sumImbalance 5 = .ok (.iload 4, 2) := by decide +kernel
theorem dX1_sumImbalance_7 : decode cX1_sumImbalance 7 = .ok (.bipush 12, 2) := by decide +kernel
theorem dX1_sumImbalance_9 : decode cX1_sumImbalance 9 = .ok (.if_icmp .ge 23, 3) := by decide +kernel
theorem dX1_sumImbalance_12 : decode cX1_sumImbalance 12 = .ok (.iload_n 3, 1) := by decide +kernel
theorem dX1_sumImbalance_13 : decode cX1_sumImbalance 13 = .ok (.aload_n 0, 1) := by decide +kernel
theorem dX1_sumImbalance_14 : decode cX1_sumImbalance 14 = .ok (.aload_n 1, 1) := by decide +kernel
theorem dX1_sumImbalance_15 : decode cX1_sumImbalance 15 = .ok (.iload_n 2, 1) := by decide +kernel
theorem dX1_sumImbalance_16 : decode cX1_sumImbalance 16 = .ok (.iload 4, 2) := by decide +kernel
theorem dX1_sumImbalance_18 : decode cX1_sumImbalance 18 = .ok (.invokevirtual 71, 3) := by decide +kernel
theorem dX1_sumImbalance_21 : decode cX1_sumImbalance 21 = .ok (.invokestatic 80, 3) := by decide +kernel
theorem dX1_sumImbalance_24 : decode cX1_sumImbalance 24 = .ok (.iadd, 1) := by decide +kernel
theorem dX1_sumImbalance_25 : decode cX1_sumImbalance 25 = .ok (.istore_n 3, 1) := by decide +kernel
theorem dX1_sumImbalance_26 : decode cX1_sumImbalance 26 = .ok (.iinc 4 1, 3) := by decide +kernel
theorem dX1_sumImbalance_29 : decode cX1_sumImbalance 29 = .ok (.goto (-24), 3) := by decide +kernel
theorem dX1_sumImbalance_32 : decode cX1_sumImbalance 32 = .ok (.iload_n 3, 1) := by decide +kernel
theorem dX1_sumImbalance_33 : decode cX1_sumImbalance 33 = .ok (.ireturn, 1) := by decide +kernel
abbrev rm_X1_sumImbalance : Room := { frames := 1, cells := 0, slots := 0, locals := 25 }
theorem hy_X1_sumImbalance : yX1_sumImbalance.cls ≠ "java/lang/invoke/MethodHandle" ∧ yX1_sumImbalance.cls ≠ "java/lang/invoke/VarHandle" ∧ (parseMethodDescriptor yX1_sumImbalance.desc).map (fun d => d.parameters.length) = some 2 := by decide +kernel
def wb_X1_sumImbalance_5  (Q : Int32 → z_S → Prop) (k5 : Int32 → Int32 → Int32 → z_S → Prop) (x2 : Int32) (x3 : Int32) (x4 : Int32) (σ : z_S) : Prop :=
  if (12 : Int32) ≤ x4 then (Q x3 σ) else (w_X1_lossIn x2 x4 σ (fun r2 σ3 => ∀ y4 : Int32, y4 = (x3 + (if 0 ≤ r2 then r2 else 0 - r2)) → ∀ y5 : Int32, y5 = (x4 + (1 : Int32)) → k5 x2 y4 y5 σ3))
def w_X1_sumImbalance_5  (Q : Int32 → z_S → Prop) : Nat → Int32 → Int32 → Int32 → z_S → Prop
  | 0 => fun _ _ _ _ => False
  | n + 1 => wb_X1_sumImbalance_5  Q (w_X1_sumImbalance_5  Q n)
def w_X1_sumImbalance (a2 : Int32) (σ : z_S) (Q : Int32 → z_S → Prop) : Prop :=
  w_X1_sumImbalance_5 Q 400 a2 (0 : Int32) (0 : Int32) σ
set_option maxHeartbeats 4000000 in
set_option maxRecDepth 100000 in
theorem t_X1_sumImbalance_5 {l : Launch} {D : va_G} {cI cJ cM cS : ClassId} {n0 : Nat} {p : Program} {e : Env} {s : State} {m : MethodId} {args : Array Value} {below : List Frame} {meth : Method} {c : Code}  {Q : Int32 → z_S → Prop} (hX : z_X D cI cJ cM cS p s m args c cX1_sumImbalance 5 yX1_sumImbalance.cls) (hY : z_Y s meth (some .int))  : ∀ (n : Nat) (x2 : Int32) (x3 : Int32) (x4 : Int32) (σ : z_S), w_X1_sumImbalance_5  Q n x2 x3 x4 σ → z_t D cI cJ cM cS n0 p l e rm_X1_sumImbalance s m args below meth c 5 (MQ below (va_Qi Q (fun u t => z_Bq D cI cJ cM cS n0 u t) (z_Ab n0)) args s 0 0 (z_Ab n0)) 0 0 5 [(0, .ref (n0 + 29)), (1, .ref (n0 + 1)), (2, .int x2), (3, .int x3), (4, .int x4)] [] σ := by
  intro n
  induction n with
  | zero => intro _ _ _ _ hf; exact hf.elim
  | succ n ih5 =>
    intro x2 x3 x4 σ hf
    have hf : wb_X1_sumImbalance_5  Q (w_X1_sumImbalance_5  Q n) x2 x3 x4 σ := hf
    unfold wb_X1_sumImbalance_5 at hf
    refine zt_iload hX 4 dX1_sumImbalance_5 rfl ?_
    refine zt_bipush hX dX1_sumImbalance_7 (v := (12 : Int32)) (by decide) ?_
    refine zt_icmp_ge hX dX1_sumImbalance_9 (tgt := 32) (by decide) (fun c1 => ?_) (fun c1 => ?_)
    · replace hf := z_pos hf c1
      refine zt_iload_n hX 3 dX1_sumImbalance_32 rfl rfl ?_
      exact zt_iret hX hY dX1_sumImbalance_33 hf
    · replace hf := z_neg hf c1
      refine zt_iload_n hX 3 dX1_sumImbalance_12 rfl rfl ?_
      refine zt_aload_n hX 0 dX1_sumImbalance_13 rfl rfl ?_
      refine zt_aload_n hX 1 dX1_sumImbalance_14 rfl rfl ?_
      refine zt_iload_n hX 2 dX1_sumImbalance_15 rfl rfl ?_
      refine zt_iload hX 4 dX1_sumImbalance_16 rfl ?_
      refine zt_calliV hX hY (av := [.ref (n0 + 1), .int x2, .int x4]) (c_X1_lossIn hf) dX1_sumImbalance_18 rfl kw_482 kw_431 kw_432 kw_64 kw_433 ⟨rfl, rfl⟩ hy_X1_lossIn ⟨by decide, by decide⟩ ⟨by decide, by decide⟩ (Nat.le_of_ble_eq_true rfl) (by decide) (zE_29 _ _) rfl rfl (fun r2 σ3 hf => ?_)
      refine zt_abs hX dX1_sumImbalance_21 kw_523 (by decide) (Nat.le_of_ble_eq_true rfl) (by decide) (by decide) ?_
      refine zt_iadd hX dX1_sumImbalance_24 ?_
      refine zt_nmi (fun y4 e4 => ?_)
      replace hf := hf y4 e4
      refine zt_istore_n (L' := [(3, .int y4), (0, .ref (n0 + 29)), (1, .ref (n0 + 1)), (2, .int x2), (4, .int x4)]) hX dX1_sumImbalance_25 rfl (by decide) rfl ?_
      obtain ⟨y5, e5⟩ : ∃ y : Int32, y = (x4 + (1 : Int32)) := ⟨_, rfl⟩
      replace hf := hf y5 e5
      refine zt_iinc (L' := [(4, .int y5), (3, .int y4), (0, .ref (n0 + 29)), (1, .ref (n0 + 1)), (2, .int x2)]) hX 4 dX1_sumImbalance_26 rfl (v := y5) (by rw [e5]; rfl) (by decide) rfl ?_
      refine zt_goto hX dX1_sumImbalance_29 (tgt := 5) (by decide) ?_
      exact zt_sub [2, 3, 4, 1, 0] rfl (ih5 _ _ _ _ hf)
set_option maxHeartbeats 4000000 in
set_option maxRecDepth 100000 in
theorem c_X1_sumImbalance {l : Launch} {D : va_G} {cI cJ cM cS : ClassId} {n0 : Nat} {a2 : Int32} {σ : z_S} {Q : Int32 → z_S → Prop} (hf : w_X1_sumImbalance a2 σ Q) : z_ci l D cI cJ cM cS n0 yX1_sumImbalance cX1_sumImbalance 5 .int rm_X1_sumImbalance 0 0 [.ref (n0 + 29), .ref (n0 + 1), .int a2] σ Q := by
  refine z_ofi (by decide +kernel) (Nat.le_of_ble_eq_true rfl) (fun p e s m args below meth c hX hY => ?_)
  unfold w_X1_sumImbalance at hf
  refine zt_L (L' := [(0, .ref (n0 + 29)), (1, .ref (n0 + 1)), (2, .int a2)]) rfl ?_
  refine zt_iconst hX dX1_sumImbalance_0 (v := (0 : Int32)) (by decide) ?_
  refine zt_istore_n (L' := [(3, .int (0 : Int32)), (0, .ref (n0 + 29)), (1, .ref (n0 + 1)), (2, .int a2)]) hX dX1_sumImbalance_1 rfl (by decide) rfl ?_
  refine zt_iconst hX dX1_sumImbalance_2 (v := (0 : Int32)) (by decide) ?_
  refine zt_istore (L' := [(4, .int (0 : Int32)), (3, .int (0 : Int32)), (0, .ref (n0 + 29)), (1, .ref (n0 + 1)), (2, .int a2)]) hX dX1_sumImbalance_3 (by decide) rfl ?_
  exact zt_sub [2, 3, 4, 1, 0] rfl (t_X1_sumImbalance_5 hX hY 400 _ _ _ _ hf)

theorem dX1_scaled_0 : decode cX1_scaled 0 = .ok (.iload_n 1, 1) := by decide +kernel
theorem dX1_scaled_1 : decode cX1_scaled 1 = .ok (.tableswitch 72 0 6 #[43, 48, 52, 56, 60, 64, 68], 43) := by decide +kernel
theorem dX1_scaled_44 : decode cX1_scaled 44 = .ok (.iload_n 0, 1) := by decide +kernel
theorem dX1_scaled_45 : decode cX1_scaled 45 = .ok (.bipush 10, 2) := by decide +kernel
theorem dX1_scaled_47 : decode cX1_scaled 47 = .ok (.idiv, 1) := by decide +kernel
theorem dX1_scaled_48 : decode cX1_scaled 48 = .ok (.ireturn, 1) := by decide +kernel
theorem dX1_scaled_49 : decode cX1_scaled 49 = .ok (.iload_n 0, 1) := by decide +kernel
theorem dX1_scaled_50 : decode cX1_scaled 50 = .ok (.iconst 5, 1) := by decide +kernel
theorem dX1_scaled_51 : decode cX1_scaled 51 = .ok (.idiv, 1) := by decide +kernel
theorem dX1_scaled_52 : decode cX1_scaled 52 = .ok (.ireturn, 1) := by decide +kernel
theorem dX1_scaled_53 : decode cX1_scaled 53 = .ok (.iload_n 0, 1) := by decide +kernel
theorem dX1_scaled_54 : decode cX1_scaled 54 = .ok (.iconst 4, 1) := by decide +kernel
theorem dX1_scaled_55 : decode cX1_scaled 55 = .ok (.idiv, 1) := by decide +kernel
theorem dX1_scaled_56 : decode cX1_scaled 56 = .ok (.ireturn, 1) := by decide +kernel
theorem dX1_scaled_57 : decode cX1_scaled 57 = .ok (.iload_n 0, 1) := by decide +kernel
theorem dX1_scaled_58 : decode cX1_scaled 58 = .ok (.iconst 2, 1) := by decide +kernel
theorem dX1_scaled_59 : decode cX1_scaled 59 = .ok (.idiv, 1) := by decide +kernel
theorem dX1_scaled_60 : decode cX1_scaled 60 = .ok (.ireturn, 1) := by decide +kernel
theorem dX1_scaled_61 : decode cX1_scaled 61 = .ok (.iload_n 0, 1) := by decide +kernel
theorem dX1_scaled_62 : decode cX1_scaled 62 = .ok (.iconst 2, 1) := by decide +kernel
theorem dX1_scaled_63 : decode cX1_scaled 63 = .ok (.imul, 1) := by decide +kernel
theorem dX1_scaled_64 : decode cX1_scaled 64 = .ok (.ireturn, 1) := by decide +kernel
theorem dX1_scaled_65 : decode cX1_scaled 65 = .ok (.iload_n 0, 1) := by decide +kernel
theorem dX1_scaled_66 : decode cX1_scaled 66 = .ok (.iconst 4, 1) := by decide +kernel
theorem dX1_scaled_67 : decode cX1_scaled 67 = .ok (.imul, 1) := by decide +kernel
theorem dX1_scaled_68 : decode cX1_scaled 68 = .ok (.ireturn, 1) := by decide +kernel
theorem dX1_scaled_69 : decode cX1_scaled 69 = .ok (.iload_n 0, 1) := by decide +kernel
theorem dX1_scaled_70 : decode cX1_scaled 70 = .ok (.iconst 5, 1) := by decide +kernel
theorem dX1_scaled_71 : decode cX1_scaled 71 = .ok (.imul, 1) := by decide +kernel
theorem dX1_scaled_72 : decode cX1_scaled 72 = .ok (.ireturn, 1) := by decide +kernel
theorem dX1_scaled_73 : decode cX1_scaled 73 = .ok (.iload_n 0, 1) := by decide +kernel
theorem dX1_scaled_74 : decode cX1_scaled 74 = .ok (.bipush 10, 2) := by decide +kernel
theorem dX1_scaled_76 : decode cX1_scaled 76 = .ok (.imul, 1) := by decide +kernel
theorem dX1_scaled_77 : decode cX1_scaled 77 = .ok (.ireturn, 1) := by decide +kernel
abbrev rm_X1_scaled : Room := { frames := 0, cells := 0, slots := 0, locals := 0 }
theorem hy_X1_scaled : yX1_scaled.cls ≠ "java/lang/invoke/MethodHandle" ∧ yX1_scaled.cls ≠ "java/lang/invoke/VarHandle" ∧ (parseMethodDescriptor yX1_scaled.desc).map (fun d => d.parameters.length) = some 2 := by decide +kernel
def w_X1_scaled (a0 : Int32) (a1 : Int32) (σ : z_S) (Q : Int32 → z_S → Prop) : Prop :=
  if a1 = (0 : Int32) then (¬ (10 : Int32) = 0 ∧ Q (a0 / (10 : Int32)) σ) else (if a1 = (1 : Int32) then (¬ (5 : Int32) = 0 ∧ Q (a0 / (5 : Int32)) σ) else (if a1 = (2 : Int32) then (¬ (4 : Int32) = 0 ∧ Q (a0 / (4 : Int32)) σ) else (if a1 = (3 : Int32) then (¬ (2 : Int32) = 0 ∧ Q (a0 / (2 : Int32)) σ) else (if a1 = (4 : Int32) then (Q (a0 * (2 : Int32)) σ) else (if a1 = (5 : Int32) then (Q (a0 * (4 : Int32)) σ) else (if a1 = (6 : Int32) then (Q (a0 * (5 : Int32)) σ) else (Q (a0 * (10 : Int32)) σ)))))))
set_option maxHeartbeats 4000000 in
set_option maxRecDepth 100000 in
theorem c_X1_scaled {l : Launch} {D : va_G} {cI cJ cM cS : ClassId} {n0 : Nat} {a0 : Int32} {a1 : Int32} {σ : z_S} {Q : Int32 → z_S → Prop} (hf : w_X1_scaled a0 a1 σ Q) : z_ci l D cI cJ cM cS n0 yX1_scaled cX1_scaled 2 .int rm_X1_scaled 0 0 [.int a0, .int a1] σ Q := by
  refine z_ofi (by decide +kernel) (Nat.le_of_ble_eq_true rfl) (fun p e s m args below meth c hX hY => ?_)
  unfold w_X1_scaled at hf
  refine zt_L (L' := [(0, .int a0), (1, .int a1)]) rfl ?_
  refine zt_iload_n hX 1 dX1_scaled_0 rfl rfl ?_
  by_cases c1 : a1 = (0 : Int32)
  · replace hf := z_pos hf c1
    refine zt_tabIn hX dX1_scaled_1 (by rw [c1]; decide) (by rw [c1]; decide) (off := 43) (by rw [c1]; rfl) (tgt := 44) (by decide) ?_
    refine zt_iload_n hX 0 dX1_scaled_44 rfl rfl ?_
    refine zt_bipush hX dX1_scaled_45 (v := (10 : Int32)) (by decide) ?_
    obtain ⟨h2, hf⟩ := hf
    refine zt_idiv hX dX1_scaled_47 h2 ?_
    exact zt_iret hX hY dX1_scaled_48 hf
  replace hf := z_neg hf c1
  by_cases c3 : a1 = (1 : Int32)
  · replace hf := z_pos hf c3
    refine zt_tabIn hX dX1_scaled_1 (by rw [c3]; decide) (by rw [c3]; decide) (off := 48) (by rw [c3]; rfl) (tgt := 49) (by decide) ?_
    refine zt_iload_n hX 0 dX1_scaled_49 rfl rfl ?_
    refine zt_iconst hX dX1_scaled_50 (v := (5 : Int32)) (by decide) ?_
    obtain ⟨h4, hf⟩ := hf
    refine zt_idiv hX dX1_scaled_51 h4 ?_
    exact zt_iret hX hY dX1_scaled_52 hf
  replace hf := z_neg hf c3
  by_cases c5 : a1 = (2 : Int32)
  · replace hf := z_pos hf c5
    refine zt_tabIn hX dX1_scaled_1 (by rw [c5]; decide) (by rw [c5]; decide) (off := 52) (by rw [c5]; rfl) (tgt := 53) (by decide) ?_
    refine zt_iload_n hX 0 dX1_scaled_53 rfl rfl ?_
    refine zt_iconst hX dX1_scaled_54 (v := (4 : Int32)) (by decide) ?_
    obtain ⟨h6, hf⟩ := hf
    refine zt_idiv hX dX1_scaled_55 h6 ?_
    exact zt_iret hX hY dX1_scaled_56 hf
  replace hf := z_neg hf c5
  by_cases c7 : a1 = (3 : Int32)
  · replace hf := z_pos hf c7
    refine zt_tabIn hX dX1_scaled_1 (by rw [c7]; decide) (by rw [c7]; decide) (off := 56) (by rw [c7]; rfl) (tgt := 57) (by decide) ?_
    refine zt_iload_n hX 0 dX1_scaled_57 rfl rfl ?_
    refine zt_iconst hX dX1_scaled_58 (v := (2 : Int32)) (by decide) ?_
    obtain ⟨h8, hf⟩ := hf
    refine zt_idiv hX dX1_scaled_59 h8 ?_
    exact zt_iret hX hY dX1_scaled_60 hf
  replace hf := z_neg hf c7
  by_cases c9 : a1 = (4 : Int32)
  · replace hf := z_pos hf c9
    refine zt_tabIn hX dX1_scaled_1 (by rw [c9]; decide) (by rw [c9]; decide) (off := 60) (by rw [c9]; rfl) (tgt := 61) (by decide) ?_
    refine zt_iload_n hX 0 dX1_scaled_61 rfl rfl ?_
    refine zt_iconst hX dX1_scaled_62 (v := (2 : Int32)) (by decide) ?_
    refine zt_imul hX dX1_scaled_63 ?_
    exact zt_iret hX hY dX1_scaled_64 hf
  replace hf := z_neg hf c9
  by_cases c10 : a1 = (5 : Int32)
  · replace hf := z_pos hf c10
    refine zt_tabIn hX dX1_scaled_1 (by rw [c10]; decide) (by rw [c10]; decide) (off := 64) (by rw [c10]; rfl) (tgt := 65) (by decide) ?_
    refine zt_iload_n hX 0 dX1_scaled_65 rfl rfl ?_
    refine zt_iconst hX dX1_scaled_66 (v := (4 : Int32)) (by decide) ?_
    refine zt_imul hX dX1_scaled_67 ?_
    exact zt_iret hX hY dX1_scaled_68 hf
  replace hf := z_neg hf c10
  by_cases c11 : a1 = (6 : Int32)
  · replace hf := z_pos hf c11
    refine zt_tabIn hX dX1_scaled_1 (by rw [c11]; decide) (by rw [c11]; decide) (off := 68) (by rw [c11]; rfl) (tgt := 69) (by decide) ?_
    refine zt_iload_n hX 0 dX1_scaled_69 rfl rfl ?_
    refine zt_iconst hX dX1_scaled_70 (v := (5 : Int32)) (by decide) ?_
    refine zt_imul hX dX1_scaled_71 ?_
    exact zt_iret hX hY dX1_scaled_72 hf
  replace hf := z_neg hf c11
  have qc1 := lv_neT c1 (show (0 : Int32).toInt = 0 from rfl)
  have qc3 := lv_neT c3 (show (1 : Int32).toInt = 1 from rfl)
  have qc5 := lv_neT c5 (show (2 : Int32).toInt = 2 from rfl)
  have qc7 := lv_neT c7 (show (3 : Int32).toInt = 3 from rfl)
  have qc9 := lv_neT c9 (show (4 : Int32).toInt = 4 from rfl)
  have qc10 := lv_neT c10 (show (5 : Int32).toInt = 5 from rfl)
  have qc11 := lv_neT c11 (show (6 : Int32).toInt = 6 from rfl)
  refine zt_tabOut hX dX1_scaled_1 (by omega) (tgt := 73) (by decide) ?_
  refine zt_iload_n hX 0 dX1_scaled_73 rfl rfl ?_
  refine zt_bipush hX dX1_scaled_74 (v := (10 : Int32)) (by decide) ?_
  refine zt_imul hX dX1_scaled_76 ?_
  exact zt_iret hX hY dX1_scaled_77 hf

theorem dX1_sumImbalanceScaled_0 : decode cX1_sumImbalanceScaled 0 = .ok (.iconst 0, 1) := by decide +kernel
theorem dX1_sumImbalanceScaled_1 : decode cX1_sumImbalanceScaled 1 = .ok (.istore 5, 2) := by decide +kernel
theorem dX1_sumImbalanceScaled_3 : decode cX1_sumImbalanceScaled 3 = .ok (.iconst 0, 1) := by decide +kernel
theorem dX1_sumImbalanceScaled_4 : decode cX1_sumImbalanceScaled 4 = .ok (.istore 6, 2) := by decide +kernel
theorem dX1_sumImbalanceScaled_6 : decode cX1_sumImbalanceScaled 6 = .ok (.iload 6, 2) := by decide +kernel
theorem dX1_sumImbalanceScaled_8 : decode cX1_sumImbalanceScaled 8 = .ok (.bipush 12, 2) := by decide +kernel
theorem dX1_sumImbalanceScaled_10 : decode cX1_sumImbalanceScaled 10 = .ok (.if_icmp .ge 47, 3) := by decide +kernel
theorem dX1_sumImbalanceScaled_13 : decode cX1_sumImbalanceScaled 13 = .ok (.aload_n 0, 1) := by decide +kernel
theorem dX1_sumImbalanceScaled_14 : decode cX1_sumImbalanceScaled 14 = .ok (.getfield 11, 3) := by decide +kernel
theorem dX1_sumImbalanceScaled_17 : decode cX1_sumImbalanceScaled 17 = .ok (.iload_n 3, 1) := by decide +kernel
theorem dX1_sumImbalanceScaled_18 : decode cX1_sumImbalanceScaled 18 = .ok (.aaload, 1) := by decide +kernel
theorem dX1_sumImbalanceScaled_19 : decode cX1_sumImbalanceScaled 19 = .ok (.iload 6, 2) := by decide +kernel
theorem dX1_sumImbalanceScaled_21 : decode cX1_sumImbalanceScaled 21 = .ok (.iaload, 1) := by decide +kernel
theorem dX1_sumImbalanceScaled_22 : decode cX1_sumImbalanceScaled 22 = .ok (.istore 7, 2) := by decide +kernel
theorem dX1_sumImbalanceScaled_24 : decode cX1_sumImbalanceScaled 24 = .ok (.iload 5, 2) := by decide +kernel
theorem dX1_sumImbalanceScaled_26 : decode cX1_sumImbalanceScaled 26 = .ok (.aload_n 0, 1) := by decide +kernel
theorem dX1_sumImbalanceScaled_27 : decode cX1_sumImbalanceScaled 27 = .ok (.aload_n 1, 1) := by decide +kernel
theorem dX1_sumImbalanceScaled_28 : decode cX1_sumImbalanceScaled 28 = .ok (.iload_n 2, 1) := by decide +kernel
theorem dX1_sumImbalanceScaled_29 : decode cX1_sumImbalanceScaled 29 = .ok (.iload 6, 2) := by decide +kernel
theorem dX1_sumImbalanceScaled_31 : decode cX1_sumImbalanceScaled 31 = .ok (.invokevirtual 71, 3) := by decide +kernel
theorem dX1_sumImbalanceScaled_34 : decode cX1_sumImbalanceScaled 34 = .ok (.iload 7, 2) := by decide +kernel
theorem dX1_sumImbalanceScaled_36 : decode cX1_sumImbalanceScaled 36 = .ok (.iadd, 1) := by decide +kernel
theorem dX1_sumImbalanceScaled_37 : decode cX1_sumImbalanceScaled 37 = .ok (.iload 7, 2) := by decide +kernel
theorem dX1_sumImbalanceScaled_39 : decode cX1_sumImbalanceScaled 39 = .ok (.iload 4, 2) := by decide +kernel
theorem dX1_sumImbalanceScaled_41 : decode cX1_sumImbalanceScaled 41 = .ok (.invokestatic 86, 3) := by decide +kernel
theorem dX1_sumImbalanceScaled_44 : decode cX1_sumImbalanceScaled 44 = .ok (.isub, 1) := by decide +kernel
theorem dX1_sumImbalanceScaled_45 : decode cX1_sumImbalanceScaled 45 = .ok (.invokestatic 80, 3) := by decide +kernel
theorem dX1_sumImbalanceScaled_48 : decode cX1_sumImbalanceScaled 48 = .ok (.iadd, 1) := by decide +kernel
theorem dX1_sumImbalanceScaled_49 : decode cX1_sumImbalanceScaled 49 = .ok (.istore 5, 2) := by decide +kernel
theorem dX1_sumImbalanceScaled_51 : decode cX1_sumImbalanceScaled 51 = .ok (.iinc 6 1, 3) := by decide +kernel
theorem dX1_sumImbalanceScaled_54 : decode cX1_sumImbalanceScaled 54 = .ok (.goto (-48), 3) := by decide +kernel
theorem dX1_sumImbalanceScaled_57 : decode cX1_sumImbalanceScaled 57 = .ok (.iload 5, 2) := by decide +kernel
theorem dX1_sumImbalanceScaled_59 : decode cX1_sumImbalanceScaled 59 = .ok (.ireturn, 1) := by decide +kernel
abbrev rm_X1_sumImbalanceScaled : Room := { frames := 1, cells := 0, slots := 0, locals := 25 }
theorem hy_X1_sumImbalanceScaled : yX1_sumImbalanceScaled.cls ≠ "java/lang/invoke/MethodHandle" ∧ yX1_sumImbalanceScaled.cls ≠ "java/lang/invoke/VarHandle" ∧ (parseMethodDescriptor yX1_sumImbalanceScaled.desc).map (fun d => d.parameters.length) = some 4 := by decide +kernel
def wb_X1_sumImbalanceScaled_6  (Q : Int32 → z_S → Prop) (k6 : Int32 → Int32 → Int32 → Int32 → Int32 → z_S → Prop) (x2 : Int32) (x3 : Int32) (x4 : Int32) (x5 : Int32) (x6 : Int32) (σ : z_S) : Prop :=
  if (12 : Int32) ≤ x6 then (Q x5 σ) else (vp_in x3 10 ∧ vp_in x6 12 ∧ ∀ y4 : Int32, y4 = (zg_i σ (31 + x3.toNatClampNeg) x6.toNatClampNeg) → w_X1_lossIn x2 x6 σ (fun r5 σ6 => w_X1_scaled y4 x4 σ6 (fun r7 σ8 => ∀ y9 : Int32, y9 = (x5 + (if 0 ≤ ((r5 + y4) - r7) then ((r5 + y4) - r7) else 0 - ((r5 + y4) - r7))) → ∀ y10 : Int32, y10 = (x6 + (1 : Int32)) → k6 x2 x3 x4 y9 y10 σ8)))
def w_X1_sumImbalanceScaled_6  (Q : Int32 → z_S → Prop) : Nat → Int32 → Int32 → Int32 → Int32 → Int32 → z_S → Prop
  | 0 => fun _ _ _ _ _ _ => False
  | n + 1 => wb_X1_sumImbalanceScaled_6  Q (w_X1_sumImbalanceScaled_6  Q n)
def w_X1_sumImbalanceScaled (a2 : Int32) (a3 : Int32) (a4 : Int32) (σ : z_S) (Q : Int32 → z_S → Prop) : Prop :=
  w_X1_sumImbalanceScaled_6 Q 400 a2 a3 a4 (0 : Int32) (0 : Int32) σ
set_option maxHeartbeats 4000000 in
set_option maxRecDepth 100000 in
theorem t_X1_sumImbalanceScaled_6 {l : Launch} {D : va_G} {cI cJ cM cS : ClassId} {n0 : Nat} {p : Program} {e : Env} {s : State} {m : MethodId} {args : Array Value} {below : List Frame} {meth : Method} {c : Code}  {Q : Int32 → z_S → Prop} (hX : z_X D cI cJ cM cS p s m args c cX1_sumImbalanceScaled 8 yX1_sumImbalanceScaled.cls) (hY : z_Y s meth (some .int))  : ∀ (n : Nat) (x2 : Int32) (x3 : Int32) (x4 : Int32) (x5 : Int32) (x6 : Int32) (σ : z_S), w_X1_sumImbalanceScaled_6  Q n x2 x3 x4 x5 x6 σ → z_t D cI cJ cM cS n0 p l e rm_X1_sumImbalanceScaled s m args below meth c 8 (MQ below (va_Qi Q (fun u t => z_Bq D cI cJ cM cS n0 u t) (z_Ab n0)) args s 0 0 (z_Ab n0)) 0 0 6 [(0, .ref (n0 + 29)), (1, .ref (n0 + 1)), (2, .int x2), (3, .int x3), (4, .int x4), (5, .int x5), (6, .int x6)] [] σ := by
  intro n
  induction n with
  | zero => intro _ _ _ _ _ _ hf; exact hf.elim
  | succ n ih6 =>
    intro x2 x3 x4 x5 x6 σ hf
    have hf : wb_X1_sumImbalanceScaled_6  Q (w_X1_sumImbalanceScaled_6  Q n) x2 x3 x4 x5 x6 σ := hf
    unfold wb_X1_sumImbalanceScaled_6 at hf
    refine zt_iload hX 6 dX1_sumImbalanceScaled_6 rfl ?_
    refine zt_bipush hX dX1_sumImbalanceScaled_8 (v := (12 : Int32)) (by decide) ?_
    refine zt_icmp_ge hX dX1_sumImbalanceScaled_10 (tgt := 57) (by decide) (fun c1 => ?_) (fun c1 => ?_)
    · replace hf := z_pos hf c1
      refine zt_iload hX 5 dX1_sumImbalanceScaled_57 rfl ?_
      exact zt_iret hX hY dX1_sumImbalanceScaled_59 hf
    · replace hf := z_neg hf c1
      refine zt_aload_n hX 0 dX1_sumImbalanceScaled_13 rfl rfl ?_
      refine zt_get_X1 hX (by decide) (zE_29 _ _) 0 (by decide) kw_166 rfl rfl dX1_sumImbalanceScaled_14 ?_
      refine zt_iload_n hX 3 dX1_sumImbalanceScaled_17 rfl rfl ?_
      obtain ⟨h2, hf⟩ := hf
      refine zt_aaloadM hX dX1_sumImbalanceScaled_18 (by decide) rfl (k1 := 31) rfl h2 ?_
      refine zt_iload hX 6 dX1_sumImbalanceScaled_19 rfl ?_
      obtain ⟨h3, hf⟩ := hf
      refine zt_iaload hX dX1_sumImbalanceScaled_21 (z_row31 (z_lt h2)) (z_sh31 (z_lt h2)) h3 ?_
      refine zt_nmi (fun y4 e4 => ?_)
      replace hf := hf y4 e4
      refine zt_istore (L' := [(7, .int y4), (0, .ref (n0 + 29)), (1, .ref (n0 + 1)), (2, .int x2), (3, .int x3), (4, .int x4), (5, .int x5), (6, .int x6)]) hX dX1_sumImbalanceScaled_22 (by decide) rfl ?_
      refine zt_iload hX 6 dX1_sumImbalanceScaled_24 rfl ?_
      refine zt_aload_n hX 1 dX1_sumImbalanceScaled_26 rfl rfl ?_
      refine zt_aload_n hX 2 dX1_sumImbalanceScaled_27 rfl rfl ?_
      refine zt_iload_n hX 3 dX1_sumImbalanceScaled_28 rfl rfl ?_
      refine zt_iload hX 7 dX1_sumImbalanceScaled_29 rfl ?_
      refine zt_calliV hX hY (av := [.ref (n0 + 1), .int x2, .int x6]) (c_X1_lossIn hf) dX1_sumImbalanceScaled_31 rfl kw_482 kw_431 kw_432 kw_64 kw_433 ⟨rfl, rfl⟩ hy_X1_lossIn ⟨by decide, by decide⟩ ⟨by decide, by decide⟩ (Nat.le_of_ble_eq_true rfl) (by decide) (zE_29 _ _) rfl rfl (fun r5 σ6 hf => ?_)
      refine zt_iload hX 0 dX1_sumImbalanceScaled_34 rfl ?_
      refine zt_iadd hX dX1_sumImbalanceScaled_36 ?_
      refine zt_iload hX 0 dX1_sumImbalanceScaled_37 rfl ?_
      refine zt_iload hX 5 dX1_sumImbalanceScaled_39 rfl ?_
      refine zt_calliS hX hY (av := [.int y4, .int x4]) (c_X1_scaled hf) dX1_sumImbalanceScaled_41 rfl kw_534 kw_535 kw_64 kw_536 ⟨rfl, rfl⟩ hy_X1_scaled ⟨by decide, by decide⟩ ⟨by decide, by decide⟩ (Nat.le_of_ble_eq_true rfl) (fun r7 σ8 hf => ?_)
      refine zt_isub hX dX1_sumImbalanceScaled_44 ?_
      refine zt_abs hX dX1_sumImbalanceScaled_45 kw_523 (by decide) (Nat.le_of_ble_eq_true rfl) (by decide) (by decide) ?_
      refine zt_iadd hX dX1_sumImbalanceScaled_48 ?_
      refine zt_nmi (fun y9 e9 => ?_)
      replace hf := hf y9 e9
      refine zt_istore (L' := [(5, .int y9), (7, .int y4), (0, .ref (n0 + 29)), (1, .ref (n0 + 1)), (2, .int x2), (3, .int x3), (4, .int x4), (6, .int x6)]) hX dX1_sumImbalanceScaled_49 (by decide) rfl ?_
      obtain ⟨y10, e10⟩ : ∃ y : Int32, y = (x6 + (1 : Int32)) := ⟨_, rfl⟩
      replace hf := hf y10 e10
      refine zt_iinc (L' := [(6, .int y10), (5, .int y9), (7, .int y4), (0, .ref (n0 + 29)), (1, .ref (n0 + 1)), (2, .int x2), (3, .int x3), (4, .int x4)]) hX 7 dX1_sumImbalanceScaled_51 rfl (v := y10) (by rw [e10]; rfl) (by decide) rfl ?_
      refine zt_goto hX dX1_sumImbalanceScaled_54 (tgt := 6) (by decide) ?_
      exact zt_sub [3, 4, 5, 6, 7, 1, 0] rfl (ih6 _ _ _ _ _ _ hf)
set_option maxHeartbeats 4000000 in
set_option maxRecDepth 100000 in
theorem c_X1_sumImbalanceScaled {l : Launch} {D : va_G} {cI cJ cM cS : ClassId} {n0 : Nat} {a2 : Int32} {a3 : Int32} {a4 : Int32} {σ : z_S} {Q : Int32 → z_S → Prop} (hf : w_X1_sumImbalanceScaled a2 a3 a4 σ Q) : z_ci l D cI cJ cM cS n0 yX1_sumImbalanceScaled cX1_sumImbalanceScaled 8 .int rm_X1_sumImbalanceScaled 0 0 [.ref (n0 + 29), .ref (n0 + 1), .int a2, .int a3, .int a4] σ Q := by
  refine z_ofi (by decide +kernel) (Nat.le_of_ble_eq_true rfl) (fun p e s m args below meth c hX hY => ?_)
  unfold w_X1_sumImbalanceScaled at hf
  refine zt_L (L' := [(0, .ref (n0 + 29)), (1, .ref (n0 + 1)), (2, .int a2), (3, .int a3), (4, .int a4)]) rfl ?_
  refine zt_iconst hX dX1_sumImbalanceScaled_0 (v := (0 : Int32)) (by decide) ?_
  refine zt_istore (L' := [(5, .int (0 : Int32)), (0, .ref (n0 + 29)), (1, .ref (n0 + 1)), (2, .int a2), (3, .int a3), (4, .int a4)]) hX dX1_sumImbalanceScaled_1 (by decide) rfl ?_
  refine zt_iconst hX dX1_sumImbalanceScaled_3 (v := (0 : Int32)) (by decide) ?_
  refine zt_istore (L' := [(6, .int (0 : Int32)), (5, .int (0 : Int32)), (0, .ref (n0 + 29)), (1, .ref (n0 + 1)), (2, .int a2), (3, .int a3), (4, .int a4)]) hX dX1_sumImbalanceScaled_4 (by decide) rfl ?_
  exact zt_sub [2, 3, 4, 5, 6, 1, 0] rfl (t_X1_sumImbalanceScaled_6 hX hY 400 _ _ _ _ _ _ hf)

theorem dX1_findSuspect_0 : decode cX1_findSuspect 0 = .ok (.iconst 0, 1) := by decide +kernel
theorem dX1_findSuspect_1 : decode cX1_findSuspect 1 = .ok (.istore_n 3, 1) := by decide +kernel
theorem dX1_findSuspect_2 : decode cX1_findSuspect 2 = .ok (.ldc 55, 2) := by decide +kernel
theorem dX1_findSuspect_4 : decode cX1_findSuspect 4 = .ok (.istore 4, 2) := by decide +kernel
theorem dX1_findSuspect_6 : decode cX1_findSuspect 6 = .ok (.iload_n 2, 1) := by decide +kernel
theorem dX1_findSuspect_7 : decode cX1_findSuspect 7 = .ok (.iconst 1, 1) := by decide +kernel
theorem dX1_findSuspect_8 : decode cX1_findSuspect 8 = .ok (.iadd, 1) := by decide +kernel
theorem dX1_findSuspect_9 : decode cX1_findSuspect 9 = .ok (.istore 5, 2) := by decide +kernel
theorem dX1_findSuspect_11 : decode cX1_findSuspect 11 = .ok (.iload 5, 2) := by decide +kernel
theorem dX1_findSuspect_13 : decode cX1_findSuspect 13 = .ok (.aload_n 1, 1) := by decide +kernel
theorem dX1_findSuspect_14 : decode cX1_findSuspect 14 = .ok (.getfield 27, 3) := by decide +kernel
theorem dX1_findSuspect_17 : decode cX1_findSuspect 17 = .ok (.if_icmp .ge 74, 3) := by decide +kernel
theorem dX1_findSuspect_20 : decode cX1_findSuspect 20 = .ok (.aload_n 1, 1) := by decide +kernel
theorem dX1_findSuspect_21 : decode cX1_findSuspect 21 = .ok (.getfield 33, 3) := by decide +kernel
theorem dX1_findSuspect_24 : decode cX1_findSuspect 24 = .ok (.iload 5, 2) := by decide +kernel
theorem dX1_findSuspect_26 : decode cX1_findSuspect 26 = .ok (.iaload, 1) := by decide +kernel
theorem dX1_findSuspect_27 : decode cX1_findSuspect 27 = .ok (.iload_n 2, 1) := by decide +kernel
theorem dX1_findSuspect_28 : decode cX1_findSuspect 28 = .ok (.if_icmp .ne 57, 3) := by decide +kernel
theorem dX1_findSuspect_31 : decode cX1_findSuspect 31 = .ok (.iconst 0, 1) := by decide +kernel
theorem dX1_findSuspect_32 : decode cX1_findSuspect 32 = .ok (.istore 6, 2) := by decide +kernel
theorem dX1_findSuspect_34 : decode cX1_findSuspect 34 = .ok (.iload 6, 2) := by decide +kernel
theorem dX1_findSuspect_36 : decode cX1_findSuspect 36 = .ok (.bipush 8, 2) := by decide +kernel
theorem dX1_findSuspect_38 : decode cX1_findSuspect 38 = .ok (.if_icmp .ge 47, 3) := by decide +kernel
theorem dX1_findSuspect_41 : decode cX1_findSuspect 41 = .ok (.aload_n 0, 1) := by decide +kernel
theorem dX1_findSuspect_42 : decode cX1_findSuspect 42 = .ok (.aload_n 1, 1) := by decide +kernel
theorem dX1_findSuspect_43 : decode cX1_findSuspect 43 = .ok (.iload_n 2, 1) := by decide +kernel
theorem dX1_findSuspect_44 : decode cX1_findSuspect 44 = .ok (.iload 5, 2) := by decide +kernel
theorem dX1_findSuspect_46 : decode cX1_findSuspect 46 = .ok (.iload 6, 2) := by decide +kernel
theorem dX1_findSuspect_48 : decode cX1_findSuspect 48 = .ok (.invokevirtual 89, 3) := by decide +kernel
theorem dX1_findSuspect_51 : decode cX1_findSuspect 51 = .ok (.istore 7, 2) := by decide +kernel
theorem dX1_findSuspect_53 : decode cX1_findSuspect 53 = .ok (.iload 4, 2) := by decide +kernel
theorem dX1_findSuspect_55 : decode cX1_findSuspect 55 = .ok (.ldc 55, 2) := by decide +kernel
theorem dX1_findSuspect_57 : decode cX1_findSuspect 57 = .ok (.if_icmp .eq 9, 3) := by decide +kernel
theorem dX1_findSuspect_60 : decode cX1_findSuspect 60 = .ok (.iload 7, 2) := by decide +kernel
theorem dX1_findSuspect_62 : decode cX1_findSuspect 62 = .ok (.iload_n 3, 1) := by decide +kernel
theorem dX1_findSuspect_63 : decode cX1_findSuspect 63 = .ok (.if_icmp .ge 16, 3) := by decide +kernel
theorem dX1_findSuspect_66 : decode cX1_findSuspect 66 = .ok (.iload 7, 2) := by decide +kernel
theorem dX1_findSuspect_68 : decode cX1_findSuspect 68 = .ok (.istore_n 3, 1) := by decide +kernel
theorem dX1_findSuspect_69 : decode cX1_findSuspect 69 = .ok (.bipush 10, 2) := by decide +kernel
theorem dX1_findSuspect_71 : decode cX1_findSuspect 71 = .ok (.iload 5, 2) := by decide +kernel
theorem dX1_findSuspect_73 : decode cX1_findSuspect 73 = .ok (.imul, 1) := by decide +kernel
theorem dX1_findSuspect_74 : decode cX1_findSuspect 74 = .ok (.iload 6, 2) := by decide +kernel
theorem dX1_findSuspect_76 : decode cX1_findSuspect 76 = .ok (.iadd, 1) := by decide +kernel
theorem dX1_findSuspect_77 : decode cX1_findSuspect 77 = .ok (.istore 4, 2) := by decide +kernel
theorem dX1_findSuspect_79 : decode cX1_findSuspect 79 = .ok (.iinc 6 1, 3) := by decide +kernel
theorem dX1_findSuspect_82 : decode cX1_findSuspect 82 = .ok (.goto (-48), 3) := by decide +kernel
theorem dX1_findSuspect_85 : decode cX1_findSuspect 85 = .ok (.iinc 5 1, 3) := by decide +kernel
theorem dX1_findSuspect_88 : decode cX1_findSuspect 88 = .ok (.goto (-77), 3) := by decide +kernel
theorem dX1_findSuspect_91 : decode cX1_findSuspect 91 = .ok (.iload_n 3, 1) := by decide +kernel
theorem dX1_findSuspect_92 : decode cX1_findSuspect 92 = .ok (.i2l, 1) := by decide +kernel
theorem dX1_findSuspect_93 : decode cX1_findSuspect 93 = .ok (.ldc2_w 93, 3) := by decide +kernel
theorem dX1_findSuspect_96 : decode cX1_findSuspect 96 = .ok (.lmul, 1) := by decide +kernel
theorem dX1_findSuspect_97 : decode cX1_findSuspect 97 = .ok (.aload_n 0, 1) := by decide +kernel
theorem dX1_findSuspect_98 : decode cX1_findSuspect 98 = .ok (.aload_n 1, 1) := by decide +kernel
theorem dX1_findSuspect_99 : decode cX1_findSuspect 99 = .ok (.iload_n 2, 1) := by decide +kernel
theorem dX1_findSuspect_100 : decode cX1_findSuspect 100 = .ok (.invokevirtual 95, 3) := by decide +kernel
theorem dX1_findSuspect_103 : decode cX1_findSuspect 103 = .ok (.i2l, 1) := by decide +kernel
theorem dX1_findSuspect_104 : decode cX1_findSuspect 104 = .ok (.lcmp, 1) := by decide +kernel
theorem dX1_findSuspect_105 : decode cX1_findSuspect 105 = .ok (.ifCond .ge 8, 3) := by decide +kernel
theorem dX1_findSuspect_108 : decode cX1_findSuspect 108 = .ok (.iload 4, 2) := by decide +kernel
theorem dX1_findSuspect_110 : decode cX1_findSuspect 110 = .ok (.goto 5, 3) := by decide +kernel
theorem dX1_findSuspect_113 : decode cX1_findSuspect 113 = .ok (.ldc 55, 2) := by decide +kernel
theorem dX1_findSuspect_115 : decode cX1_findSuspect 115 = .ok (.ireturn, 1) := by decide +kernel
abbrev rm_X1_findSuspect : Room := { frames := 2, cells := 0, slots := 0, locals := 52 }
theorem hy_X1_findSuspect : yX1_findSuspect.cls ≠ "java/lang/invoke/MethodHandle" ∧ yX1_findSuspect.cls ≠ "java/lang/invoke/VarHandle" ∧ (parseMethodDescriptor yX1_findSuspect.desc).map (fun d => d.parameters.length) = some 2 := by decide +kernel
def w_X1_findSuspect_85 (k11 : Int32 → Int32 → Int32 → Int32 → z_S → Prop) (Q : Int32 → z_S → Prop) (x2 : Int32) (x3 : Int32) (x4 : Int32) (x5 : Int32) (σ : z_S) : Prop :=
  ∀ y8 : Int32, y8 = (x5 + (1 : Int32)) → k11 x2 x3 x4 y8 σ
def w_X1_findSuspect_79 (k11 : Int32 → Int32 → Int32 → Int32 → z_S → Prop) (k34 : Int32 → Int32 → Int32 → Int32 → Int32 → z_S → Prop) (Q : Int32 → z_S → Prop) (x2 : Int32) (x3 : Int32) (x4 : Int32) (x5 : Int32) (x6 : Int32) (σ : z_S) : Prop :=
  ∀ y14 : Int32, y14 = (x6 + (1 : Int32)) → k34 x2 x3 x4 x5 y14 σ
def w_X1_findSuspect_66 (k11 : Int32 → Int32 → Int32 → Int32 → z_S → Prop) (k34 : Int32 → Int32 → Int32 → Int32 → Int32 → z_S → Prop) (Q : Int32 → z_S → Prop) (x2 : Int32) (x5 : Int32) (x6 : Int32) (x7 : Int32) (σ : z_S) : Prop :=
  ∀ y13 : Int32, y13 = (((10 : Int32) * x5) + x6) → w_X1_findSuspect_79 k11 k34 Q x2 x7 y13 x5 x6 σ
def wb_X1_findSuspect_34 (k11 : Int32 → Int32 → Int32 → Int32 → z_S → Prop) (Q : Int32 → z_S → Prop) (k34 : Int32 → Int32 → Int32 → Int32 → Int32 → z_S → Prop) (x2 : Int32) (x3 : Int32) (x4 : Int32) (x5 : Int32) (x6 : Int32) (σ : z_S) : Prop :=
  if (8 : Int32) ≤ x6 then (w_X1_findSuspect_85 k11 Q x2 x3 x4 x5 σ) else (w_X1_sumImbalanceScaled x2 x5 x6 σ (fun r10 σ11 => if x4 = (-2000000000 : Int32) then (w_X1_findSuspect_66 k11 k34 Q x2 x5 x6 r10 σ11) else (if x3 ≤ r10 then (w_X1_findSuspect_79 k11 k34 Q x2 x3 x4 x5 x6 σ11) else (w_X1_findSuspect_66 k11 k34 Q x2 x5 x6 r10 σ11))))
def w_X1_findSuspect_34 (k11 : Int32 → Int32 → Int32 → Int32 → z_S → Prop) (Q : Int32 → z_S → Prop) : Nat → Int32 → Int32 → Int32 → Int32 → Int32 → z_S → Prop
  | 0 => fun _ _ _ _ _ _ => False
  | n + 1 => wb_X1_findSuspect_34 k11 Q (w_X1_findSuspect_34 k11 Q n)
def wb_X1_findSuspect_11  (Q : Int32 → z_S → Prop) (k11 : Int32 → Int32 → Int32 → Int32 → z_S → Prop) (x2 : Int32) (x3 : Int32) (x4 : Int32) (x5 : Int32) (σ : z_S) : Prop :=
  if (zg_i σ 1 0) ≤ x5 then (w_X1_sumImbalance x2 σ (fun r3 σ4 => if 0 ≤ (lg_cmp (x3.toInt64 * (4 : Int64)) r3.toInt64) then (Q (-2000000000 : Int32) σ4) else (Q x4 σ4))) else (vp_in x5 10 ∧ if (zg_i σ 2 x5.toNatClampNeg) = x2 then (w_X1_findSuspect_34 k11 Q 400 x2 x3 x4 x5 (0 : Int32) σ) else (w_X1_findSuspect_85 k11 Q x2 x3 x4 x5 σ))
def w_X1_findSuspect_11  (Q : Int32 → z_S → Prop) : Nat → Int32 → Int32 → Int32 → Int32 → z_S → Prop
  | 0 => fun _ _ _ _ _ => False
  | n + 1 => wb_X1_findSuspect_11  Q (w_X1_findSuspect_11  Q n)
def w_X1_findSuspect (a2 : Int32) (σ : z_S) (Q : Int32 → z_S → Prop) : Prop :=
  ∀ y1 : Int32, y1 = (a2 + (1 : Int32)) → w_X1_findSuspect_11 Q 400 a2 (0 : Int32) (-2000000000 : Int32) y1 σ
set_option maxHeartbeats 4000000 in
set_option maxRecDepth 100000 in
theorem t_X1_findSuspect_85 {l : Launch} {D : va_G} {cI cJ cM cS : ClassId} {n0 : Nat} {p : Program} {e : Env} {s : State} {m : MethodId} {args : Array Value} {below : List Frame} {meth : Method} {c : Code} {k11 : Int32 → Int32 → Int32 → Int32 → z_S → Prop} {Q : Int32 → z_S → Prop} (hX : z_X D cI cJ cM cS p s m args c cX1_findSuspect 8 yX1_findSuspect.cls) (hY : z_Y s meth (some .int)) (hk11 : ∀ (x2 : Int32) (x3 : Int32) (x4 : Int32) (x5 : Int32) (σ : z_S), k11 x2 x3 x4 x5 σ → z_t D cI cJ cM cS n0 p l e rm_X1_findSuspect s m args below meth c 8 (MQ below (va_Qi Q (fun u t => z_Bq D cI cJ cM cS n0 u t) (z_Ab n0)) args s 0 0 (z_Ab n0)) 0 0 11 [(0, .ref (n0 + 29)), (1, .ref (n0 + 1)), (2, .int x2), (3, .int x3), (4, .int x4), (5, .int x5)] [] σ) (x2 : Int32) (x3 : Int32) (x4 : Int32) (x5 : Int32) (σ : z_S) (hf : w_X1_findSuspect_85 k11 Q x2 x3 x4 x5 σ) : z_t D cI cJ cM cS n0 p l e rm_X1_findSuspect s m args below meth c 8 (MQ below (va_Qi Q (fun u t => z_Bq D cI cJ cM cS n0 u t) (z_Ab n0)) args s 0 0 (z_Ab n0)) 0 0 85 [(0, .ref (n0 + 29)), (1, .ref (n0 + 1)), (2, .int x2), (3, .int x3), (4, .int x4), (5, .int x5)] [] σ := by
  unfold w_X1_findSuspect_85 at hf
  obtain ⟨y8, e8⟩ : ∃ y : Int32, y = (x5 + (1 : Int32)) := ⟨_, rfl⟩
  replace hf := hf y8 e8
  refine zt_iinc (L' := [(5, .int y8), (0, .ref (n0 + 29)), (1, .ref (n0 + 1)), (2, .int x2), (3, .int x3), (4, .int x4)]) hX 5 dX1_findSuspect_85 rfl (v := y8) (by rw [e8]; rfl) (by decide) rfl ?_
  refine zt_goto hX dX1_findSuspect_88 (tgt := 11) (by decide) ?_
  exact zt_sub [1, 2, 3, 4, 5, 0] rfl (hk11 _ _ _ _ _ hf)
set_option maxHeartbeats 4000000 in
set_option maxRecDepth 100000 in
theorem t_X1_findSuspect_79 {l : Launch} {D : va_G} {cI cJ cM cS : ClassId} {n0 : Nat} {p : Program} {e : Env} {s : State} {m : MethodId} {args : Array Value} {below : List Frame} {meth : Method} {c : Code} {k11 : Int32 → Int32 → Int32 → Int32 → z_S → Prop} {k34 : Int32 → Int32 → Int32 → Int32 → Int32 → z_S → Prop} {Q : Int32 → z_S → Prop} (hX : z_X D cI cJ cM cS p s m args c cX1_findSuspect 8 yX1_findSuspect.cls) (hY : z_Y s meth (some .int)) (hk11 : ∀ (x2 : Int32) (x3 : Int32) (x4 : Int32) (x5 : Int32) (σ : z_S), k11 x2 x3 x4 x5 σ → z_t D cI cJ cM cS n0 p l e rm_X1_findSuspect s m args below meth c 8 (MQ below (va_Qi Q (fun u t => z_Bq D cI cJ cM cS n0 u t) (z_Ab n0)) args s 0 0 (z_Ab n0)) 0 0 11 [(0, .ref (n0 + 29)), (1, .ref (n0 + 1)), (2, .int x2), (3, .int x3), (4, .int x4), (5, .int x5)] [] σ) (hk34 : ∀ (x2 : Int32) (x3 : Int32) (x4 : Int32) (x5 : Int32) (x6 : Int32) (σ : z_S), k34 x2 x3 x4 x5 x6 σ → z_t D cI cJ cM cS n0 p l e rm_X1_findSuspect s m args below meth c 8 (MQ below (va_Qi Q (fun u t => z_Bq D cI cJ cM cS n0 u t) (z_Ab n0)) args s 0 0 (z_Ab n0)) 0 0 34 [(0, .ref (n0 + 29)), (1, .ref (n0 + 1)), (2, .int x2), (3, .int x3), (4, .int x4), (5, .int x5), (6, .int x6)] [] σ) (x2 : Int32) (x3 : Int32) (x4 : Int32) (x5 : Int32) (x6 : Int32) (σ : z_S) (hf : w_X1_findSuspect_79 k11 k34 Q x2 x3 x4 x5 x6 σ) : z_t D cI cJ cM cS n0 p l e rm_X1_findSuspect s m args below meth c 8 (MQ below (va_Qi Q (fun u t => z_Bq D cI cJ cM cS n0 u t) (z_Ab n0)) args s 0 0 (z_Ab n0)) 0 0 79 [(0, .ref (n0 + 29)), (1, .ref (n0 + 1)), (2, .int x2), (3, .int x3), (4, .int x4), (5, .int x5), (6, .int x6)] [] σ := by
  unfold w_X1_findSuspect_79 at hf
  obtain ⟨y14, e14⟩ : ∃ y : Int32, y = (x6 + (1 : Int32)) := ⟨_, rfl⟩
  replace hf := hf y14 e14
  refine zt_iinc (L' := [(6, .int y14), (0, .ref (n0 + 29)), (1, .ref (n0 + 1)), (2, .int x2), (3, .int x3), (4, .int x4), (5, .int x5)]) hX 6 dX1_findSuspect_79 rfl (v := y14) (by rw [e14]; rfl) (by decide) rfl ?_
  refine zt_goto hX dX1_findSuspect_82 (tgt := 34) (by decide) ?_
  exact zt_sub [1, 2, 3, 4, 5, 6, 0] rfl (hk34 _ _ _ _ _ _ hf)
set_option maxHeartbeats 4000000 in
set_option maxRecDepth 100000 in
theorem t_X1_findSuspect_66 {l : Launch} {D : va_G} {cI cJ cM cS : ClassId} {n0 : Nat} {p : Program} {e : Env} {s : State} {m : MethodId} {args : Array Value} {below : List Frame} {meth : Method} {c : Code} {k11 : Int32 → Int32 → Int32 → Int32 → z_S → Prop} {k34 : Int32 → Int32 → Int32 → Int32 → Int32 → z_S → Prop} {Q : Int32 → z_S → Prop} (hX : z_X D cI cJ cM cS p s m args c cX1_findSuspect 8 yX1_findSuspect.cls) (hY : z_Y s meth (some .int)) (hk11 : ∀ (x2 : Int32) (x3 : Int32) (x4 : Int32) (x5 : Int32) (σ : z_S), k11 x2 x3 x4 x5 σ → z_t D cI cJ cM cS n0 p l e rm_X1_findSuspect s m args below meth c 8 (MQ below (va_Qi Q (fun u t => z_Bq D cI cJ cM cS n0 u t) (z_Ab n0)) args s 0 0 (z_Ab n0)) 0 0 11 [(0, .ref (n0 + 29)), (1, .ref (n0 + 1)), (2, .int x2), (3, .int x3), (4, .int x4), (5, .int x5)] [] σ) (hk34 : ∀ (x2 : Int32) (x3 : Int32) (x4 : Int32) (x5 : Int32) (x6 : Int32) (σ : z_S), k34 x2 x3 x4 x5 x6 σ → z_t D cI cJ cM cS n0 p l e rm_X1_findSuspect s m args below meth c 8 (MQ below (va_Qi Q (fun u t => z_Bq D cI cJ cM cS n0 u t) (z_Ab n0)) args s 0 0 (z_Ab n0)) 0 0 34 [(0, .ref (n0 + 29)), (1, .ref (n0 + 1)), (2, .int x2), (3, .int x3), (4, .int x4), (5, .int x5), (6, .int x6)] [] σ) (x2 : Int32) (x5 : Int32) (x6 : Int32) (x7 : Int32) (σ : z_S) (hf : w_X1_findSuspect_66 k11 k34 Q x2 x5 x6 x7 σ) : z_t D cI cJ cM cS n0 p l e rm_X1_findSuspect s m args below meth c 8 (MQ below (va_Qi Q (fun u t => z_Bq D cI cJ cM cS n0 u t) (z_Ab n0)) args s 0 0 (z_Ab n0)) 0 0 66 [(0, .ref (n0 + 29)), (1, .ref (n0 + 1)), (2, .int x2), (5, .int x5), (6, .int x6), (7, .int x7)] [] σ := by
  unfold w_X1_findSuspect_66 at hf
  refine zt_iload hX 5 dX1_findSuspect_66 rfl ?_
  refine zt_istore_n (L' := [(3, .int x7), (0, .ref (n0 + 29)), (1, .ref (n0 + 1)), (2, .int x2), (5, .int x5), (6, .int x6), (7, .int x7)]) hX dX1_findSuspect_68 rfl (by decide) rfl ?_
  refine zt_bipush hX dX1_findSuspect_69 (v := (10 : Int32)) (by decide) ?_
  refine zt_iload hX 4 dX1_findSuspect_71 rfl ?_
  refine zt_imul hX dX1_findSuspect_73 ?_
  refine zt_iload hX 5 dX1_findSuspect_74 rfl ?_
  refine zt_iadd hX dX1_findSuspect_76 ?_
  refine zt_nmi (fun y13 e13 => ?_)
  replace hf := hf y13 e13
  refine zt_istore (L' := [(4, .int y13), (3, .int x7), (0, .ref (n0 + 29)), (1, .ref (n0 + 1)), (2, .int x2), (5, .int x5), (6, .int x6), (7, .int x7)]) hX dX1_findSuspect_77 (by decide) rfl ?_
  exact zt_sub [2, 3, 4, 1, 0, 5, 6] rfl (t_X1_findSuspect_79 hX hY hk11 hk34 _ _ _ _ _ _ hf)
set_option maxHeartbeats 4000000 in
set_option maxRecDepth 100000 in
theorem t_X1_findSuspect_34 {l : Launch} {D : va_G} {cI cJ cM cS : ClassId} {n0 : Nat} {p : Program} {e : Env} {s : State} {m : MethodId} {args : Array Value} {below : List Frame} {meth : Method} {c : Code} {k11 : Int32 → Int32 → Int32 → Int32 → z_S → Prop} {Q : Int32 → z_S → Prop} (hX : z_X D cI cJ cM cS p s m args c cX1_findSuspect 8 yX1_findSuspect.cls) (hY : z_Y s meth (some .int)) (hk11 : ∀ (x2 : Int32) (x3 : Int32) (x4 : Int32) (x5 : Int32) (σ : z_S), k11 x2 x3 x4 x5 σ → z_t D cI cJ cM cS n0 p l e rm_X1_findSuspect s m args below meth c 8 (MQ below (va_Qi Q (fun u t => z_Bq D cI cJ cM cS n0 u t) (z_Ab n0)) args s 0 0 (z_Ab n0)) 0 0 11 [(0, .ref (n0 + 29)), (1, .ref (n0 + 1)), (2, .int x2), (3, .int x3), (4, .int x4), (5, .int x5)] [] σ) : ∀ (n : Nat) (x2 : Int32) (x3 : Int32) (x4 : Int32) (x5 : Int32) (x6 : Int32) (σ : z_S), w_X1_findSuspect_34 k11 Q n x2 x3 x4 x5 x6 σ → z_t D cI cJ cM cS n0 p l e rm_X1_findSuspect s m args below meth c 8 (MQ below (va_Qi Q (fun u t => z_Bq D cI cJ cM cS n0 u t) (z_Ab n0)) args s 0 0 (z_Ab n0)) 0 0 34 [(0, .ref (n0 + 29)), (1, .ref (n0 + 1)), (2, .int x2), (3, .int x3), (4, .int x4), (5, .int x5), (6, .int x6)] [] σ := by
  intro n
  induction n with
  | zero => intro _ _ _ _ _ _ hf; exact hf.elim
  | succ n ih34 =>
    intro x2 x3 x4 x5 x6 σ hf
    have hf : wb_X1_findSuspect_34 k11 Q (w_X1_findSuspect_34 k11 Q n) x2 x3 x4 x5 x6 σ := hf
    unfold wb_X1_findSuspect_34 at hf
    refine zt_iload hX 6 dX1_findSuspect_34 rfl ?_
    refine zt_bipush hX dX1_findSuspect_36 (v := (8 : Int32)) (by decide) ?_
    refine zt_icmp_ge hX dX1_findSuspect_38 (tgt := 85) (by decide) (fun c9 => ?_) (fun c9 => ?_)
    · replace hf := z_pos hf c9
      exact zt_sub [0, 1, 2, 3, 4, 5] rfl (t_X1_findSuspect_85 hX hY hk11 _ _ _ _ _ hf)
    · replace hf := z_neg hf c9
      refine zt_aload_n hX 0 dX1_findSuspect_41 rfl rfl ?_
      refine zt_aload_n hX 1 dX1_findSuspect_42 rfl rfl ?_
      refine zt_iload_n hX 2 dX1_findSuspect_43 rfl rfl ?_
      refine zt_iload hX 5 dX1_findSuspect_44 rfl ?_
      refine zt_iload hX 6 dX1_findSuspect_46 rfl ?_
      refine zt_calliV hX hY (av := [.ref (n0 + 1), .int x2, .int x5, .int x6]) (c_X1_sumImbalanceScaled hf) dX1_findSuspect_48 rfl kw_545 kw_531 kw_532 kw_64 kw_533 ⟨rfl, rfl⟩ hy_X1_sumImbalanceScaled ⟨by decide, by decide⟩ ⟨by decide, by decide⟩ (Nat.le_of_ble_eq_true rfl) (by decide) (zE_29 _ _) rfl rfl (fun r10 σ11 hf => ?_)
      refine zt_istore (L' := [(7, .int r10), (0, .ref (n0 + 29)), (1, .ref (n0 + 1)), (2, .int x2), (3, .int x3), (4, .int x4), (5, .int x5), (6, .int x6)]) hX dX1_findSuspect_51 (by decide) rfl ?_
      refine zt_iload hX 5 dX1_findSuspect_53 rfl ?_
      refine zt_ldc hX dX1_findSuspect_55 kw_397 ?_
      refine zt_icmp_eq hX dX1_findSuspect_57 (tgt := 66) (by decide) (fun c12 => ?_) (fun c12 => ?_)
      · replace hf := z_pos hf c12
        exact zt_sub [1, 2, 3, 6, 7, 0] rfl (t_X1_findSuspect_66 hX hY hk11 ih34 _ _ _ _ _ hf)
      · replace hf := z_neg hf c12
        refine zt_iload hX 0 dX1_findSuspect_60 rfl ?_
        refine zt_iload_n hX 4 dX1_findSuspect_62 rfl rfl ?_
        refine zt_icmp_ge hX dX1_findSuspect_63 (tgt := 79) (by decide) (fun c15 => ?_) (fun c15 => ?_)
        · replace hf := z_pos hf c15
          exact zt_sub [1, 2, 3, 4, 5, 6, 7] rfl (t_X1_findSuspect_79 hX hY hk11 ih34 _ _ _ _ _ _ hf)
        · replace hf := z_neg hf c15
          exact zt_sub [1, 2, 3, 6, 7, 0] rfl (t_X1_findSuspect_66 hX hY hk11 ih34 _ _ _ _ _ hf)
set_option maxHeartbeats 4000000 in
set_option maxRecDepth 100000 in
theorem t_X1_findSuspect_11 {l : Launch} {D : va_G} {cI cJ cM cS : ClassId} {n0 : Nat} {p : Program} {e : Env} {s : State} {m : MethodId} {args : Array Value} {below : List Frame} {meth : Method} {c : Code}  {Q : Int32 → z_S → Prop} (hX : z_X D cI cJ cM cS p s m args c cX1_findSuspect 8 yX1_findSuspect.cls) (hY : z_Y s meth (some .int))  : ∀ (n : Nat) (x2 : Int32) (x3 : Int32) (x4 : Int32) (x5 : Int32) (σ : z_S), w_X1_findSuspect_11  Q n x2 x3 x4 x5 σ → z_t D cI cJ cM cS n0 p l e rm_X1_findSuspect s m args below meth c 8 (MQ below (va_Qi Q (fun u t => z_Bq D cI cJ cM cS n0 u t) (z_Ab n0)) args s 0 0 (z_Ab n0)) 0 0 11 [(0, .ref (n0 + 29)), (1, .ref (n0 + 1)), (2, .int x2), (3, .int x3), (4, .int x4), (5, .int x5)] [] σ := by
  intro n
  induction n with
  | zero => intro _ _ _ _ _ hf; exact hf.elim
  | succ n ih11 =>
    intro x2 x3 x4 x5 σ hf
    have hf : wb_X1_findSuspect_11  Q (w_X1_findSuspect_11  Q n) x2 x3 x4 x5 σ := hf
    unfold wb_X1_findSuspect_11 at hf
    refine zt_iload hX 5 dX1_findSuspect_11 rfl ?_
    refine zt_aload_n hX 1 dX1_findSuspect_13 rfl rfl ?_
    refine zt_get_X4 hX (by decide) (zE_1 _ _) 0 (by decide) kw_90 rfl rfl dX1_findSuspect_14 ?_
    refine zt_icmp_ge hX dX1_findSuspect_17 (tgt := 91) (by decide) (fun c2 => ?_) (fun c2 => ?_)
    · replace hf := z_pos hf c2
      refine zt_iload_n hX 3 dX1_findSuspect_91 rfl rfl ?_
      refine zt_i2l hX dX1_findSuspect_92 ?_
      refine zt_ldc2 hX dX1_findSuspect_93 kw_546 ?_
      refine zt_lmul hX dX1_findSuspect_96 ?_
      refine zt_aload_n hX 0 dX1_findSuspect_97 rfl rfl ?_
      refine zt_aload_n hX 1 dX1_findSuspect_98 rfl rfl ?_
      refine zt_iload_n hX 2 dX1_findSuspect_99 rfl rfl ?_
      refine zt_calliV hX hY (av := [.ref (n0 + 1), .int x2]) (c_X1_sumImbalance hf) dX1_findSuspect_100 rfl kw_547 kw_520 kw_521 kw_64 kw_522 ⟨rfl, rfl⟩ hy_X1_sumImbalance ⟨by decide, by decide⟩ ⟨by decide, by decide⟩ (Nat.le_of_ble_eq_true rfl) (by decide) (zE_29 _ _) rfl rfl (fun r3 σ4 hf => ?_)
      refine zt_i2l hX dX1_findSuspect_103 ?_
      refine zt_lcmp hX dX1_findSuspect_104 ?_
      refine zt_if_ge hX dX1_findSuspect_105 (tgt := 113) (by decide) (fun c5 => ?_) (fun c5 => ?_)
      · replace hf := z_pos hf c5
        refine zt_ldc hX dX1_findSuspect_113 kw_397 ?_
        exact zt_iret hX hY dX1_findSuspect_115 hf
      · replace hf := z_neg hf c5
        refine zt_iload hX 4 dX1_findSuspect_108 rfl ?_
        refine zt_goto hX dX1_findSuspect_110 (tgt := 115) (by decide) ?_
        exact zt_iret hX hY dX1_findSuspect_115 hf
    · replace hf := z_neg hf c2
      refine zt_aload_n hX 1 dX1_findSuspect_20 rfl rfl ?_
      refine zt_get_X4 hX (by decide) (zE_1 _ _) 4 (by decide) kw_100 rfl rfl dX1_findSuspect_21 ?_
      refine zt_iload hX 5 dX1_findSuspect_24 rfl ?_
      obtain ⟨h6, hf⟩ := hf
      refine zt_iaload hX dX1_findSuspect_26 (by decide) rfl h6 ?_
      refine zt_iload_n hX 2 dX1_findSuspect_27 rfl rfl ?_
      refine zt_icmp_ne hX dX1_findSuspect_28 (tgt := 85) (by decide) (fun c7 => ?_) (fun c7 => ?_)
      · replace hf := z_neg hf c7
        exact zt_sub [0, 1, 2, 3, 4, 5] rfl (t_X1_findSuspect_85 hX hY ih11 _ _ _ _ _ hf)
      · replace hf := z_pos hf c7
        refine zt_iconst hX dX1_findSuspect_31 (v := (0 : Int32)) (by decide) ?_
        refine zt_istore (L' := [(6, .int (0 : Int32)), (0, .ref (n0 + 29)), (1, .ref (n0 + 1)), (2, .int x2), (3, .int x3), (4, .int x4), (5, .int x5)]) hX dX1_findSuspect_32 (by decide) rfl ?_
        exact zt_sub [1, 2, 3, 4, 5, 6, 0] rfl (t_X1_findSuspect_34 hX hY ih11 400 _ _ _ _ _ _ hf)
set_option maxHeartbeats 4000000 in
set_option maxRecDepth 100000 in
theorem c_X1_findSuspect {l : Launch} {D : va_G} {cI cJ cM cS : ClassId} {n0 : Nat} {a2 : Int32} {σ : z_S} {Q : Int32 → z_S → Prop} (hf : w_X1_findSuspect a2 σ Q) : z_ci l D cI cJ cM cS n0 yX1_findSuspect cX1_findSuspect 8 .int rm_X1_findSuspect 0 0 [.ref (n0 + 29), .ref (n0 + 1), .int a2] σ Q := by
  refine z_ofi (by decide +kernel) (Nat.le_of_ble_eq_true rfl) (fun p e s m args below meth c hX hY => ?_)
  unfold w_X1_findSuspect at hf
  refine zt_L (L' := [(0, .ref (n0 + 29)), (1, .ref (n0 + 1)), (2, .int a2)]) rfl ?_
  refine zt_iconst hX dX1_findSuspect_0 (v := (0 : Int32)) (by decide) ?_
  refine zt_istore_n (L' := [(3, .int (0 : Int32)), (0, .ref (n0 + 29)), (1, .ref (n0 + 1)), (2, .int a2)]) hX dX1_findSuspect_1 rfl (by decide) rfl ?_
  refine zt_ldc hX dX1_findSuspect_2 kw_397 ?_
  refine zt_istore (L' := [(4, .int (-2000000000 : Int32)), (3, .int (0 : Int32)), (0, .ref (n0 + 29)), (1, .ref (n0 + 1)), (2, .int a2)]) hX dX1_findSuspect_4 (by decide) rfl ?_
  refine zt_iload_n hX 4 dX1_findSuspect_6 rfl rfl ?_
  refine zt_iconst hX dX1_findSuspect_7 (v := (1 : Int32)) (by decide) ?_
  refine zt_iadd hX dX1_findSuspect_8 ?_
  refine zt_nmi (fun y1 e1 => ?_)
  replace hf := hf y1 e1
  refine zt_istore (L' := [(5, .int y1), (4, .int (-2000000000 : Int32)), (3, .int (0 : Int32)), (0, .ref (n0 + 29)), (1, .ref (n0 + 1)), (2, .int a2)]) hX dX1_findSuspect_9 (by decide) rfl ?_
  exact zt_sub [3, 4, 5, 2, 1, 0] rfl (t_X1_findSuspect_11 hX hY 400 _ _ _ _ _ hf)

theorem dX2_dropOldest_0 : decode cX2_dropOldest 0 = .ok (.aload_n 0, 1) := by decide +kernel
theorem dX2_dropOldest_1 : decode cX2_dropOldest 1 = .ok (.getfield 11, 3) := by decide +kernel
theorem dX2_dropOldest_4 : decode cX2_dropOldest 4 = .ok (.iconst 0, 1) := by decide +kernel
theorem dX2_dropOldest_5 : decode cX2_dropOldest 5 = .ok (.aaload, 1) := by decide +kernel
theorem dX2_dropOldest_6 : decode cX2_dropOldest 6 = .ok (.astore_n 1, 1) := by decide +kernel
theorem dX2_dropOldest_7 : decode cX2_dropOldest 7 = .ok (.iconst 1, 1) := by decide +kernel
theorem dX2_dropOldest_8 : decode cX2_dropOldest 8 = .ok (.istore_n 2, 1) := by decide +kernel
theorem dX2_dropOldest_9 : decode cX2_dropOldest 9 = .ok (.iload_n 2, 1) := by decide +kernel
theorem dX2_dropOldest_10 : decode cX2_dropOldest 10 = .ok (.iconst 5, 1) := by decide +kernel
theorem dX2_dropOldest_11 : decode cX2_dropOldest 11 = .ok (.if_icmp .ge 23, 3) := by decide +kernel
theorem dX2_dropOldest_14 : decode cX2_dropOldest 14 = .ok (.aload_n 0, 1) := by decide +kernel
theorem dX2_dropOldest_15 : decode cX2_dropOldest 15 = .ok (.getfield 11, 3) := by decide +kernel
theorem dX2_dropOldest_18 : decode cX2_dropOldest 18 = .ok (.iload_n 2, 1) := by decide +kernel
theorem dX2_dropOldest_19 : decode cX2_dropOldest 19 = .ok (.iconst 1, 1) := by decide +kernel
theorem dX2_dropOldest_20 : decode cX2_dropOldest 20 = .ok (.isub, 1) := by decide +kernel
theorem dX2_dropOldest_21 : decode cX2_dropOldest 21 = .ok (.aload_n 0, 1) := by decide +kernel
theorem dX2_dropOldest_22 : decode cX2_dropOldest 22 = .ok (.getfield 11, 3) := by decide +kernel
theorem dX2_dropOldest_25 : decode cX2_dropOldest 25 = .ok (.iload_n 2, 1) := by decide +kernel
theorem dX2_dropOldest_26 : decode cX2_dropOldest 26 = .ok (.aaload, 1) := by decide +kernel
theorem dX2_dropOldest_27 : decode cX2_dropOldest 27 = .ok (.aastore, 1) := by decide +kernel
theorem dX2_dropOldest_28 : decode cX2_dropOldest 28 = .ok (.iinc 2 1, 3) := by decide +kernel
theorem dX2_dropOldest_31 : decode cX2_dropOldest 31 = .ok (.goto (-22), 3) := by decide +kernel
theorem dX2_dropOldest_34 : decode cX2_dropOldest 34 = .ok (.aload_n 0, 1) := by decide +kernel
theorem dX2_dropOldest_35 : decode cX2_dropOldest 35 = .ok (.getfield 11, 3) := by decide +kernel
theorem dX2_dropOldest_38 : decode cX2_dropOldest 38 = .ok (.iconst 4, 1) := by decide +kernel
theorem dX2_dropOldest_39 : decode cX2_dropOldest 39 = .ok (.aload_n 1, 1) := by decide +kernel
theorem dX2_dropOldest_40 : decode cX2_dropOldest 40 = .ok (.aastore, 1) := by decide +kernel
theorem dX2_dropOldest_41 : decode cX2_dropOldest 41 = .ok (.aload_n 0, 1) := by decide +kernel
theorem dX2_dropOldest_42 : decode cX2_dropOldest 42 = .ok (.iconst 4, 1) := by decide +kernel
theorem dX2_dropOldest_43 : decode cX2_dropOldest 43 = .ok (.putfield 17, 3) := by decide +kernel
theorem dX2_dropOldest_46 : decode cX2_dropOldest 46 = .ok (.return_, 1) := by decide +kernel
abbrev rm_X2_dropOldest : Room := { frames := 0, cells := 0, slots := 0, locals := 0 }
theorem hy_X2_dropOldest : yX2_dropOldest.cls ≠ "java/lang/invoke/MethodHandle" ∧ yX2_dropOldest.cls ≠ "java/lang/invoke/VarHandle" ∧ (parseMethodDescriptor yX2_dropOldest.desc).map (fun d => d.parameters.length) = some 0 := by decide +kernel
def wb_X2_dropOldest_9  (Q : z_S → Prop) (k9 : Nat → Int32 → z_S → Prop) (p1 : Nat) (x2 : Int32) (σ : z_S) : Prop :=
  if (5 : Int32) ≤ x2 then (vp_in (4 : Int32) 5 ∧ z_blk p1 σ ∧ ∀ σ7 : z_S, σ7 = zs_r σ (4 : Int32).toNatClampNeg (some p1) → ∀ σ8 : z_S, σ8 = zs_i σ7 27 1 (4 : Int32) → Q σ8) else (vp_in x2 5 ∧ (zg_r σ x2.toNatClampNeg = none → False) ∧ (∀ b11, zg_r σ x2.toNatClampNeg = some b11 → vp_in (x2 - (1 : Int32)) 5 ∧ z_blk b11 σ ∧ ∀ σ14 : z_S, σ14 = zs_r σ (x2 - (1 : Int32)).toNatClampNeg (some b11) → ∀ y15 : Int32, y15 = (x2 + (1 : Int32)) → k9 p1 y15 σ14))
def w_X2_dropOldest_9  (Q : z_S → Prop) : Nat → Nat → Int32 → z_S → Prop
  | 0 => fun _ _ _ => False
  | n + 1 => wb_X2_dropOldest_9  Q (w_X2_dropOldest_9  Q n)
def w_X2_dropOldest  (σ : z_S) (Q : z_S → Prop) : Prop :=
  vp_in (0 : Int32) 5 ∧ (zg_r σ (0 : Int32).toNatClampNeg = none → False) ∧ (∀ b3, zg_r σ (0 : Int32).toNatClampNeg = some b3 → w_X2_dropOldest_9 Q 400 b3 (1 : Int32) σ)
set_option maxHeartbeats 4000000 in
set_option maxRecDepth 100000 in
theorem t_X2_dropOldest_9 {l : Launch} {D : va_G} {cI cJ cM cS : ClassId} {n0 : Nat} {p : Program} {e : Env} {s : State} {m : MethodId} {args : Array Value} {below : List Frame} {meth : Method} {c : Code}  {Q : z_S → Prop} (hX : z_X D cI cJ cM cS p s m args c cX2_dropOldest 3 yX2_dropOldest.cls) (hY : z_Y s meth none)  : ∀ (n : Nat) (p1 : Nat) (x2 : Int32) (σ : z_S), w_X2_dropOldest_9  Q n p1 x2 σ → z_t D cI cJ cM cS n0 p l e rm_X2_dropOldest s m args below meth c 3 (MQ below (va_Qv Q (fun u t => z_Bq D cI cJ cM cS n0 u t) (z_Ab n0)) args s 0 0 (z_Ab n0)) 0 0 9 [(0, .ref (n0 + 27)), (1, .ref (n0 + p1)), (2, .int x2)] [] σ := by
  intro n
  induction n with
  | zero => intro _ _ _ hf; exact hf.elim
  | succ n ih9 =>
    intro p1 x2 σ hf
    have hf : wb_X2_dropOldest_9  Q (w_X2_dropOldest_9  Q n) p1 x2 σ := hf
    unfold wb_X2_dropOldest_9 at hf
    refine zt_iload_n hX 2 dX2_dropOldest_9 rfl rfl ?_
    refine zt_iconst hX dX2_dropOldest_10 (v := (5 : Int32)) (by decide) ?_
    refine zt_icmp_ge hX dX2_dropOldest_11 (tgt := 34) (by decide) (fun c4 => ?_) (fun c4 => ?_)
    · replace hf := z_pos hf c4
      refine zt_aload_n hX 0 dX2_dropOldest_34 rfl rfl ?_
      refine zt_get_X2 hX (by decide) (zE_27 _ _) 0 (by decide) kw_151 rfl rfl dX2_dropOldest_35 ?_
      refine zt_iconst hX dX2_dropOldest_38 (v := (4 : Int32)) (by decide) ?_
      refine zt_aload_n hX 1 dX2_dropOldest_39 rfl rfl ?_
      obtain ⟨h5, h6, hf⟩ := hf
      refine zt_aastoreS hX dX2_dropOldest_40 h5 h6 ?_
      refine zt_nms (fun σ7 d7 => ?_)
      replace hf := hf σ7 d7
      refine zt_aload_n hX 0 dX2_dropOldest_41 rfl rfl ?_
      refine zt_iconst hX dX2_dropOldest_42 (v := (4 : Int32)) (by decide) ?_
      refine zt_puti_X2 hX (by decide) (zE_27 _ _) 1 (by decide) kw_152 rfl rfl (Nat.le_of_ble_eq_true rfl) rfl rfl dX2_dropOldest_43 ?_
      refine zt_nms (fun σ8 d8 => ?_)
      replace hf := hf σ8 d8
      exact zt_vret hX hY dX2_dropOldest_46 hf
    · replace hf := z_neg hf c4
      refine zt_aload_n hX 0 dX2_dropOldest_14 rfl rfl ?_
      refine zt_get_X2 hX (by decide) (zE_27 _ _) 0 (by decide) kw_151 rfl rfl dX2_dropOldest_15 ?_
      refine zt_iload_n hX 2 dX2_dropOldest_18 rfl rfl ?_
      refine zt_iconst hX dX2_dropOldest_19 (v := (1 : Int32)) (by decide) ?_
      refine zt_isub hX dX2_dropOldest_20 ?_
      refine zt_aload_n hX 0 dX2_dropOldest_21 rfl rfl ?_
      refine zt_get_X2 hX (by decide) (zE_27 _ _) 0 (by decide) kw_151 rfl rfl dX2_dropOldest_22 ?_
      refine zt_iload_n hX 2 dX2_dropOldest_25 rfl rfl ?_
      obtain ⟨h9, hf⟩ := hf
      refine zt_aaloadS hX dX2_dropOldest_26 h9 (fun h10 => ?_) (fun b11 h10 => ?_)
      · replace hf := hf.1 h10
        exact hf.elim
      · replace hf := hf.2 b11 h10
        obtain ⟨h12, h13, hf⟩ := hf
        refine zt_aastoreS hX dX2_dropOldest_27 h12 h13 ?_
        refine zt_nms (fun σ14 d14 => ?_)
        replace hf := hf σ14 d14
        obtain ⟨y15, e15⟩ : ∃ y : Int32, y = (x2 + (1 : Int32)) := ⟨_, rfl⟩
        replace hf := hf y15 e15
        refine zt_iinc (L' := [(2, .int y15), (0, .ref (n0 + 27)), (1, .ref (n0 + p1))]) hX 2 dX2_dropOldest_28 rfl (v := y15) (by rw [e15]; rfl) (by decide) rfl ?_
        refine zt_goto hX dX2_dropOldest_31 (tgt := 9) (by decide) ?_
        exact zt_sub [1, 2, 0] rfl (ih9 _ _ _ hf)
set_option maxHeartbeats 4000000 in
set_option maxRecDepth 100000 in
theorem c_X2_dropOldest {l : Launch} {D : va_G} {cI cJ cM cS : ClassId} {n0 : Nat}  {σ : z_S} {Q : z_S → Prop} (hf : w_X2_dropOldest  σ Q) : z_cv l D cI cJ cM cS n0 yX2_dropOldest cX2_dropOldest 3 rm_X2_dropOldest 0 0 [.ref (n0 + 27)] σ Q := by
  refine z_ofv (by decide +kernel) (Nat.le_of_ble_eq_true rfl) (fun p e s m args below meth c hX hY => ?_)
  unfold w_X2_dropOldest at hf
  refine zt_L (L' := [(0, .ref (n0 + 27))]) rfl ?_
  refine zt_aload_n hX 0 dX2_dropOldest_0 rfl rfl ?_
  refine zt_get_X2 hX (by decide) (zE_27 _ _) 0 (by decide) kw_151 rfl rfl dX2_dropOldest_1 ?_
  refine zt_iconst hX dX2_dropOldest_4 (v := (0 : Int32)) (by decide) ?_
  obtain ⟨h1, hf⟩ := hf
  refine zt_aaloadS hX dX2_dropOldest_5 h1 (fun h2 => ?_) (fun b3 h2 => ?_)
  · replace hf := hf.1 h2
    exact hf.elim
  · replace hf := hf.2 b3 h2
    refine zt_astore_n (L' := [(1, .ref (n0 + b3)), (0, .ref (n0 + 27))]) hX dX2_dropOldest_6 rfl (by decide) rfl ?_
    refine zt_iconst hX dX2_dropOldest_7 (v := (1 : Int32)) (by decide) ?_
    refine zt_istore_n (L' := [(2, .int (1 : Int32)), (1, .ref (n0 + b3)), (0, .ref (n0 + 27))]) hX dX2_dropOldest_8 rfl (by decide) rfl ?_
    exact zt_sub [2, 1, 0] rfl (t_X2_dropOldest_9 hX hY 400 _ _ _ hf)

theorem dX4_copyFrom_0 : decode cX4_copyFrom 0 = .ok (.aload_n 0, 1) := by decide +kernel
theorem dX4_copyFrom_1 : decode cX4_copyFrom 1 = .ok (.aload_n 1, 1) := by decide +kernel
theorem dX4_copyFrom_2 : decode cX4_copyFrom 2 = .ok (.getfield 42, 3) := by decide +kernel
theorem dX4_copyFrom_5 : decode cX4_copyFrom 5 = .ok (.putfield 42, 3) := by decide +kernel
theorem dX4_copyFrom_8 : decode cX4_copyFrom 8 = .ok (.aload_n 0, 1) := by decide +kernel
theorem dX4_copyFrom_9 : decode cX4_copyFrom 9 = .ok (.aload_n 1, 1) := by decide +kernel
theorem dX4_copyFrom_10 : decode cX4_copyFrom 10 = .ok (.getfield 9, 3) := by decide +kernel
theorem dX4_copyFrom_13 : decode cX4_copyFrom 13 = .ok (.putfield 9, 3) := by decide +kernel
theorem dX4_copyFrom_16 : decode cX4_copyFrom 16 = .ok (.aload_n 0, 1) := by decide +kernel
theorem dX4_copyFrom_17 : decode cX4_copyFrom 17 = .ok (.aload_n 1, 1) := by decide +kernel
theorem dX4_copyFrom_18 : decode cX4_copyFrom 18 = .ok (.getfield 15, 3) := by decide +kernel
theorem dX4_copyFrom_21 : decode cX4_copyFrom 21 = .ok (.putfield 15, 3) := by decide +kernel
theorem dX4_copyFrom_24 : decode cX4_copyFrom 24 = .ok (.aload_n 0, 1) := by decide +kernel
theorem dX4_copyFrom_25 : decode cX4_copyFrom 25 = .ok (.aload_n 1, 1) := by decide +kernel
theorem dX4_copyFrom_26 : decode cX4_copyFrom 26 = .ok (.getfield 45, 3) := by decide +kernel
theorem dX4_copyFrom_29 : decode cX4_copyFrom 29 = .ok (.putfield 45, 3) := by decide +kernel
theorem dX4_copyFrom_32 : decode cX4_copyFrom 32 = .ok (.aload_n 1, 1) := by decide +kernel
theorem dX4_copyFrom_33 : decode cX4_copyFrom 33 = .ok (.getfield 18, 3) := by decide +kernel
theorem dX4_copyFrom_36 : decode cX4_copyFrom 36 = .ok (.iconst 0, 1) := by decide +kernel
theorem dX4_copyFrom_37 : decode cX4_copyFrom 37 = .ok (.aload_n 0, 1) := by decide +kernel
theorem dX4_copyFrom_38 : decode cX4_copyFrom 38 = .ok (.getfield 18, 3) := by decide +kernel
theorem dX4_copyFrom_41 : decode cX4_copyFrom 41 = .ok (.iconst 0, 1) := by decide +kernel
theorem dX4_copyFrom_42 : decode cX4_copyFrom 42 = .ok (.bipush 10, 2) := by decide +kernel
theorem dX4_copyFrom_44 : decode cX4_copyFrom 44 = .ok (.invokestatic 48, 3) := by decide +kernel
theorem dX4_copyFrom_47 : decode cX4_copyFrom 47 = .ok (.aload_n 1, 1) := by decide +kernel
theorem dX4_copyFrom_48 : decode cX4_copyFrom 48 = .ok (.getfield 22, 3) := by decide +kernel
theorem dX4_copyFrom_51 : decode cX4_copyFrom 51 = .ok (.iconst 0, 1) := by decide +kernel
theorem dX4_copyFrom_52 : decode cX4_copyFrom 52 = .ok (.aload_n 0, 1) := by decide +kernel
theorem dX4_copyFrom_53 : decode cX4_copyFrom 53 = .ok (.getfield 22, 3) := by decide +kernel
theorem dX4_copyFrom_56 : decode cX4_copyFrom 56 = .ok (.iconst 0, 1) := by decide +kernel
theorem dX4_copyFrom_57 : decode cX4_copyFrom 57 = .ok (.bipush 10, 2) := by decide +kernel
theorem dX4_copyFrom_59 : decode cX4_copyFrom 59 = .ok (.invokestatic 48, 3) := by decide +kernel
theorem dX4_copyFrom_62 : decode cX4_copyFrom 62 = .ok (.aload_n 1, 1) := by decide +kernel
theorem dX4_copyFrom_63 : decode cX4_copyFrom 63 = .ok (.getfield 25, 3) := by decide +kernel
theorem dX4_copyFrom_66 : decode cX4_copyFrom 66 = .ok (.iconst 0, 1) := by decide +kernel
theorem dX4_copyFrom_67 : decode cX4_copyFrom 67 = .ok (.aload_n 0, 1) := by decide +kernel
theorem dX4_copyFrom_68 : decode cX4_copyFrom 68 = .ok (.getfield 25, 3) := by decide +kernel
theorem dX4_copyFrom_71 : decode cX4_copyFrom 71 = .ok (.iconst 0, 1) := by decide +kernel
theorem dX4_copyFrom_72 : decode cX4_copyFrom 72 = .ok (.bipush 10, 2) := by decide +kernel
theorem dX4_copyFrom_74 : decode cX4_copyFrom 74 = .ok (.invokestatic 48, 3) := by decide +kernel
theorem dX4_copyFrom_77 : decode cX4_copyFrom 77 = .ok (.aload_n 1, 1) := by decide +kernel
theorem dX4_copyFrom_78 : decode cX4_copyFrom 78 = .ok (.getfield 28, 3) := by decide +kernel
theorem dX4_copyFrom_81 : decode cX4_copyFrom 81 = .ok (.iconst 0, 1) := by decide +kernel
theorem dX4_copyFrom_82 : decode cX4_copyFrom 82 = .ok (.aload_n 0, 1) := by decide +kernel
theorem dX4_copyFrom_83 : decode cX4_copyFrom 83 = .ok (.getfield 28, 3) := by decide +kernel
theorem dX4_copyFrom_86 : decode cX4_copyFrom 86 = .ok (.iconst 0, 1) := by decide +kernel
theorem dX4_copyFrom_87 : decode cX4_copyFrom 87 = .ok (.bipush 10, 2) := by decide +kernel
theorem dX4_copyFrom_89 : decode cX4_copyFrom 89 = .ok (.invokestatic 48, 3) := by decide +kernel
theorem dX4_copyFrom_92 : decode cX4_copyFrom 92 = .ok (.aload_n 1, 1) := by decide +kernel
theorem dX4_copyFrom_93 : decode cX4_copyFrom 93 = .ok (.getfield 31, 3) := by decide +kernel
theorem dX4_copyFrom_96 : decode cX4_copyFrom 96 = .ok (.iconst 0, 1) := by decide +kernel
theorem dX4_copyFrom_97 : decode cX4_copyFrom 97 = .ok (.aload_n 0, 1) := by decide +kernel
theorem dX4_copyFrom_98 : decode cX4_copyFrom 98 = .ok (.getfield 31, 3) := by decide +kernel
theorem dX4_copyFrom_101 : decode cX4_copyFrom 101 = .ok (.iconst 0, 1) := by decide +kernel
theorem dX4_copyFrom_102 : decode cX4_copyFrom 102 = .ok (.bipush 10, 2) := by decide +kernel
theorem dX4_copyFrom_104 : decode cX4_copyFrom 104 = .ok (.invokestatic 48, 3) := by decide +kernel
theorem dX4_copyFrom_107 : decode cX4_copyFrom 107 = .ok (.iconst 0, 1) := by decide +kernel
theorem dX4_copyFrom_108 : decode cX4_copyFrom 108 = .ok (.istore_n 2, 1) := by decide +kernel
theorem dX4_copyFrom_109 : decode cX4_copyFrom 109 = .ok (.iload_n 2, 1) := by decide +kernel
theorem dX4_copyFrom_110 : decode cX4_copyFrom 110 = .ok (.bipush 10, 2) := by decide +kernel
theorem dX4_copyFrom_112 : decode cX4_copyFrom 112 = .ok (.if_icmp .ge 28, 3) := by decide +kernel
theorem dX4_copyFrom_115 : decode cX4_copyFrom 115 = .ok (.aload_n 1, 1) := by decide +kernel
theorem dX4_copyFrom_116 : decode cX4_copyFrom 116 = .ok (.getfield 36, 3) := by decide +kernel
theorem dX4_copyFrom_119 : decode cX4_copyFrom 119 = .ok (.iload_n 2, 1) := by decide +kernel
theorem dX4_copyFrom_120 : decode cX4_copyFrom 120 = .ok (.aaload, 1) := by decide +kernel
theorem dX4_copyFrom_121 : decode cX4_copyFrom 121 = .ok (.iconst 0, 1) := by decide +kernel
theorem dX4_copyFrom_122 : decode cX4_copyFrom 122 = .ok (.aload_n 0, 1) := by decide +kernel
theorem dX4_copyFrom_123 : decode cX4_copyFrom 123 = .ok (.getfield 36, 3) := by decide +kernel
theorem dX4_copyFrom_126 : decode cX4_copyFrom 126 = .ok (.iload_n 2, 1) := by decide +kernel
theorem dX4_copyFrom_127 : decode cX4_copyFrom 127 = .ok (.aaload, 1) := by decide +kernel
theorem dX4_copyFrom_128 : decode cX4_copyFrom 128 = .ok (.iconst 0, 1) := by decide +kernel
theorem dX4_copyFrom_129 : decode cX4_copyFrom 129 = .ok (.bipush 13, 2) := by decide +kernel
theorem dX4_copyFrom_131 : decode cX4_copyFrom 131 = .ok (.invokestatic 48, 3) := by decide +kernel
theorem dX4_copyFrom_134 : decode cX4_copyFrom 134 = .ok (.iinc 2 1, 3) := by decide +kernel
theorem dX4_copyFrom_137 : decode cX4_copyFrom 137 = .ok (.goto (-28), 3) := by decide +kernel
theorem dX4_copyFrom_140 : decode cX4_copyFrom 140 = .ok (.iconst 0, 1) := by decide +kernel
theorem dX4_copyFrom_141 : decode cX4_copyFrom 141 = .ok (.istore_n 2, 1) := by decide +kernel
theorem dX4_copyFrom_142 : decode cX4_copyFrom 142 = .ok (.iload_n 2, 1) := by decide +kernel
theorem dX4_copyFrom_143 : decode cX4_copyFrom 143 = .ok (.bipush 8, 2) := by decide +kernel
theorem dX4_copyFrom_145 : decode cX4_copyFrom 145 = .ok (.if_icmp .ge 28, 3) := by decide +kernel
theorem dX4_copyFrom_148 : decode cX4_copyFrom 148 = .ok (.aload_n 1, 1) := by decide +kernel
theorem dX4_copyFrom_149 : decode cX4_copyFrom 149 = .ok (.getfield 39, 3) := by decide +kernel
theorem dX4_copyFrom_152 : decode cX4_copyFrom 152 = .ok (.iload_n 2, 1) := by decide +kernel
theorem dX4_copyFrom_153 : decode cX4_copyFrom 153 = .ok (.aaload, 1) := by decide +kernel
theorem dX4_copyFrom_154 : decode cX4_copyFrom 154 = .ok (.iconst 0, 1) := by decide +kernel
theorem dX4_copyFrom_155 : decode cX4_copyFrom 155 = .ok (.aload_n 0, 1) := by decide +kernel
theorem dX4_copyFrom_156 : decode cX4_copyFrom 156 = .ok (.getfield 39, 3) := by decide +kernel
theorem dX4_copyFrom_159 : decode cX4_copyFrom 159 = .ok (.iload_n 2, 1) := by decide +kernel
theorem dX4_copyFrom_160 : decode cX4_copyFrom 160 = .ok (.aaload, 1) := by decide +kernel
theorem dX4_copyFrom_161 : decode cX4_copyFrom 161 = .ok (.iconst 0, 1) := by decide +kernel
theorem dX4_copyFrom_162 : decode cX4_copyFrom 162 = .ok (.bipush 10, 2) := by decide +kernel
theorem dX4_copyFrom_164 : decode cX4_copyFrom 164 = .ok (.invokestatic 48, 3) := by decide +kernel
theorem dX4_copyFrom_167 : decode cX4_copyFrom 167 = .ok (.iinc 2 1, 3) := by decide +kernel
theorem dX4_copyFrom_170 : decode cX4_copyFrom 170 = .ok (.goto (-28), 3) := by decide +kernel
theorem dX4_copyFrom_173 : decode cX4_copyFrom 173 = .ok (.return_, 1) := by decide +kernel
abbrev rm_X4_copyFrom : Room := { frames := 1, cells := 0, slots := 0, locals := 27 }
theorem hy_X4_copyFrom : yX4_copyFrom.cls ≠ "java/lang/invoke/MethodHandle" ∧ yX4_copyFrom.cls ≠ "java/lang/invoke/VarHandle" ∧ (parseMethodDescriptor yX4_copyFrom.desc).map (fun d => d.parameters.length) = some 1 := by decide +kernel
def wb_X4_copyFrom_142  (Q : z_S → Prop) (k142 : Nat → Nat → Int32 → z_S → Prop) (p0 : Nat) (p1 : Nat) (x2 : Int32) (σ : z_S) : Prop :=
  (z_blk p0 σ ∧ z_blk p1 σ) ∧ if (8 : Int32) ≤ x2 then (Q σ) else (vp_in x2 8 ∧ vp_in x2 8 ∧ ∀ σ14 : z_S, σ14 = zs_row σ (p0 + (17 + 1 + x2.toNatClampNeg)) (va_cpy (zg_i σ (p1 + (17 + 1 + x2.toNatClampNeg))) (zg_i σ (p0 + (17 + 1 + x2.toNatClampNeg))) 0 0 10) → ∀ y15 : Int32, y15 = (x2 + (1 : Int32)) → k142 p0 p1 y15 σ14)
def w_X4_copyFrom_142  (Q : z_S → Prop) : Nat → Nat → Nat → Int32 → z_S → Prop
  | 0 => fun _ _ _ _ => False
  | n + 1 => wb_X4_copyFrom_142  Q (w_X4_copyFrom_142  Q n)
def wb_X4_copyFrom_109  (Q : z_S → Prop) (k109 : Nat → Nat → Int32 → z_S → Prop) (p0 : Nat) (p1 : Nat) (x2 : Int32) (σ : z_S) : Prop :=
  (z_blk p0 σ ∧ z_blk p1 σ) ∧ if (10 : Int32) ≤ x2 then (w_X4_copyFrom_142 Q 400 p0 p1 (0 : Int32) σ) else (vp_in x2 10 ∧ vp_in x2 10 ∧ ∀ σ18 : z_S, σ18 = zs_row σ (p0 + (6 + 1 + x2.toNatClampNeg)) (va_cpy (zg_i σ (p1 + (6 + 1 + x2.toNatClampNeg))) (zg_i σ (p0 + (6 + 1 + x2.toNatClampNeg))) 0 0 13) → ∀ y19 : Int32, y19 = (x2 + (1 : Int32)) → k109 p0 p1 y19 σ18)
def w_X4_copyFrom_109  (Q : z_S → Prop) : Nat → Nat → Nat → Int32 → z_S → Prop
  | 0 => fun _ _ _ _ => False
  | n + 1 => wb_X4_copyFrom_109  Q (w_X4_copyFrom_109  Q n)
def w_X4_copyFrom (a0 : Nat) (a1 : Nat) (σ : z_S) (Q : z_S → Prop) : Prop :=
  (z_blk a0 σ ∧ z_blk a1 σ) ∧ ∀ σ1 : z_S, σ1 = zs_i σ a0 0 (zg_i σ a1 0) → ∀ σ2 : z_S, σ2 = zs_i σ1 a0 1 (zg_i σ1 a1 1) → ∀ σ3 : z_S, σ3 = zs_i σ2 a0 2 (zg_i σ2 a1 2) → ∀ σ4 : z_S, σ4 = zs_i σ3 a0 3 (zg_i σ3 a1 3) → ∀ σ5 : z_S, σ5 = zs_row σ4 (a0 + 1) (va_cpy (zg_i σ4 (a1 + 1)) (zg_i σ4 (a0 + 1)) 0 0 10) → ∀ σ6 : z_S, σ6 = zs_row σ5 (a0 + 2) (va_cpy (zg_i σ5 (a1 + 2)) (zg_i σ5 (a0 + 2)) 0 0 10) → ∀ σ7 : z_S, σ7 = zs_row σ6 (a0 + 3) (va_cpy (zg_i σ6 (a1 + 3)) (zg_i σ6 (a0 + 3)) 0 0 10) → ∀ σ8 : z_S, σ8 = zs_row σ7 (a0 + 4) (va_cpy (zg_i σ7 (a1 + 4)) (zg_i σ7 (a0 + 4)) 0 0 10) → ∀ σ9 : z_S, σ9 = zs_row σ8 (a0 + 5) (va_cpy (zg_i σ8 (a1 + 5)) (zg_i σ8 (a0 + 5)) 0 0 10) → w_X4_copyFrom_109 Q 400 a0 a1 (0 : Int32) σ9
set_option maxHeartbeats 4000000 in
set_option maxRecDepth 100000 in
theorem t_X4_copyFrom_142 {l : Launch} {D : va_G} {cI cJ cM cS : ClassId} {n0 : Nat} {p : Program} {e : Env} {s : State} {m : MethodId} {args : Array Value} {below : List Frame} {meth : Method} {c : Code}  {Q : z_S → Prop} (hX : z_X D cI cJ cM cS p s m args c cX4_copyFrom 3 yX4_copyFrom.cls) (hY : z_Y s meth none)  : ∀ (n : Nat) (p0 : Nat) (p1 : Nat) (x2 : Int32) (σ : z_S), w_X4_copyFrom_142  Q n p0 p1 x2 σ → z_t D cI cJ cM cS n0 p l e rm_X4_copyFrom s m args below meth c 3 (MQ below (va_Qv Q (fun u t => z_Bq D cI cJ cM cS n0 u t) (z_Ab n0)) args s 0 0 (z_Ab n0)) 0 0 142 [(0, .ref (n0 + p0)), (1, .ref (n0 + p1)), (2, .int x2)] [] σ := by
  intro n
  induction n with
  | zero => intro _ _ _ _ hf; exact hf.elim
  | succ n ih142 =>
    intro p0 p1 x2 σ hf
    have hf : wb_X4_copyFrom_142  Q (w_X4_copyFrom_142  Q n) p0 p1 x2 σ := hf
    unfold wb_X4_copyFrom_142 at hf
    obtain ⟨⟨hb_p0, hb_p1⟩, hf⟩ := hf
    refine zt_iload_n hX 2 dX4_copyFrom_142 rfl rfl ?_
    refine zt_bipush hX dX4_copyFrom_143 (v := (8 : Int32)) (by decide) ?_
    refine zt_icmp_ge hX dX4_copyFrom_145 (tgt := 173) (by decide) (fun c11 => ?_) (fun c11 => ?_)
    · replace hf := z_pos hf c11
      exact zt_vret hX hY dX4_copyFrom_173 hf
    · replace hf := z_neg hf c11
      refine zt_aload_n hX 1 dX4_copyFrom_148 rfl rfl ?_
      refine zu_get hX hb_p1 10 (by decide) kw_117 rfl rfl dX4_copyFrom_149 ?_
      refine zt_iload_n hX 2 dX4_copyFrom_152 rfl rfl ?_
      obtain ⟨h12, hf⟩ := hf
      refine zu_aaloadM hX hb_p1 dX4_copyFrom_153 (by decide) (len := 8) (by decide) h12 ?_
      refine zt_iconst hX dX4_copyFrom_154 (v := (0 : Int32)) (by decide) ?_
      refine zt_aload_n hX 0 dX4_copyFrom_155 rfl rfl ?_
      refine zu_get hX hb_p0 10 (by decide) kw_117 rfl rfl dX4_copyFrom_156 ?_
      refine zt_iload_n hX 2 dX4_copyFrom_159 rfl rfl ?_
      obtain ⟨h13, hf⟩ := hf
      refine zu_aaloadM hX hb_p0 dX4_copyFrom_160 (by decide) (len := 8) (by decide) h13 ?_
      refine zt_iconst hX dX4_copyFrom_161 (v := (0 : Int32)) (by decide) ?_
      refine zt_bipush hX dX4_copyFrom_162 (v := (10 : Int32)) (by decide) ?_
      refine zt_copy hX (len0 := 10) (len1 := 10) dX4_copyFrom_164 kw_273 (fun _ => z_blk_lt hb_p1 (zl17 (z_lt h12))) (fun _ => z_blk_lt hb_p0 (zl17 (z_lt h13))) (z_blk_sh hb_p1 (zl17 (z_lt h12)) (zb17 (z_lt h12))) (z_blk_sh hb_p0 (zl17 (z_lt h13)) (zb17 (z_lt h13))) (by decide) (by decide) (by decide) (by decide) (by decide) (by decide) (Nat.le_of_ble_eq_true rfl) ?_
      refine zt_nms (fun σ14 d14 => ?_)
      replace hf := hf σ14 d14
      replace hb_p0 := z_blk_eq hb_p0 (show zg_n σ14 = zg_n σ by rw [d14]; rfl)
      replace hb_p1 := z_blk_eq hb_p1 (show zg_n σ14 = zg_n σ by rw [d14]; rfl)
      obtain ⟨y15, e15⟩ : ∃ y : Int32, y = (x2 + (1 : Int32)) := ⟨_, rfl⟩
      replace hf := hf y15 e15
      refine zt_iinc (L' := [(2, .int y15), (0, .ref (n0 + p0)), (1, .ref (n0 + p1))]) hX 2 dX4_copyFrom_167 rfl (v := y15) (by rw [e15]; rfl) (by decide) rfl ?_
      refine zt_goto hX dX4_copyFrom_170 (tgt := 142) (by decide) ?_
      exact zt_sub [1, 2, 0] rfl (ih142 _ _ _ _ hf)
set_option maxHeartbeats 4000000 in
set_option maxRecDepth 100000 in
theorem t_X4_copyFrom_109 {l : Launch} {D : va_G} {cI cJ cM cS : ClassId} {n0 : Nat} {p : Program} {e : Env} {s : State} {m : MethodId} {args : Array Value} {below : List Frame} {meth : Method} {c : Code}  {Q : z_S → Prop} (hX : z_X D cI cJ cM cS p s m args c cX4_copyFrom 3 yX4_copyFrom.cls) (hY : z_Y s meth none)  : ∀ (n : Nat) (p0 : Nat) (p1 : Nat) (x2 : Int32) (σ : z_S), w_X4_copyFrom_109  Q n p0 p1 x2 σ → z_t D cI cJ cM cS n0 p l e rm_X4_copyFrom s m args below meth c 3 (MQ below (va_Qv Q (fun u t => z_Bq D cI cJ cM cS n0 u t) (z_Ab n0)) args s 0 0 (z_Ab n0)) 0 0 109 [(0, .ref (n0 + p0)), (1, .ref (n0 + p1)), (2, .int x2)] [] σ := by
  intro n
  induction n with
  | zero => intro _ _ _ _ hf; exact hf.elim
  | succ n ih109 =>
    intro p0 p1 x2 σ hf
    have hf : wb_X4_copyFrom_109  Q (w_X4_copyFrom_109  Q n) p0 p1 x2 σ := hf
    unfold wb_X4_copyFrom_109 at hf
    obtain ⟨⟨hb_p0, hb_p1⟩, hf⟩ := hf
    refine zt_iload_n hX 2 dX4_copyFrom_109 rfl rfl ?_
    refine zt_bipush hX dX4_copyFrom_110 (v := (10 : Int32)) (by decide) ?_
    refine zt_icmp_ge hX dX4_copyFrom_112 (tgt := 140) (by decide) (fun c10 => ?_) (fun c10 => ?_)
    · replace hf := z_pos hf c10
      refine zt_iconst hX dX4_copyFrom_140 (v := (0 : Int32)) (by decide) ?_
      refine zt_istore_n (L' := [(2, .int (0 : Int32)), (0, .ref (n0 + p0)), (1, .ref (n0 + p1))]) hX dX4_copyFrom_141 rfl (by decide) rfl ?_
      exact zt_sub [1, 2, 0] rfl (t_X4_copyFrom_142 hX hY 400 _ _ _ _ hf)
    · replace hf := z_neg hf c10
      refine zt_aload_n hX 1 dX4_copyFrom_115 rfl rfl ?_
      refine zu_get hX hb_p1 9 (by decide) kw_114 rfl rfl dX4_copyFrom_116 ?_
      refine zt_iload_n hX 2 dX4_copyFrom_119 rfl rfl ?_
      obtain ⟨h16, hf⟩ := hf
      refine zu_aaloadM hX hb_p1 dX4_copyFrom_120 (by decide) (len := 10) (by decide) h16 ?_
      refine zt_iconst hX dX4_copyFrom_121 (v := (0 : Int32)) (by decide) ?_
      refine zt_aload_n hX 0 dX4_copyFrom_122 rfl rfl ?_
      refine zu_get hX hb_p0 9 (by decide) kw_114 rfl rfl dX4_copyFrom_123 ?_
      refine zt_iload_n hX 2 dX4_copyFrom_126 rfl rfl ?_
      obtain ⟨h17, hf⟩ := hf
      refine zu_aaloadM hX hb_p0 dX4_copyFrom_127 (by decide) (len := 10) (by decide) h17 ?_
      refine zt_iconst hX dX4_copyFrom_128 (v := (0 : Int32)) (by decide) ?_
      refine zt_bipush hX dX4_copyFrom_129 (v := (13 : Int32)) (by decide) ?_
      refine zt_copy hX (len0 := 13) (len1 := 13) dX4_copyFrom_131 kw_273 (fun _ => z_blk_lt hb_p1 (zl6 (z_lt h16))) (fun _ => z_blk_lt hb_p0 (zl6 (z_lt h17))) (z_blk_sh hb_p1 (zl6 (z_lt h16)) (zb6 (z_lt h16))) (z_blk_sh hb_p0 (zl6 (z_lt h17)) (zb6 (z_lt h17))) (by decide) (by decide) (by decide) (by decide) (by decide) (by decide) (Nat.le_of_ble_eq_true rfl) ?_
      refine zt_nms (fun σ18 d18 => ?_)
      replace hf := hf σ18 d18
      replace hb_p0 := z_blk_eq hb_p0 (show zg_n σ18 = zg_n σ by rw [d18]; rfl)
      replace hb_p1 := z_blk_eq hb_p1 (show zg_n σ18 = zg_n σ by rw [d18]; rfl)
      obtain ⟨y19, e19⟩ : ∃ y : Int32, y = (x2 + (1 : Int32)) := ⟨_, rfl⟩
      replace hf := hf y19 e19
      refine zt_iinc (L' := [(2, .int y19), (0, .ref (n0 + p0)), (1, .ref (n0 + p1))]) hX 2 dX4_copyFrom_134 rfl (v := y19) (by rw [e19]; rfl) (by decide) rfl ?_
      refine zt_goto hX dX4_copyFrom_137 (tgt := 109) (by decide) ?_
      exact zt_sub [1, 2, 0] rfl (ih109 _ _ _ _ hf)
set_option maxHeartbeats 4000000 in
set_option maxRecDepth 100000 in
theorem c_X4_copyFrom {l : Launch} {D : va_G} {cI cJ cM cS : ClassId} {n0 : Nat} {a0 : Nat} {a1 : Nat} {σ : z_S} {Q : z_S → Prop} (hf : w_X4_copyFrom a0 a1 σ Q) : z_cv l D cI cJ cM cS n0 yX4_copyFrom cX4_copyFrom 3 rm_X4_copyFrom 0 0 [.ref (n0 + a0), .ref (n0 + a1)] σ Q := by
  refine z_ofv (by decide +kernel) (Nat.le_of_ble_eq_true rfl) (fun p e s m args below meth c hX hY => ?_)
  unfold w_X4_copyFrom at hf
  refine zt_L (L' := [(0, .ref (n0 + a0)), (1, .ref (n0 + a1))]) rfl ?_
  obtain ⟨⟨hb_a0, hb_a1⟩, hf⟩ := hf
  refine zt_aload_n hX 0 dX4_copyFrom_0 rfl rfl ?_
  refine zt_aload_n hX 1 dX4_copyFrom_1 rfl rfl ?_
  refine zu_get hX hb_a1 0 (by decide) kw_87 rfl rfl dX4_copyFrom_2 ?_
  refine zu_puti hX hb_a0 0 (by decide) kw_87 rfl (by decide) rfl rfl dX4_copyFrom_5 ?_
  refine zt_nms (fun σ1 d1 => ?_)
  replace hf := hf σ1 d1
  replace hb_a0 := z_blk_eq hb_a0 (show zg_n σ1 = zg_n σ by rw [d1]; rfl)
  replace hb_a1 := z_blk_eq hb_a1 (show zg_n σ1 = zg_n σ by rw [d1]; rfl)
  refine zt_aload_n hX 0 dX4_copyFrom_8 rfl rfl ?_
  refine zt_aload_n hX 1 dX4_copyFrom_9 rfl rfl ?_
  refine zu_get hX hb_a1 1 (by decide) kw_92 rfl rfl dX4_copyFrom_10 ?_
  refine zu_puti hX hb_a0 1 (by decide) kw_92 rfl (by decide) rfl rfl dX4_copyFrom_13 ?_
  refine zt_nms (fun σ2 d2 => ?_)
  replace hf := hf σ2 d2
  replace hb_a0 := z_blk_eq hb_a0 (show zg_n σ2 = zg_n σ1 by rw [d2]; rfl)
  replace hb_a1 := z_blk_eq hb_a1 (show zg_n σ2 = zg_n σ1 by rw [d2]; rfl)
  refine zt_aload_n hX 0 dX4_copyFrom_16 rfl rfl ?_
  refine zt_aload_n hX 1 dX4_copyFrom_17 rfl rfl ?_
  refine zu_get hX hb_a1 2 (by decide) kw_94 rfl rfl dX4_copyFrom_18 ?_
  refine zu_puti hX hb_a0 2 (by decide) kw_94 rfl (by decide) rfl rfl dX4_copyFrom_21 ?_
  refine zt_nms (fun σ3 d3 => ?_)
  replace hf := hf σ3 d3
  replace hb_a0 := z_blk_eq hb_a0 (show zg_n σ3 = zg_n σ2 by rw [d3]; rfl)
  replace hb_a1 := z_blk_eq hb_a1 (show zg_n σ3 = zg_n σ2 by rw [d3]; rfl)
  refine zt_aload_n hX 0 dX4_copyFrom_24 rfl rfl ?_
  refine zt_aload_n hX 1 dX4_copyFrom_25 rfl rfl ?_
  refine zu_get hX hb_a1 3 (by decide) kw_97 rfl rfl dX4_copyFrom_26 ?_
  refine zu_puti hX hb_a0 3 (by decide) kw_97 rfl (by decide) rfl rfl dX4_copyFrom_29 ?_
  refine zt_nms (fun σ4 d4 => ?_)
  replace hf := hf σ4 d4
  replace hb_a0 := z_blk_eq hb_a0 (show zg_n σ4 = zg_n σ3 by rw [d4]; rfl)
  replace hb_a1 := z_blk_eq hb_a1 (show zg_n σ4 = zg_n σ3 by rw [d4]; rfl)
  refine zt_aload_n hX 1 dX4_copyFrom_32 rfl rfl ?_
  refine zu_get hX hb_a1 4 (by decide) kw_99 rfl rfl dX4_copyFrom_33 ?_
  refine zt_iconst hX dX4_copyFrom_36 (v := (0 : Int32)) (by decide) ?_
  refine zt_aload_n hX 0 dX4_copyFrom_37 rfl rfl ?_
  refine zu_get hX hb_a0 4 (by decide) kw_99 rfl rfl dX4_copyFrom_38 ?_
  refine zt_iconst hX dX4_copyFrom_41 (v := (0 : Int32)) (by decide) ?_
  refine zt_bipush hX dX4_copyFrom_42 (v := (10 : Int32)) (by decide) ?_
  refine zt_copy hX (len0 := 10) (len1 := 10) dX4_copyFrom_44 kw_273 (fun _ => z_blk_lt hb_a1 (by decide)) (fun _ => z_blk_lt hb_a0 (by decide)) (z_blk_sh hb_a1 (by decide) (by decide)) (z_blk_sh hb_a0 (by decide) (by decide)) (by decide) (by decide) (by decide) (by decide) (by decide) (by decide) (Nat.le_of_ble_eq_true rfl) ?_
  refine zt_nms (fun σ5 d5 => ?_)
  replace hf := hf σ5 d5
  replace hb_a0 := z_blk_eq hb_a0 (show zg_n σ5 = zg_n σ4 by rw [d5]; rfl)
  replace hb_a1 := z_blk_eq hb_a1 (show zg_n σ5 = zg_n σ4 by rw [d5]; rfl)
  refine zt_aload_n hX 1 dX4_copyFrom_47 rfl rfl ?_
  refine zu_get hX hb_a1 5 (by decide) kw_103 rfl rfl dX4_copyFrom_48 ?_
  refine zt_iconst hX dX4_copyFrom_51 (v := (0 : Int32)) (by decide) ?_
  refine zt_aload_n hX 0 dX4_copyFrom_52 rfl rfl ?_
  refine zu_get hX hb_a0 5 (by decide) kw_103 rfl rfl dX4_copyFrom_53 ?_
  refine zt_iconst hX dX4_copyFrom_56 (v := (0 : Int32)) (by decide) ?_
  refine zt_bipush hX dX4_copyFrom_57 (v := (10 : Int32)) (by decide) ?_
  refine zt_copy hX (len0 := 10) (len1 := 10) dX4_copyFrom_59 kw_273 (fun _ => z_blk_lt hb_a1 (by decide)) (fun _ => z_blk_lt hb_a0 (by decide)) (z_blk_sh hb_a1 (by decide) (by decide)) (z_blk_sh hb_a0 (by decide) (by decide)) (by decide) (by decide) (by decide) (by decide) (by decide) (by decide) (Nat.le_of_ble_eq_true rfl) ?_
  refine zt_nms (fun σ6 d6 => ?_)
  replace hf := hf σ6 d6
  replace hb_a0 := z_blk_eq hb_a0 (show zg_n σ6 = zg_n σ5 by rw [d6]; rfl)
  replace hb_a1 := z_blk_eq hb_a1 (show zg_n σ6 = zg_n σ5 by rw [d6]; rfl)
  refine zt_aload_n hX 1 dX4_copyFrom_62 rfl rfl ?_
  refine zu_get hX hb_a1 6 (by decide) kw_106 rfl rfl dX4_copyFrom_63 ?_
  refine zt_iconst hX dX4_copyFrom_66 (v := (0 : Int32)) (by decide) ?_
  refine zt_aload_n hX 0 dX4_copyFrom_67 rfl rfl ?_
  refine zu_get hX hb_a0 6 (by decide) kw_106 rfl rfl dX4_copyFrom_68 ?_
  refine zt_iconst hX dX4_copyFrom_71 (v := (0 : Int32)) (by decide) ?_
  refine zt_bipush hX dX4_copyFrom_72 (v := (10 : Int32)) (by decide) ?_
  refine zt_copy hX (len0 := 10) (len1 := 10) dX4_copyFrom_74 kw_273 (fun _ => z_blk_lt hb_a1 (by decide)) (fun _ => z_blk_lt hb_a0 (by decide)) (z_blk_sh hb_a1 (by decide) (by decide)) (z_blk_sh hb_a0 (by decide) (by decide)) (by decide) (by decide) (by decide) (by decide) (by decide) (by decide) (Nat.le_of_ble_eq_true rfl) ?_
  refine zt_nms (fun σ7 d7 => ?_)
  replace hf := hf σ7 d7
  replace hb_a0 := z_blk_eq hb_a0 (show zg_n σ7 = zg_n σ6 by rw [d7]; rfl)
  replace hb_a1 := z_blk_eq hb_a1 (show zg_n σ7 = zg_n σ6 by rw [d7]; rfl)
  refine zt_aload_n hX 1 dX4_copyFrom_77 rfl rfl ?_
  refine zu_get hX hb_a1 7 (by decide) kw_108 rfl rfl dX4_copyFrom_78 ?_
  refine zt_iconst hX dX4_copyFrom_81 (v := (0 : Int32)) (by decide) ?_
  refine zt_aload_n hX 0 dX4_copyFrom_82 rfl rfl ?_
  refine zu_get hX hb_a0 7 (by decide) kw_108 rfl rfl dX4_copyFrom_83 ?_
  refine zt_iconst hX dX4_copyFrom_86 (v := (0 : Int32)) (by decide) ?_
  refine zt_bipush hX dX4_copyFrom_87 (v := (10 : Int32)) (by decide) ?_
  refine zt_copy hX (len0 := 10) (len1 := 10) dX4_copyFrom_89 kw_273 (fun _ => z_blk_lt hb_a1 (by decide)) (fun _ => z_blk_lt hb_a0 (by decide)) (z_blk_sh hb_a1 (by decide) (by decide)) (z_blk_sh hb_a0 (by decide) (by decide)) (by decide) (by decide) (by decide) (by decide) (by decide) (by decide) (Nat.le_of_ble_eq_true rfl) ?_
  refine zt_nms (fun σ8 d8 => ?_)
  replace hf := hf σ8 d8
  replace hb_a0 := z_blk_eq hb_a0 (show zg_n σ8 = zg_n σ7 by rw [d8]; rfl)
  replace hb_a1 := z_blk_eq hb_a1 (show zg_n σ8 = zg_n σ7 by rw [d8]; rfl)
  refine zt_aload_n hX 1 dX4_copyFrom_92 rfl rfl ?_
  refine zu_get hX hb_a1 8 (by decide) kw_111 rfl rfl dX4_copyFrom_93 ?_
  refine zt_iconst hX dX4_copyFrom_96 (v := (0 : Int32)) (by decide) ?_
  refine zt_aload_n hX 0 dX4_copyFrom_97 rfl rfl ?_
  refine zu_get hX hb_a0 8 (by decide) kw_111 rfl rfl dX4_copyFrom_98 ?_
  refine zt_iconst hX dX4_copyFrom_101 (v := (0 : Int32)) (by decide) ?_
  refine zt_bipush hX dX4_copyFrom_102 (v := (10 : Int32)) (by decide) ?_
  refine zt_copy hX (len0 := 10) (len1 := 10) dX4_copyFrom_104 kw_273 (fun _ => z_blk_lt hb_a1 (by decide)) (fun _ => z_blk_lt hb_a0 (by decide)) (z_blk_sh hb_a1 (by decide) (by decide)) (z_blk_sh hb_a0 (by decide) (by decide)) (by decide) (by decide) (by decide) (by decide) (by decide) (by decide) (Nat.le_of_ble_eq_true rfl) ?_
  refine zt_nms (fun σ9 d9 => ?_)
  replace hf := hf σ9 d9
  replace hb_a0 := z_blk_eq hb_a0 (show zg_n σ9 = zg_n σ8 by rw [d9]; rfl)
  replace hb_a1 := z_blk_eq hb_a1 (show zg_n σ9 = zg_n σ8 by rw [d9]; rfl)
  refine zt_iconst hX dX4_copyFrom_107 (v := (0 : Int32)) (by decide) ?_
  refine zt_istore_n (L' := [(2, .int (0 : Int32)), (0, .ref (n0 + a0)), (1, .ref (n0 + a1))]) hX dX4_copyFrom_108 rfl (by decide) rfl ?_
  exact zt_sub [1, 2, 0] rfl (t_X4_copyFrom_109 hX hY 400 _ _ _ _ hf)

theorem dX2_push_0 : decode cX2_push 0 = .ok (.aload_n 0, 1) := by decide +kernel
theorem dX2_push_1 : decode cX2_push 1 = .ok (.getfield 17, 3) := by decide +kernel
theorem dX2_push_4 : decode cX2_push 4 = .ok (.iconst 5, 1) := by decide +kernel
theorem dX2_push_5 : decode cX2_push 5 = .ok (.if_icmp .lt 7, 3) := by decide +kernel
theorem dX2_push_8 : decode cX2_push 8 = .ok (.aload_n 0, 1) := by decide +kernel
theorem dX2_push_9 : decode cX2_push 9 = .ok (.invokevirtual 21, 3) := by decide +kernel
theorem dX2_push_12 : decode cX2_push 12 = .ok (.aload_n 0, 1) := by decide +kernel
theorem dX2_push_13 : decode cX2_push 13 = .ok (.getfield 11, 3) := by decide +kernel
theorem dX2_push_16 : decode cX2_push 16 = .ok (.aload_n 0, 1) := by decide +kernel
theorem dX2_push_17 : decode cX2_push 17 = .ok (.getfield 17, 3) := by decide +kernel
theorem dX2_push_20 : decode cX2_push 20 = .ok (.aaload, 1) := by decide +kernel
theorem dX2_push_21 : decode cX2_push 21 = .ok (.astore_n 2, 1) := by decide +kernel
theorem dX2_push_22 : decode cX2_push 22 = .ok (.aload_n 2, 1) := by decide +kernel
theorem dX2_push_23 : decode cX2_push 23 = .ok (.ifnonnull 21, 3) := by decide +kernel
theorem dX2_push_26 : decode cX2_push 26 = .ok (.new 9, 3) := by decide +kernel
theorem dX2_push_29 : decode cX2_push 29 = .ok (.dup, 1) := by decide +kernel
theorem dX2_push_30 : decode cX2_push 30 = .ok (.invokespecial 24, 3) := by decide +kernel
theorem dX2_push_33 : decode cX2_push 33 = .ok (.astore_n 2, 1) := by decide +kernel
theorem dX2_push_34 : decode cX2_push 34 = .ok (.aload_n 0, 1) := by decide +kernel
theorem dX2_push_35 : decode cX2_push 35 = .ok (.getfield 11, 3) := by decide +kernel
theorem dX2_push_38 : decode cX2_push 38 = .ok (.aload_n 0, 1) := by decide +kernel
theorem dX2_push_39 : decode cX2_push 39 = .ok (.getfield 17, 3) := by decide +kernel
theorem dX2_push_42 : decode cX2_push 42 = .ok (.aload_n 2, 1) := by decide +kernel
theorem dX2_push_43 : decode cX2_push 43 = .ok (.aastore, 1) := by decide +kernel
theorem dX2_push_44 : decode cX2_push 44 = .ok (.aload_n 2, 1) := by decide +kernel
theorem dX2_push_45 : decode cX2_push 45 = .ok (.aload_n 1, 1) := by decide +kernel
theorem dX2_push_46 : decode cX2_push 46 = .ok (.invokevirtual 25, 3) := by decide +kernel
theorem dX2_push_49 : decode cX2_push 49 = .ok (.aload_n 0, 1) := by decide +kernel
theorem dX2_push_50 : decode cX2_push 50 = .ok (.dup, 1) := by decide +kernel
theorem dX2_push_51 : decode cX2_push 51 = .ok (.getfield 17, 3) := by decide +kernel
theorem dX2_push_54 : decode cX2_push 54 = .ok (.iconst 1, 1) := by decide +kernel
theorem dX2_push_55 : decode cX2_push 55 = .ok (.iadd, 1) := by decide +kernel
theorem dX2_push_56 : decode cX2_push 56 = .ok (.putfield 17, 3) := by decide +kernel
theorem dX2_push_59 : decode cX2_push 59 = .ok (.return_, 1) := by decide +kernel
abbrev rm_X2_push : Room := { frames := 2, cells := 26, slots := 289, locals := 49 }
theorem hy_X2_push : yX2_push.cls ≠ "java/lang/invoke/MethodHandle" ∧ yX2_push.cls ≠ "java/lang/invoke/VarHandle" ∧ (parseMethodDescriptor yX2_push.desc).map (fun d => d.parameters.length) = some 1 := by decide +kernel
def w_X2_push_44  (Q : z_S → Prop) (p2 : Nat) (σ : z_S) : Prop :=
  z_blk p2 σ ∧ w_X4_copyFrom p2 1 σ (fun σ10 => ∀ σ12 : z_S, σ12 = zs_i σ10 27 1 ((zg_i σ10 27 1) + (1 : Int32)) → Q σ12)
def w_X2_push_12  (Q : z_S → Prop)  (σ : z_S) : Prop :=
  vp_in (zg_i σ 27 1) 5 ∧ (zg_r σ (zg_i σ 27 1).toNatClampNeg = none → (∀ j, j < 26 → z_sh (zg_n σ + j) = z_sh (1 + j)) ∧ ∀ σ6 : z_S, σ6 = zs_new σ → vp_in (zg_i σ6 27 1) 5 ∧ z_blk (zg_n σ) σ6 ∧ ∀ σ9 : z_S, σ9 = zs_r σ6 (zg_i σ6 27 1).toNatClampNeg (some (zg_n σ)) → w_X2_push_44 Q (zg_n σ) σ9) ∧ (∀ b4, zg_r σ (zg_i σ 27 1).toNatClampNeg = some b4 → w_X2_push_44 Q b4 σ)
def w_X2_push  (σ : z_S) (Q : z_S → Prop) : Prop :=
  if (zg_i σ 27 1) < (5 : Int32) then (w_X2_push_12 Q σ) else (w_X2_dropOldest σ (fun σ14 => w_X2_push_12 Q σ14))
set_option maxHeartbeats 4000000 in
set_option maxRecDepth 100000 in
theorem t_X2_push_44 {l : Launch} {D : va_G} {cI cJ cM cS : ClassId} {n0 : Nat} {p : Program} {e : Env} {s : State} {m : MethodId} {args : Array Value} {below : List Frame} {meth : Method} {c : Code}  {Q : z_S → Prop} (hX : z_X D cI cJ cM cS p s m args c cX2_push 3 yX2_push.cls) (hY : z_Y s meth none)  (p2 : Nat) (σ : z_S) (hf : w_X2_push_44  Q p2 σ) : z_t D cI cJ cM cS n0 p l e rm_X2_push s m args below meth c 3 (MQ below (va_Qv Q (fun u t => z_Bq D cI cJ cM cS n0 u t) (z_Ab n0)) args s 26 289 (z_Ab n0)) 26 289 44 [(0, .ref (n0 + 27)), (1, .ref (n0 + 1)), (2, .ref (n0 + p2))] [] σ := by
  unfold w_X2_push_44 at hf
  refine zt_aload_n hX 2 dX2_push_44 rfl rfl ?_
  refine zt_aload_n hX 1 dX2_push_45 rfl rfl ?_
  obtain ⟨h11, hf⟩ := hf
  refine zt_callvB hX hY (av := [.ref (n0 + 1)]) (c_X4_copyFrom hf) dX2_push_46 rfl kw_269 kw_270 kw_271 kw_62 kw_272 ⟨rfl, rfl⟩ hy_X4_copyFrom ⟨by decide, by decide⟩ ⟨by decide, by decide⟩ (Nat.le_of_ble_eq_true rfl) h11 rfl (fun σ10 hf => ?_)
  refine zt_aload_n hX 0 dX2_push_49 rfl rfl ?_
  refine zt_dup hX dX2_push_50 rfl ?_
  refine zt_get_X2 hX (by decide) (zE_27 _ _) 1 (by decide) kw_152 rfl rfl dX2_push_51 ?_
  refine zt_iconst hX dX2_push_54 (v := (1 : Int32)) (by decide) ?_
  refine zt_iadd hX dX2_push_55 ?_
  refine zt_puti_X2 hX (by decide) (zE_27 _ _) 1 (by decide) kw_152 rfl rfl (Nat.le_of_ble_eq_true rfl) rfl rfl dX2_push_56 ?_
  refine zt_nms (fun σ12 d12 => ?_)
  replace hf := hf σ12 d12
  exact zt_vret hX hY dX2_push_59 hf
set_option maxHeartbeats 4000000 in
set_option maxRecDepth 100000 in
theorem t_X2_push_12 {l : Launch} {D : va_G} {cI cJ cM cS : ClassId} {n0 : Nat} {p : Program} {e : Env} {s : State} {m : MethodId} {args : Array Value} {below : List Frame} {meth : Method} {c : Code}  {Q : z_S → Prop} (hX : z_X D cI cJ cM cS p s m args c cX2_push 3 yX2_push.cls) (hY : z_Y s meth none)   (σ : z_S) (hf : w_X2_push_12  Q  σ) : z_t D cI cJ cM cS n0 p l e rm_X2_push s m args below meth c 3 (MQ below (va_Qv Q (fun u t => z_Bq D cI cJ cM cS n0 u t) (z_Ab n0)) args s 26 289 (z_Ab n0)) 0 0 12 [(0, .ref (n0 + 27)), (1, .ref (n0 + 1))] [] σ := by
  unfold w_X2_push_12 at hf
  refine zt_aload_n hX 0 dX2_push_12 rfl rfl ?_
  refine zt_get_X2 hX (by decide) (zE_27 _ _) 0 (by decide) kw_151 rfl rfl dX2_push_13 ?_
  refine zt_aload_n hX 0 dX2_push_16 rfl rfl ?_
  refine zt_get_X2 hX (by decide) (zE_27 _ _) 1 (by decide) kw_152 rfl rfl dX2_push_17 ?_
  obtain ⟨h2, hf⟩ := hf
  refine zt_aaloadS hX dX2_push_20 h2 (fun h3 => ?_) (fun b4 h3 => ?_)
  · replace hf := hf.1 h3
    refine zt_astore_nN (L' := [(2, .null), (0, .ref (n0 + 27)), (1, .ref (n0 + 1))]) hX dX2_push_21 rfl (by decide) rfl ?_
    refine zt_aload_nN hX 0 dX2_push_22 rfl rfl ?_
    refine zt_ifnonnullN hX dX2_push_23 ?_
    obtain ⟨h5, hf⟩ := hf
    refine zt_newState hX hY dX2_push_26 dX2_push_29 dX2_push_30 kw_149 kw_268 (by decide) (Nat.le_of_ble_eq_true rfl) (by decide) (by decide) (Nat.le_of_ble_eq_true rfl) h5 ?_
    refine zt_nms (fun σ6 d6 => ?_)
    replace hf := hf σ6 d6
    refine zt_astore_n (L' := [(2, .ref (n0 + (zg_n σ))), (0, .ref (n0 + 27)), (1, .ref (n0 + 1))]) hX dX2_push_33 rfl (by decide) rfl ?_
    refine zt_aload_n hX 1 dX2_push_34 rfl rfl ?_
    refine zt_get_X2 hX (by decide) (zE_27 _ _) 0 (by decide) kw_151 rfl rfl dX2_push_35 ?_
    refine zt_aload_n hX 1 dX2_push_38 rfl rfl ?_
    refine zt_get_X2 hX (by decide) (zE_27 _ _) 1 (by decide) kw_152 rfl rfl dX2_push_39 ?_
    refine zt_aload_n hX 0 dX2_push_42 rfl rfl ?_
    obtain ⟨h7, h8, hf⟩ := hf
    refine zt_aastoreS hX dX2_push_43 h7 h8 ?_
    refine zt_nms (fun σ9 d9 => ?_)
    replace hf := hf σ9 d9
    exact zt_sub [1, 2, 0] rfl (t_X2_push_44 hX hY _ _ hf)
  · replace hf := hf.2 b4 h3
    refine zt_astore_n (L' := [(2, .ref (n0 + b4)), (0, .ref (n0 + 27)), (1, .ref (n0 + 1))]) hX dX2_push_21 rfl (by decide) rfl ?_
    refine zt_aload_n hX 0 dX2_push_22 rfl rfl ?_
    refine zt_ifnonnull hX dX2_push_23 (tgt := 44) (by decide) ?_
    refine zt_widen (c1 := 26) (s1 := 289) (by decide) (by decide) ?_
    exact zt_sub [1, 2, 0] rfl (t_X2_push_44 hX hY _ _ hf)
set_option maxHeartbeats 4000000 in
set_option maxRecDepth 100000 in
theorem c_X2_push {l : Launch} {D : va_G} {cI cJ cM cS : ClassId} {n0 : Nat}  {σ : z_S} {Q : z_S → Prop} (hf : w_X2_push  σ Q) : z_cv l D cI cJ cM cS n0 yX2_push cX2_push 3 rm_X2_push 26 289 [.ref (n0 + 27), .ref (n0 + 1)] σ Q := by
  refine z_ofv (by decide +kernel) (Nat.le_of_ble_eq_true rfl) (fun p e s m args below meth c hX hY => ?_)
  unfold w_X2_push at hf
  refine zt_L (L' := [(0, .ref (n0 + 27)), (1, .ref (n0 + 1))]) rfl ?_
  refine zt_aload_n hX 0 dX2_push_0 rfl rfl ?_
  refine zt_get_X2 hX (by decide) (zE_27 _ _) 1 (by decide) kw_152 rfl rfl dX2_push_1 ?_
  refine zt_iconst hX dX2_push_4 (v := (5 : Int32)) (by decide) ?_
  refine zt_icmp_lt hX dX2_push_5 (tgt := 12) (by decide) (fun c1 => ?_) (fun c1 => ?_)
  · replace hf := z_pos hf c1
    exact zt_sub [0, 1] rfl (t_X2_push_12 hX hY _ hf)
  · replace hf := z_neg hf c1
    refine zt_aload_n hX 0 dX2_push_8 rfl rfl ?_
    refine zt_callvV hX hY (av := []) (c_X2_dropOldest hf) dX2_push_9 rfl kw_264 kw_266 kw_0 kw_63 kw_267 ⟨rfl, rfl⟩ hy_X2_dropOldest ⟨by decide, by decide⟩ ⟨by decide, by decide⟩ (Nat.le_of_ble_eq_true rfl) (by decide) (zE_27 _ _) rfl rfl (fun σ14 hf => ?_)
    exact zt_sub [0, 1] rfl (t_X2_push_12 hX hY _ hf)

theorem dX2_pop_0 : decode cX2_pop 0 = .ok (.aload_n 0, 1) := by decide +kernel
theorem dX2_pop_1 : decode cX2_pop 1 = .ok (.getfield 17, 3) := by decide +kernel
theorem dX2_pop_4 : decode cX2_pop 4 = .ok (.ifCond .gt 4, 3) := by decide +kernel
theorem dX2_pop_7 : decode cX2_pop 7 = .ok (.return_, 1) := by decide +kernel
theorem dX2_pop_8 : decode cX2_pop 8 = .ok (.aload_n 0, 1) := by decide +kernel
theorem dX2_pop_9 : decode cX2_pop 9 = .ok (.dup, 1) := by decide +kernel
theorem dX2_pop_10 : decode cX2_pop 10 = .ok (.getfield 17, 3) := by decide +kernel
theorem dX2_pop_13 : decode cX2_pop 13 = .ok (.iconst 1, 1) := by decide +kernel
theorem dX2_pop_14 : decode cX2_pop 14 = .ok (.isub, 1) := by decide +kernel
theorem dX2_pop_15 : decode cX2_pop 15 = .ok (.putfield 17, 3) := by decide +kernel
theorem dX2_pop_18 : decode cX2_pop 18 = .ok (.aload_n 0, 1) := by decide +kernel
theorem dX2_pop_19 : decode cX2_pop 19 = .ok (.getfield 11, 3) := by decide +kernel
theorem dX2_pop_22 : decode cX2_pop 22 = .ok (.aload_n 0, 1) := by decide +kernel
theorem dX2_pop_23 : decode cX2_pop 23 = .ok (.getfield 17, 3) := by decide +kernel
theorem dX2_pop_26 : decode cX2_pop 26 = .ok (.aaload, 1) := by decide +kernel
theorem dX2_pop_27 : decode cX2_pop 27 = .ok (.astore_n 2, 1) := by decide +kernel
theorem dX2_pop_28 : decode cX2_pop 28 = .ok (.aload_n 2, 1) := by decide +kernel
theorem dX2_pop_29 : decode cX2_pop 29 = .ok (.ifnull 8, 3) := by decide +kernel
theorem dX2_pop_32 : decode cX2_pop 32 = .ok (.aload_n 1, 1) := by decide +kernel
theorem dX2_pop_33 : decode cX2_pop 33 = .ok (.aload_n 2, 1) := by decide +kernel
theorem dX2_pop_34 : decode cX2_pop 34 = .ok (.invokevirtual 25, 3) := by decide +kernel
theorem dX2_pop_37 : decode cX2_pop 37 = .ok (.return_, 1) := by decide +kernel
abbrev rm_X2_pop : Room := { frames := 2, cells := 0, slots := 0, locals := 49 }
theorem hy_X2_pop : yX2_pop.cls ≠ "java/lang/invoke/MethodHandle" ∧ yX2_pop.cls ≠ "java/lang/invoke/VarHandle" ∧ (parseMethodDescriptor yX2_pop.desc).map (fun d => d.parameters.length) = some 1 := by decide +kernel
def w_X2_pop  (σ : z_S) (Q : z_S → Prop) : Prop :=
  if 0 < (zg_i σ 27 1) then (∀ σ2 : z_S, σ2 = zs_i σ 27 1 ((zg_i σ 27 1) - (1 : Int32)) → vp_in (zg_i σ2 27 1) 5 ∧ (zg_r σ2 (zg_i σ2 27 1).toNatClampNeg = none → Q σ2) ∧ (∀ b5, zg_r σ2 (zg_i σ2 27 1).toNatClampNeg = some b5 → z_blk 1 σ2 ∧ w_X4_copyFrom 1 b5 σ2 (fun σ6 => Q σ6))) else (Q σ)
set_option maxHeartbeats 4000000 in
set_option maxRecDepth 100000 in
theorem c_X2_pop {l : Launch} {D : va_G} {cI cJ cM cS : ClassId} {n0 : Nat}  {σ : z_S} {Q : z_S → Prop} (hf : w_X2_pop  σ Q) : z_cv l D cI cJ cM cS n0 yX2_pop cX2_pop 3 rm_X2_pop 0 0 [.ref (n0 + 27), .ref (n0 + 1)] σ Q := by
  refine z_ofv (by decide +kernel) (Nat.le_of_ble_eq_true rfl) (fun p e s m args below meth c hX hY => ?_)
  unfold w_X2_pop at hf
  refine zt_L (L' := [(0, .ref (n0 + 27)), (1, .ref (n0 + 1))]) rfl ?_
  refine zt_aload_n hX 0 dX2_pop_0 rfl rfl ?_
  refine zt_get_X2 hX (by decide) (zE_27 _ _) 1 (by decide) kw_152 rfl rfl dX2_pop_1 ?_
  refine zt_if_gt hX dX2_pop_4 (tgt := 8) (by decide) (fun c1 => ?_) (fun c1 => ?_)
  · replace hf := z_pos hf c1
    refine zt_aload_n hX 0 dX2_pop_8 rfl rfl ?_
    refine zt_dup hX dX2_pop_9 rfl ?_
    refine zt_get_X2 hX (by decide) (zE_27 _ _) 1 (by decide) kw_152 rfl rfl dX2_pop_10 ?_
    refine zt_iconst hX dX2_pop_13 (v := (1 : Int32)) (by decide) ?_
    refine zt_isub hX dX2_pop_14 ?_
    refine zt_puti_X2 hX (by decide) (zE_27 _ _) 1 (by decide) kw_152 rfl rfl (Nat.le_of_ble_eq_true rfl) rfl rfl dX2_pop_15 ?_
    refine zt_nms (fun σ2 d2 => ?_)
    replace hf := hf σ2 d2
    refine zt_aload_n hX 0 dX2_pop_18 rfl rfl ?_
    refine zt_get_X2 hX (by decide) (zE_27 _ _) 0 (by decide) kw_151 rfl rfl dX2_pop_19 ?_
    refine zt_aload_n hX 0 dX2_pop_22 rfl rfl ?_
    refine zt_get_X2 hX (by decide) (zE_27 _ _) 1 (by decide) kw_152 rfl rfl dX2_pop_23 ?_
    obtain ⟨h3, hf⟩ := hf
    refine zt_aaloadS hX dX2_pop_26 h3 (fun h4 => ?_) (fun b5 h4 => ?_)
    · replace hf := hf.1 h4
      refine zt_astore_nN (L' := [(2, .null), (0, .ref (n0 + 27)), (1, .ref (n0 + 1))]) hX dX2_pop_27 rfl (by decide) rfl ?_
      refine zt_aload_nN hX 0 dX2_pop_28 rfl rfl ?_
      refine zt_ifnullN hX dX2_pop_29 (tgt := 37) (by decide) ?_
      exact zt_vret hX hY dX2_pop_37 hf
    · replace hf := hf.2 b5 h4
      refine zt_astore_n (L' := [(2, .ref (n0 + b5)), (0, .ref (n0 + 27)), (1, .ref (n0 + 1))]) hX dX2_pop_27 rfl (by decide) rfl ?_
      refine zt_aload_n hX 0 dX2_pop_28 rfl rfl ?_
      refine zt_ifnull hX dX2_pop_29 ?_
      refine zt_aload_n hX 2 dX2_pop_32 rfl rfl ?_
      refine zt_aload_n hX 0 dX2_pop_33 rfl rfl ?_
      obtain ⟨h7, hf⟩ := hf
      refine zt_callvB hX hY (av := [.ref (n0 + b5)]) (c_X4_copyFrom hf) dX2_pop_34 rfl kw_269 kw_270 kw_271 kw_62 kw_272 ⟨rfl, rfl⟩ hy_X4_copyFrom ⟨by decide, by decide⟩ ⟨by decide, by decide⟩ (Nat.le_of_ble_eq_true rfl) h7 rfl (fun σ6 hf => ?_)
      exact zt_vret hX hY dX2_pop_37 hf
  · replace hf := z_neg hf c1
    exact zt_vret hX hY dX2_pop_7 hf

theorem dX3_keep_0 : decode cX3_keep 0 = .ok (.aload_n 0, 1) := by decide +kernel
theorem dX3_keep_1 : decode cX3_keep 1 = .ok (.getfield 28, 3) := by decide +kernel
theorem dX3_keep_4 : decode cX3_keep 4 = .ok (.bipush 24, 2) := by decide +kernel
theorem dX3_keep_6 : decode cX3_keep 6 = .ok (.if_icmp .ge 43, 3) := by decide +kernel
theorem dX3_keep_9 : decode cX3_keep 9 = .ok (.aload_n 0, 1) := by decide +kernel
theorem dX3_keep_10 : decode cX3_keep 10 = .ok (.getfield 15, 3) := by decide +kernel
theorem dX3_keep_13 : decode cX3_keep 13 = .ok (.aload_n 0, 1) := by decide +kernel
theorem dX3_keep_14 : decode cX3_keep 14 = .ok (.getfield 28, 3) := by decide +kernel
theorem dX3_keep_17 : decode cX3_keep 17 = .ok (.iload_n 1, 1) := by decide +kernel
theorem dX3_keep_18 : decode cX3_keep 18 = .ok (.iastore, 1) := by decide +kernel
theorem dX3_keep_19 : decode cX3_keep 19 = .ok (.aload_n 0, 1) := by decide +kernel
theorem dX3_keep_20 : decode cX3_keep 20 = .ok (.getfield 18, 3) := by decide +kernel
theorem dX3_keep_23 : decode cX3_keep 23 = .ok (.aload_n 0, 1) := by decide +kernel
theorem dX3_keep_24 : decode cX3_keep 24 = .ok (.getfield 28, 3) := by decide +kernel
theorem dX3_keep_27 : decode cX3_keep 27 = .ok (.iload_n 2, 1) := by decide +kernel
theorem dX3_keep_28 : decode cX3_keep 28 = .ok (.iastore, 1) := by decide +kernel
theorem dX3_keep_29 : decode cX3_keep 29 = .ok (.aload_n 0, 1) := by decide +kernel
theorem dX3_keep_30 : decode cX3_keep 30 = .ok (.getfield 21, 3) := by decide +kernel
theorem dX3_keep_33 : decode cX3_keep 33 = .ok (.aload_n 0, 1) := by decide +kernel
theorem dX3_keep_34 : decode cX3_keep 34 = .ok (.getfield 28, 3) := by decide +kernel
theorem dX3_keep_37 : decode cX3_keep 37 = .ok (.iload_n 3, 1) := by decide +kernel
theorem dX3_keep_38 : decode cX3_keep 38 = .ok (.iastore, 1) := by decide +kernel
theorem dX3_keep_39 : decode cX3_keep 39 = .ok (.aload_n 0, 1) := by decide +kernel
theorem dX3_keep_40 : decode cX3_keep 40 = .ok (.dup, 1) := by decide +kernel
theorem dX3_keep_41 : decode cX3_keep 41 = .ok (.getfield 28, 3) := by decide +kernel
theorem dX3_keep_44 : decode cX3_keep 44 = .ok (.iconst 1, 1) := by decide +kernel
theorem dX3_keep_45 : decode cX3_keep 45 = .ok (.iadd, 1) := by decide +kernel
theorem dX3_keep_46 : decode cX3_keep 46 = .ok (.putfield 28, 3) := by decide +kernel
theorem dX3_keep_49 : decode cX3_keep 49 = .ok (.return_, 1) := by decide +kernel
abbrev rm_X3_keep : Room := { frames := 0, cells := 0, slots := 0, locals := 0 }
theorem hy_X3_keep : yX3_keep.cls ≠ "java/lang/invoke/MethodHandle" ∧ yX3_keep.cls ≠ "java/lang/invoke/VarHandle" ∧ (parseMethodDescriptor yX3_keep.desc).map (fun d => d.parameters.length) = some 3 := by decide +kernel
def w_X3_keep (a1 : Int32) (a2 : Int32) (a3 : Int32) (σ : z_S) (Q : z_S → Prop) : Prop :=
  if (24 : Int32) ≤ (zg_i σ 68 5) then (Q σ) else (vp_in (zg_i σ 68 5) 24 ∧ ∀ σ3 : z_S, σ3 = zs_i σ 70 (zg_i σ 68 5).toNatClampNeg a1 → vp_in (zg_i σ3 68 5) 24 ∧ ∀ σ5 : z_S, σ5 = zs_i σ3 71 (zg_i σ3 68 5).toNatClampNeg a2 → vp_in (zg_i σ5 68 5) 24 ∧ ∀ σ7 : z_S, σ7 = zs_i σ5 72 (zg_i σ5 68 5).toNatClampNeg a3 → ∀ σ8 : z_S, σ8 = zs_i σ7 68 5 ((zg_i σ7 68 5) + (1 : Int32)) → Q σ8)
set_option maxHeartbeats 4000000 in
set_option maxRecDepth 100000 in
theorem c_X3_keep {l : Launch} {D : va_G} {cI cJ cM cS : ClassId} {n0 : Nat} {a1 : Int32} {a2 : Int32} {a3 : Int32} {σ : z_S} {Q : z_S → Prop} (hf : w_X3_keep a1 a2 a3 σ Q) : z_cv l D cI cJ cM cS n0 yX3_keep cX3_keep 4 rm_X3_keep 0 0 [.ref (n0 + 68), .int a1, .int a2, .int a3] σ Q := by
  refine z_ofv (by decide +kernel) (Nat.le_of_ble_eq_true rfl) (fun p e s m args below meth c hX hY => ?_)
  unfold w_X3_keep at hf
  refine zt_L (L' := [(0, .ref (n0 + 68)), (1, .int a1), (2, .int a2), (3, .int a3)]) rfl ?_
  refine zt_aload_n hX 0 dX3_keep_0 rfl rfl ?_
  refine zt_get_X3 hX (by decide) (zE_68 _ _) 5 (by decide) kw_214 rfl rfl dX3_keep_1 ?_
  refine zt_bipush hX dX3_keep_4 (v := (24 : Int32)) (by decide) ?_
  refine zt_icmp_ge hX dX3_keep_6 (tgt := 49) (by decide) (fun c1 => ?_) (fun c1 => ?_)
  · replace hf := z_pos hf c1
    exact zt_vret hX hY dX3_keep_49 hf
  · replace hf := z_neg hf c1
    refine zt_aload_n hX 0 dX3_keep_9 rfl rfl ?_
    refine zt_get_X3 hX (by decide) (zE_68 _ _) 2 (by decide) kw_211 rfl rfl dX3_keep_10 ?_
    refine zt_aload_n hX 0 dX3_keep_13 rfl rfl ?_
    refine zt_get_X3 hX (by decide) (zE_68 _ _) 5 (by decide) kw_214 rfl rfl dX3_keep_14 ?_
    refine zt_iload_n hX 1 dX3_keep_17 rfl rfl ?_
    obtain ⟨h2, hf⟩ := hf
    refine zt_iastore hX dX3_keep_18 (by decide) rfl h2 ?_
    refine zt_nms (fun σ3 d3 => ?_)
    replace hf := hf σ3 d3
    refine zt_aload_n hX 0 dX3_keep_19 rfl rfl ?_
    refine zt_get_X3 hX (by decide) (zE_68 _ _) 3 (by decide) kw_212 rfl rfl dX3_keep_20 ?_
    refine zt_aload_n hX 0 dX3_keep_23 rfl rfl ?_
    refine zt_get_X3 hX (by decide) (zE_68 _ _) 5 (by decide) kw_214 rfl rfl dX3_keep_24 ?_
    refine zt_iload_n hX 2 dX3_keep_27 rfl rfl ?_
    obtain ⟨h4, hf⟩ := hf
    refine zt_iastore hX dX3_keep_28 (by decide) rfl h4 ?_
    refine zt_nms (fun σ5 d5 => ?_)
    replace hf := hf σ5 d5
    refine zt_aload_n hX 0 dX3_keep_29 rfl rfl ?_
    refine zt_get_X3 hX (by decide) (zE_68 _ _) 4 (by decide) kw_213 rfl rfl dX3_keep_30 ?_
    refine zt_aload_n hX 0 dX3_keep_33 rfl rfl ?_
    refine zt_get_X3 hX (by decide) (zE_68 _ _) 5 (by decide) kw_214 rfl rfl dX3_keep_34 ?_
    refine zt_iload_n hX 3 dX3_keep_37 rfl rfl ?_
    obtain ⟨h6, hf⟩ := hf
    refine zt_iastore hX dX3_keep_38 (by decide) rfl h6 ?_
    refine zt_nms (fun σ7 d7 => ?_)
    replace hf := hf σ7 d7
    refine zt_aload_n hX 0 dX3_keep_39 rfl rfl ?_
    refine zt_dup hX dX3_keep_40 rfl ?_
    refine zt_get_X3 hX (by decide) (zE_68 _ _) 5 (by decide) kw_214 rfl rfl dX3_keep_41 ?_
    refine zt_iconst hX dX3_keep_44 (v := (1 : Int32)) (by decide) ?_
    refine zt_iadd hX dX3_keep_45 ?_
    refine zt_puti_X3 hX (by decide) (zE_68 _ _) 5 (by decide) kw_214 rfl rfl (Nat.le_of_ble_eq_true rfl) rfl rfl dX3_keep_46 ?_
    refine zt_nms (fun σ8 d8 => ?_)
    replace hf := hf σ8 d8
    exact zt_vret hX hY dX3_keep_49 hf

theorem dX3_peek_0 : decode cX3_peek 0 = .ok (.aload_n 0, 1) := by decide +kernel
theorem dX3_peek_1 : decode cX3_peek 1 = .ok (.getfield 24, 3) := by decide +kernel
theorem dX3_peek_4 : decode cX3_peek 4 = .ok (.ifCond .lt 26, 3) := by decide +kernel
theorem dX3_peek_7 : decode cX3_peek 7 = .ok (.aload_n 0, 1) := by decide +kernel
theorem dX3_peek_8 : decode cX3_peek 8 = .ok (.getfield 24, 3) := by decide +kernel
theorem dX3_peek_11 : decode cX3_peek 11 = .ok (.aload_n 0, 1) := by decide +kernel
theorem dX3_peek_12 : decode cX3_peek 12 = .ok (.getfield 41, 3) := by decide +kernel
theorem dX3_peek_15 : decode cX3_peek 15 = .ok (.if_icmp .ge 15, 3) := by decide +kernel
theorem dX3_peek_18 : decode cX3_peek 18 = .ok (.aload_n 0, 1) := by decide +kernel
theorem dX3_peek_19 : decode cX3_peek 19 = .ok (.getfield 9, 3) := by decide +kernel
theorem dX3_peek_22 : decode cX3_peek 22 = .ok (.aload_n 0, 1) := by decide +kernel
theorem dX3_peek_23 : decode cX3_peek 23 = .ok (.getfield 24, 3) := by decide +kernel
theorem dX3_peek_26 : decode cX3_peek 26 = .ok (.iaload, 1) := by decide +kernel
theorem dX3_peek_27 : decode cX3_peek 27 = .ok (.goto 5, 3) := by decide +kernel
theorem dX3_peek_30 : decode cX3_peek 30 = .ok (.ldc 44, 2) := by decide +kernel
theorem dX3_peek_32 : decode cX3_peek 32 = .ok (.ireturn, 1) := by decide +kernel
abbrev rm_X3_peek : Room := { frames := 0, cells := 0, slots := 0, locals := 0 }
theorem hy_X3_peek : yX3_peek.cls ≠ "java/lang/invoke/MethodHandle" ∧ yX3_peek.cls ≠ "java/lang/invoke/VarHandle" ∧ (parseMethodDescriptor yX3_peek.desc).map (fun d => d.parameters.length) = some 0 := by decide +kernel
def w_X3_peek  (σ : z_S) (Q : Int32 → z_S → Prop) : Prop :=
  if (zg_i σ 68 6) < 0 then (Q (-2000000000 : Int32) σ) else (if (zg_i σ 68 1) ≤ (zg_i σ 68 6) then (Q (-2000000000 : Int32) σ) else (vp_in (zg_i σ 68 6) 120 ∧ Q (zg_i σ 69 (zg_i σ 68 6).toNatClampNeg) σ))
set_option maxHeartbeats 4000000 in
set_option maxRecDepth 100000 in
theorem c_X3_peek {l : Launch} {D : va_G} {cI cJ cM cS : ClassId} {n0 : Nat}  {σ : z_S} {Q : Int32 → z_S → Prop} (hf : w_X3_peek  σ Q) : z_ci l D cI cJ cM cS n0 yX3_peek cX3_peek 1 .int rm_X3_peek 0 0 [.ref (n0 + 68)] σ Q := by
  refine z_ofi (by decide +kernel) (Nat.le_of_ble_eq_true rfl) (fun p e s m args below meth c hX hY => ?_)
  unfold w_X3_peek at hf
  refine zt_L (L' := [(0, .ref (n0 + 68))]) rfl ?_
  refine zt_aload_n hX 0 dX3_peek_0 rfl rfl ?_
  refine zt_get_X3 hX (by decide) (zE_68 _ _) 6 (by decide) kw_215 rfl rfl dX3_peek_1 ?_
  refine zt_if_lt hX dX3_peek_4 (tgt := 30) (by decide) (fun c1 => ?_) (fun c1 => ?_)
  · replace hf := z_pos hf c1
    refine zt_ldc hX dX3_peek_30 kw_616 ?_
    exact zt_iret hX hY dX3_peek_32 hf
  · replace hf := z_neg hf c1
    refine zt_aload_n hX 0 dX3_peek_7 rfl rfl ?_
    refine zt_get_X3 hX (by decide) (zE_68 _ _) 6 (by decide) kw_215 rfl rfl dX3_peek_8 ?_
    refine zt_aload_n hX 0 dX3_peek_11 rfl rfl ?_
    refine zt_get_X3 hX (by decide) (zE_68 _ _) 1 (by decide) kw_209 rfl rfl dX3_peek_12 ?_
    refine zt_icmp_ge hX dX3_peek_15 (tgt := 30) (by decide) (fun c2 => ?_) (fun c2 => ?_)
    · replace hf := z_pos hf c2
      refine zt_ldc hX dX3_peek_30 kw_616 ?_
      exact zt_iret hX hY dX3_peek_32 hf
    · replace hf := z_neg hf c2
      refine zt_aload_n hX 0 dX3_peek_18 rfl rfl ?_
      refine zt_get_X3 hX (by decide) (zE_68 _ _) 0 (by decide) kw_207 rfl rfl dX3_peek_19 ?_
      refine zt_aload_n hX 0 dX3_peek_22 rfl rfl ?_
      refine zt_get_X3 hX (by decide) (zE_68 _ _) 6 (by decide) kw_215 rfl rfl dX3_peek_23 ?_
      obtain ⟨h3, hf⟩ := hf
      refine zt_iaload hX dX3_peek_26 (by decide) rfl h3 ?_
      refine zt_goto hX dX3_peek_27 (tgt := 32) (by decide) ?_
      exact zt_iret hX hY dX3_peek_32 hf

theorem dX3_skipBlanks_0 : decode cX3_skipBlanks 0 = .ok (.aload_n 0, 1) := by decide +kernel
theorem dX3_skipBlanks_1 : decode cX3_skipBlanks 1 = .ok (.getfield 24, 3) := by decide +kernel
theorem dX3_skipBlanks_4 : decode cX3_skipBlanks 4 = .ok (.aload_n 0, 1) := by decide +kernel
theorem dX3_skipBlanks_5 : decode cX3_skipBlanks 5 = .ok (.getfield 41, 3) := by decide +kernel
theorem dX3_skipBlanks_8 : decode cX3_skipBlanks 8 = .ok (.if_icmp .ge 25, 3) := by decide +kernel
theorem dX3_skipBlanks_11 : decode cX3_skipBlanks 11 = .ok (.aload_n 0, 1) := by decide +kernel
theorem dX3_skipBlanks_12 : decode cX3_skipBlanks 12 = .ok (.invokevirtual 61, 3) := by decide +kernel
theorem dX3_skipBlanks_15 : decode cX3_skipBlanks 15 = .ok (.bipush 32, 2) := by decide +kernel
theorem dX3_skipBlanks_17 : decode cX3_skipBlanks 17 = .ok (.if_icmp .ne 16, 3) := by decide +kernel
theorem dX3_skipBlanks_20 : decode cX3_skipBlanks 20 = .ok (.aload_n 0, 1) := by decide +kernel
theorem dX3_skipBlanks_21 : decode cX3_skipBlanks 21 = .ok (.dup, 1) := by decide +kernel
theorem dX3_skipBlanks_22 : decode cX3_skipBlanks 22 = .ok (.getfield 24, 3) := by decide +kernel
theorem dX3_skipBlanks_25 : decode cX3_skipBlanks 25 = .ok (.iconst 1, 1) := by decide +kernel
theorem dX3_skipBlanks_26 : decode cX3_skipBlanks 26 = .ok (.iadd, 1) := by decide +kernel
theorem dX3_skipBlanks_27 : decode cX3_skipBlanks 27 = .ok (.putfield 24, 3) := by decide +kernel
theorem dX3_skipBlanks_30 : decode cX3_skipBlanks 30 = .ok (.goto (-30), 3) := by decide +kernel
theorem dX3_skipBlanks_33 : decode cX3_skipBlanks 33 = .ok (.return_, 1) := by decide +kernel
abbrev rm_X3_skipBlanks : Room := { frames := 1, cells := 0, slots := 0, locals := 20 }
theorem hy_X3_skipBlanks : yX3_skipBlanks.cls ≠ "java/lang/invoke/MethodHandle" ∧ yX3_skipBlanks.cls ≠ "java/lang/invoke/VarHandle" ∧ (parseMethodDescriptor yX3_skipBlanks.desc).map (fun d => d.parameters.length) = some 0 := by decide +kernel
def wb_X3_skipBlanks_0  (Q : z_S → Prop) (k0 : z_S → Prop)  (σ : z_S) : Prop :=
  if (zg_i σ 68 1) ≤ (zg_i σ 68 6) then (Q σ) else (w_X3_peek σ (fun r2 σ3 => if r2 = (32 : Int32) then (∀ σ5 : z_S, σ5 = zs_i σ3 68 6 ((zg_i σ3 68 6) + (1 : Int32)) → k0 σ5) else (Q σ3)))
def w_X3_skipBlanks_0  (Q : z_S → Prop) : Nat → z_S → Prop
  | 0 => fun _ => False
  | n + 1 => wb_X3_skipBlanks_0  Q (w_X3_skipBlanks_0  Q n)
def w_X3_skipBlanks  (σ : z_S) (Q : z_S → Prop) : Prop :=
  w_X3_skipBlanks_0 Q 400 σ
set_option maxHeartbeats 4000000 in
set_option maxRecDepth 100000 in
theorem t_X3_skipBlanks_0 {l : Launch} {D : va_G} {cI cJ cM cS : ClassId} {n0 : Nat} {p : Program} {e : Env} {s : State} {m : MethodId} {args : Array Value} {below : List Frame} {meth : Method} {c : Code}  {Q : z_S → Prop} (hX : z_X D cI cJ cM cS p s m args c cX3_skipBlanks 1 yX3_skipBlanks.cls) (hY : z_Y s meth none)  : ∀ (n : Nat)  (σ : z_S), w_X3_skipBlanks_0  Q n  σ → z_t D cI cJ cM cS n0 p l e rm_X3_skipBlanks s m args below meth c 1 (MQ below (va_Qv Q (fun u t => z_Bq D cI cJ cM cS n0 u t) (z_Ab n0)) args s 0 0 (z_Ab n0)) 0 0 0 [(0, .ref (n0 + 68))] [] σ := by
  intro n
  induction n with
  | zero => intro  _ hf; exact hf.elim
  | succ n ih0 =>
    intro  σ hf
    have hf : wb_X3_skipBlanks_0  Q (w_X3_skipBlanks_0  Q n)  σ := hf
    unfold wb_X3_skipBlanks_0 at hf
    refine zt_aload_n hX 0 dX3_skipBlanks_0 rfl rfl ?_
    refine zt_get_X3 hX (by decide) (zE_68 _ _) 6 (by decide) kw_215 rfl rfl dX3_skipBlanks_1 ?_
    refine zt_aload_n hX 0 dX3_skipBlanks_4 rfl rfl ?_
    refine zt_get_X3 hX (by decide) (zE_68 _ _) 1 (by decide) kw_209 rfl rfl dX3_skipBlanks_5 ?_
    refine zt_icmp_ge hX dX3_skipBlanks_8 (tgt := 33) (by decide) (fun c1 => ?_) (fun c1 => ?_)
    · replace hf := z_pos hf c1
      exact zt_vret hX hY dX3_skipBlanks_33 hf
    · replace hf := z_neg hf c1
      refine zt_aload_n hX 0 dX3_skipBlanks_11 rfl rfl ?_
      refine zt_calliV hX hY (av := []) (c_X3_peek hf) dX3_skipBlanks_12 rfl kw_612 kw_614 kw_17 kw_66 kw_615 ⟨rfl, rfl⟩ hy_X3_peek ⟨by decide, by decide⟩ ⟨by decide, by decide⟩ (Nat.le_of_ble_eq_true rfl) (by decide) (zE_68 _ _) rfl rfl (fun r2 σ3 hf => ?_)
      refine zt_bipush hX dX3_skipBlanks_15 (v := (32 : Int32)) (by decide) ?_
      refine zt_icmp_ne hX dX3_skipBlanks_17 (tgt := 33) (by decide) (fun c4 => ?_) (fun c4 => ?_)
      · replace hf := z_neg hf c4
        exact zt_vret hX hY dX3_skipBlanks_33 hf
      · replace hf := z_pos hf c4
        refine zt_aload_n hX 0 dX3_skipBlanks_20 rfl rfl ?_
        refine zt_dup hX dX3_skipBlanks_21 rfl ?_
        refine zt_get_X3 hX (by decide) (zE_68 _ _) 6 (by decide) kw_215 rfl rfl dX3_skipBlanks_22 ?_
        refine zt_iconst hX dX3_skipBlanks_25 (v := (1 : Int32)) (by decide) ?_
        refine zt_iadd hX dX3_skipBlanks_26 ?_
        refine zt_puti_X3 hX (by decide) (zE_68 _ _) 6 (by decide) kw_215 rfl rfl (Nat.le_of_ble_eq_true rfl) rfl rfl dX3_skipBlanks_27 ?_
        refine zt_nms (fun σ5 d5 => ?_)
        replace hf := hf σ5 d5
        refine zt_goto hX dX3_skipBlanks_30 (tgt := 0) (by decide) ?_
        exact zt_sub [0] rfl (ih0 _ hf)
set_option maxHeartbeats 4000000 in
set_option maxRecDepth 100000 in
theorem c_X3_skipBlanks {l : Launch} {D : va_G} {cI cJ cM cS : ClassId} {n0 : Nat}  {σ : z_S} {Q : z_S → Prop} (hf : w_X3_skipBlanks  σ Q) : z_cv l D cI cJ cM cS n0 yX3_skipBlanks cX3_skipBlanks 1 rm_X3_skipBlanks 0 0 [.ref (n0 + 68)] σ Q := by
  refine z_ofv (by decide +kernel) (Nat.le_of_ble_eq_true rfl) (fun p e s m args below meth c hX hY => ?_)
  unfold w_X3_skipBlanks at hf
  refine zt_L (L' := [(0, .ref (n0 + 68))]) rfl ?_
  exact zt_sub [0] rfl (t_X3_skipBlanks_0 hX hY 400 _ hf)

theorem dX3_isDigit_0 : decode cX3_isDigit 0 = .ok (.iload_n 0, 1) := by decide +kernel
theorem dX3_isDigit_1 : decode cX3_isDigit 1 = .ok (.bipush 48, 2) := by decide +kernel
theorem dX3_isDigit_3 : decode cX3_isDigit 3 = .ok (.if_icmp .lt 13, 3) := by decide +kernel
theorem dX3_isDigit_6 : decode cX3_isDigit 6 = .ok (.iload_n 0, 1) := by decide +kernel
theorem dX3_isDigit_7 : decode cX3_isDigit 7 = .ok (.bipush 57, 2) := by decide +kernel
theorem dX3_isDigit_9 : decode cX3_isDigit 9 = .ok (.if_icmp .gt 7, 3) := by decide +kernel
theorem dX3_isDigit_12 : decode cX3_isDigit 12 = .ok (.iconst 1, 1) := by decide +kernel
theorem dX3_isDigit_13 : decode cX3_isDigit 13 = .ok (.goto 4, 3) := by decide +kernel
theorem dX3_isDigit_16 : decode cX3_isDigit 16 = .ok (.iconst 0, 1) := by decide +kernel
theorem dX3_isDigit_17 : decode cX3_isDigit 17 = .ok (.ireturn, 1) := by decide +kernel
abbrev rm_X3_isDigit : Room := { frames := 0, cells := 0, slots := 0, locals := 0 }
theorem hy_X3_isDigit : yX3_isDigit.cls ≠ "java/lang/invoke/MethodHandle" ∧ yX3_isDigit.cls ≠ "java/lang/invoke/VarHandle" ∧ (parseMethodDescriptor yX3_isDigit.desc).map (fun d => d.parameters.length) = some 1 := by decide +kernel
def w_X3_isDigit (a0 : Int32) (σ : z_S) (Q : Int32 → z_S → Prop) : Prop :=
  if a0 < (48 : Int32) then (((0 : Int32) = 0 ∨ (0 : Int32) = 1) ∧ Q (0 : Int32) σ) else (if (57 : Int32) < a0 then (((0 : Int32) = 0 ∨ (0 : Int32) = 1) ∧ Q (0 : Int32) σ) else (((1 : Int32) = 0 ∨ (1 : Int32) = 1) ∧ Q (1 : Int32) σ))
set_option maxHeartbeats 4000000 in
set_option maxRecDepth 100000 in
theorem c_X3_isDigit {l : Launch} {D : va_G} {cI cJ cM cS : ClassId} {n0 : Nat} {a0 : Int32} {σ : z_S} {Q : Int32 → z_S → Prop} (hf : w_X3_isDigit a0 σ Q) : z_ci l D cI cJ cM cS n0 yX3_isDigit cX3_isDigit 1 .boolean rm_X3_isDigit 0 0 [.int a0] σ Q := by
  refine z_ofi (by decide +kernel) (Nat.le_of_ble_eq_true rfl) (fun p e s m args below meth c hX hY => ?_)
  unfold w_X3_isDigit at hf
  refine zt_L (L' := [(0, .int a0)]) rfl ?_
  refine zt_iload_n hX 0 dX3_isDigit_0 rfl rfl ?_
  refine zt_bipush hX dX3_isDigit_1 (v := (48 : Int32)) (by decide) ?_
  refine zt_icmp_lt hX dX3_isDigit_3 (tgt := 16) (by decide) (fun c1 => ?_) (fun c1 => ?_)
  · replace hf := z_pos hf c1
    refine zt_iconst hX dX3_isDigit_16 (v := (0 : Int32)) (by decide) ?_
    exact zt_zret hX hY dX3_isDigit_17 hf
  · replace hf := z_neg hf c1
    refine zt_iload_n hX 0 dX3_isDigit_6 rfl rfl ?_
    refine zt_bipush hX dX3_isDigit_7 (v := (57 : Int32)) (by decide) ?_
    refine zt_icmp_gt hX dX3_isDigit_9 (tgt := 16) (by decide) (fun c2 => ?_) (fun c2 => ?_)
    · replace hf := z_pos hf c2
      refine zt_iconst hX dX3_isDigit_16 (v := (0 : Int32)) (by decide) ?_
      exact zt_zret hX hY dX3_isDigit_17 hf
    · replace hf := z_neg hf c2
      refine zt_iconst hX dX3_isDigit_12 (v := (1 : Int32)) (by decide) ?_
      refine zt_goto hX dX3_isDigit_13 (tgt := 17) (by decide) ?_
      exact zt_zret hX hY dX3_isDigit_17 hf

theorem dX3_takeNumber_0 : decode cX3_takeNumber 0 = .ok (.aload_n 0, 1) := by decide +kernel
theorem dX3_takeNumber_1 : decode cX3_takeNumber 1 = .ok (.invokevirtual 38, 3) := by decide +kernel
theorem dX3_takeNumber_4 : decode cX3_takeNumber 4 = .ok (.aload_n 0, 1) := by decide +kernel
theorem dX3_takeNumber_5 : decode cX3_takeNumber 5 = .ok (.getfield 24, 3) := by decide +kernel
theorem dX3_takeNumber_8 : decode cX3_takeNumber 8 = .ok (.istore_n 2, 1) := by decide +kernel
theorem dX3_takeNumber_9 : decode cX3_takeNumber 9 = .ok (.iconst 0, 1) := by decide +kernel
theorem dX3_takeNumber_10 : decode cX3_takeNumber 10 = .ok (.istore_n 3, 1) := by decide +kernel
theorem dX3_takeNumber_11 : decode cX3_takeNumber 11 = .ok (.aload_n 0, 1) := by decide +kernel
theorem dX3_takeNumber_12 : decode cX3_takeNumber 12 = .ok (.getfield 24, 3) := by decide +kernel
theorem dX3_takeNumber_15 : decode cX3_takeNumber 15 = .ok (.aload_n 0, 1) := by decide +kernel
theorem dX3_takeNumber_16 : decode cX3_takeNumber 16 = .ok (.getfield 41, 3) := by decide +kernel
theorem dX3_takeNumber_19 : decode cX3_takeNumber 19 = .ok (.if_icmp .ge 50, 3) := by decide +kernel
theorem dX3_takeNumber_22 : decode cX3_takeNumber 22 = .ok (.aload_n 0, 1) := by decide +kernel
theorem dX3_takeNumber_23 : decode cX3_takeNumber 23 = .ok (.invokevirtual 61, 3) := by decide +kernel
theorem dX3_takeNumber_26 : decode cX3_takeNumber 26 = .ok (.invokestatic 72, 3) := by decide +kernel
theorem dX3_takeNumber_29 : decode cX3_takeNumber 29 = .ok (.ifCond .eq 40, 3) := by decide +kernel
theorem dX3_takeNumber_32 : decode cX3_takeNumber 32 = .ok (.aload_n 0, 1) := by decide +kernel
theorem dX3_takeNumber_33 : decode cX3_takeNumber 33 = .ok (.getfield 24, 3) := by decide +kernel
theorem dX3_takeNumber_36 : decode cX3_takeNumber 36 = .ok (.iload_n 2, 1) := by decide +kernel
theorem dX3_takeNumber_37 : decode cX3_takeNumber 37 = .ok (.isub, 1) := by decide +kernel
theorem dX3_takeNumber_38 : decode cX3_takeNumber 38 = .ok (.bipush 6, 2) := by decide +kernel
theorem dX3_takeNumber_40 : decode cX3_takeNumber 40 = .ok (.if_icmp .ge 16, 3) := by decide +kernel
theorem dX3_takeNumber_43 : decode cX3_takeNumber 43 = .ok (.iload_n 3, 1) := by decide +kernel
theorem dX3_takeNumber_44 : decode cX3_takeNumber 44 = .ok (.bipush 10, 2) := by decide +kernel
theorem dX3_takeNumber_46 : decode cX3_takeNumber 46 = .ok (.imul, 1) := by decide +kernel
theorem dX3_takeNumber_47 : decode cX3_takeNumber 47 = .ok (.aload_n 0, 1) := by decide +kernel
theorem dX3_takeNumber_48 : decode cX3_takeNumber 48 = .ok (.invokevirtual 61, 3) := by decide +kernel
theorem dX3_takeNumber_51 : decode cX3_takeNumber 51 = .ok (.iadd, 1) := by decide +kernel
theorem dX3_takeNumber_52 : decode cX3_takeNumber 52 = .ok (.bipush 48, 2) := by decide +kernel
theorem dX3_takeNumber_54 : decode cX3_takeNumber 54 = .ok (.isub, 1) := by decide +kernel
theorem dX3_takeNumber_55 : decode cX3_takeNumber 55 = .ok (.istore_n 3, 1) := by decide +kernel
theorem dX3_takeNumber_56 : decode cX3_takeNumber 56 = .ok (.aload_n 0, 1) := by decide +kernel
theorem dX3_takeNumber_57 : decode cX3_takeNumber 57 = .ok (.dup, 1) := by decide +kernel
theorem dX3_takeNumber_58 : decode cX3_takeNumber 58 = .ok (.getfield 24, 3) := by decide +kernel
theorem dX3_takeNumber_61 : decode cX3_takeNumber 61 = .ok (.iconst 1, 1) := by decide +kernel
theorem dX3_takeNumber_62 : decode cX3_takeNumber 62 = .ok (.iadd, 1) := by decide +kernel
theorem dX3_takeNumber_63 : decode cX3_takeNumber 63 = .ok (.putfield 24, 3) := by decide +kernel
theorem dX3_takeNumber_66 : decode cX3_takeNumber 66 = .ok (.goto (-55), 3) := by decide +kernel
theorem dX3_takeNumber_69 : decode cX3_takeNumber 69 = .ok (.aload_n 0, 1) := by decide +kernel
theorem dX3_takeNumber_70 : decode cX3_takeNumber 70 = .ok (.getfield 24, 3) := by decide +kernel
theorem dX3_takeNumber_73 : decode cX3_takeNumber 73 = .ok (.iload_n 2, 1) := by decide +kernel
theorem dX3_takeNumber_74 : decode cX3_takeNumber 74 = .ok (.isub, 1) := by decide +kernel
theorem dX3_takeNumber_75 : decode cX3_takeNumber 75 = .ok (.istore 4, 2) := by decide +kernel
theorem dX3_takeNumber_77 : decode cX3_takeNumber 77 = .ok (.iload 4, 2) := by decide +kernel
theorem dX3_takeNumber_79 : decode cX3_takeNumber 79 = .ok (.ifCond .eq 15, 3) := by decide +kernel
theorem dX3_takeNumber_82 : decode cX3_takeNumber 82 = .ok (.iload 4, 2) := by decide +kernel
theorem dX3_takeNumber_84 : decode cX3_takeNumber 84 = .ok (.bipush 6, 2) := by decide +kernel
theorem dX3_takeNumber_86 : decode cX3_takeNumber 86 = .ok (.if_icmp .gt 8, 3) := by decide +kernel
theorem dX3_takeNumber_89 : decode cX3_takeNumber 89 = .ok (.iload_n 3, 1) := by decide +kernel
theorem dX3_takeNumber_90 : decode cX3_takeNumber 90 = .ok (.iload_n 1, 1) := by decide +kernel
theorem dX3_takeNumber_91 : decode cX3_takeNumber 91 = .ok (.if_icmp .lt 11, 3) := by decide +kernel
theorem dX3_takeNumber_94 : decode cX3_takeNumber 94 = .ok (.aload_n 0, 1) := by decide +kernel
theorem dX3_takeNumber_95 : decode cX3_takeNumber 95 = .ok (.iload_n 2, 1) := by decide +kernel
theorem dX3_takeNumber_96 : decode cX3_takeNumber 96 = .ok (.putfield 35, 3) := by decide +kernel
theorem dX3_takeNumber_99 : decode cX3_takeNumber 99 = .ok (.ldc 44, 2) := by decide +kernel
theorem dX3_takeNumber_101 : decode cX3_takeNumber 101 = .ok (.ireturn, 1) := by decide +kernel
theorem dX3_takeNumber_102 : decode cX3_takeNumber 102 = .ok (.iload_n 3, 1) := by decide +kernel
theorem dX3_takeNumber_103 : decode cX3_takeNumber 103 = .ok (.ireturn, 1) := by decide +kernel
abbrev rm_X3_takeNumber : Room := { frames := 2, cells := 0, slots := 0, locals := 40 }
theorem hy_X3_takeNumber : yX3_takeNumber.cls ≠ "java/lang/invoke/MethodHandle" ∧ yX3_takeNumber.cls ≠ "java/lang/invoke/VarHandle" ∧ (parseMethodDescriptor yX3_takeNumber.desc).map (fun d => d.parameters.length) = some 1 := by decide +kernel
def w_X3_takeNumber_94  (Q : Int32 → z_S → Prop) (x2 : Int32) (σ : z_S) : Prop :=
  ∀ σ7 : z_S, σ7 = zs_i σ 68 7 x2 → Q (-2000000000 : Int32) σ7
def w_X3_takeNumber_69  (Q : Int32 → z_S → Prop) (x1 : Int32) (x2 : Int32) (x3 : Int32) (σ : z_S) : Prop :=
  ∀ y5 : Int32, y5 = ((zg_i σ 68 6) - x2) → if y5 = 0 then (w_X3_takeNumber_94 Q x2 σ) else (if (6 : Int32) < y5 then (w_X3_takeNumber_94 Q x2 σ) else (if x3 < x1 then (Q x3 σ) else (w_X3_takeNumber_94 Q x2 σ)))
def w_X3_takeNumber_56 (k11 : Int32 → Int32 → Int32 → z_S → Prop) (Q : Int32 → z_S → Prop) (x1 : Int32) (x2 : Int32) (x3 : Int32) (σ : z_S) : Prop :=
  ∀ σ16 : z_S, σ16 = zs_i σ 68 6 ((zg_i σ 68 6) + (1 : Int32)) → k11 x1 x2 x3 σ16
def wb_X3_takeNumber_11  (Q : Int32 → z_S → Prop) (k11 : Int32 → Int32 → Int32 → z_S → Prop) (x1 : Int32) (x2 : Int32) (x3 : Int32) (σ : z_S) : Prop :=
  if (zg_i σ 68 1) ≤ (zg_i σ 68 6) then (w_X3_takeNumber_69 Q x1 x2 x3 σ) else (w_X3_peek σ (fun r10 σ11 => w_X3_isDigit r10 σ11 (fun r12 σ13 => if r12 = 0 then (w_X3_takeNumber_69 Q x1 x2 x3 σ13) else (if (6 : Int32) ≤ ((zg_i σ13 68 6) - x2) then (w_X3_takeNumber_56 k11 Q x1 x2 x3 σ13) else (w_X3_peek σ13 (fun r17 σ18 => ∀ y19 : Int32, y19 = (((x3 * (10 : Int32)) + r17) - (48 : Int32)) → w_X3_takeNumber_56 k11 Q x1 x2 y19 σ18))))))
def w_X3_takeNumber_11  (Q : Int32 → z_S → Prop) : Nat → Int32 → Int32 → Int32 → z_S → Prop
  | 0 => fun _ _ _ _ => False
  | n + 1 => wb_X3_takeNumber_11  Q (w_X3_takeNumber_11  Q n)
def w_X3_takeNumber (a1 : Int32) (σ : z_S) (Q : Int32 → z_S → Prop) : Prop :=
  w_X3_skipBlanks σ (fun σ2 => ∀ y3 : Int32, y3 = (zg_i σ2 68 6) → w_X3_takeNumber_11 Q 400 a1 y3 (0 : Int32) σ2)
set_option maxHeartbeats 4000000 in
set_option maxRecDepth 100000 in
theorem t_X3_takeNumber_94 {l : Launch} {D : va_G} {cI cJ cM cS : ClassId} {n0 : Nat} {p : Program} {e : Env} {s : State} {m : MethodId} {args : Array Value} {below : List Frame} {meth : Method} {c : Code}  {Q : Int32 → z_S → Prop} (hX : z_X D cI cJ cM cS p s m args c cX3_takeNumber 5 yX3_takeNumber.cls) (hY : z_Y s meth (some .int))  (x2 : Int32) (σ : z_S) (hf : w_X3_takeNumber_94  Q x2 σ) : z_t D cI cJ cM cS n0 p l e rm_X3_takeNumber s m args below meth c 5 (MQ below (va_Qi Q (fun u t => z_Bq D cI cJ cM cS n0 u t) (z_Ab n0)) args s 0 0 (z_Ab n0)) 0 0 94 [(0, .ref (n0 + 68)), (2, .int x2)] [] σ := by
  unfold w_X3_takeNumber_94 at hf
  refine zt_aload_n hX 0 dX3_takeNumber_94 rfl rfl ?_
  refine zt_iload_n hX 1 dX3_takeNumber_95 rfl rfl ?_
  refine zt_puti_X3 hX (by decide) (zE_68 _ _) 7 (by decide) kw_216 rfl rfl (Nat.le_of_ble_eq_true rfl) rfl rfl dX3_takeNumber_96 ?_
  refine zt_nms (fun σ7 d7 => ?_)
  replace hf := hf σ7 d7
  refine zt_ldc hX dX3_takeNumber_99 kw_616 ?_
  exact zt_iret hX hY dX3_takeNumber_101 hf
set_option maxHeartbeats 4000000 in
set_option maxRecDepth 100000 in
theorem t_X3_takeNumber_69 {l : Launch} {D : va_G} {cI cJ cM cS : ClassId} {n0 : Nat} {p : Program} {e : Env} {s : State} {m : MethodId} {args : Array Value} {below : List Frame} {meth : Method} {c : Code}  {Q : Int32 → z_S → Prop} (hX : z_X D cI cJ cM cS p s m args c cX3_takeNumber 5 yX3_takeNumber.cls) (hY : z_Y s meth (some .int))  (x1 : Int32) (x2 : Int32) (x3 : Int32) (σ : z_S) (hf : w_X3_takeNumber_69  Q x1 x2 x3 σ) : z_t D cI cJ cM cS n0 p l e rm_X3_takeNumber s m args below meth c 5 (MQ below (va_Qi Q (fun u t => z_Bq D cI cJ cM cS n0 u t) (z_Ab n0)) args s 0 0 (z_Ab n0)) 0 0 69 [(0, .ref (n0 + 68)), (1, .int x1), (2, .int x2), (3, .int x3)] [] σ := by
  unfold w_X3_takeNumber_69 at hf
  refine zt_aload_n hX 0 dX3_takeNumber_69 rfl rfl ?_
  refine zt_get_X3 hX (by decide) (zE_68 _ _) 6 (by decide) kw_215 rfl rfl dX3_takeNumber_70 ?_
  refine zt_iload_n hX 2 dX3_takeNumber_73 rfl rfl ?_
  refine zt_isub hX dX3_takeNumber_74 ?_
  refine zt_nmi (fun y5 e5 => ?_)
  replace hf := hf y5 e5
  refine zt_istore (L' := [(4, .int y5), (0, .ref (n0 + 68)), (1, .int x1), (2, .int x2), (3, .int x3)]) hX dX3_takeNumber_75 (by decide) rfl ?_
  refine zt_iload hX 0 dX3_takeNumber_77 rfl ?_
  refine zt_if_eq hX dX3_takeNumber_79 (tgt := 94) (by decide) (fun c6 => ?_) (fun c6 => ?_)
  · replace hf := z_pos hf c6
    exact zt_sub [1, 3] rfl (t_X3_takeNumber_94 hX hY _ _ hf)
  · replace hf := z_neg hf c6
    refine zt_iload hX 0 dX3_takeNumber_82 rfl ?_
    refine zt_bipush hX dX3_takeNumber_84 (v := (6 : Int32)) (by decide) ?_
    refine zt_icmp_gt hX dX3_takeNumber_86 (tgt := 94) (by decide) (fun c8 => ?_) (fun c8 => ?_)
    · replace hf := z_pos hf c8
      exact zt_sub [1, 3] rfl (t_X3_takeNumber_94 hX hY _ _ hf)
    · replace hf := z_neg hf c8
      refine zt_iload_n hX 4 dX3_takeNumber_89 rfl rfl ?_
      refine zt_iload_n hX 2 dX3_takeNumber_90 rfl rfl ?_
      refine zt_icmp_lt hX dX3_takeNumber_91 (tgt := 102) (by decide) (fun c9 => ?_) (fun c9 => ?_)
      · replace hf := z_pos hf c9
        refine zt_iload_n hX 4 dX3_takeNumber_102 rfl rfl ?_
        exact zt_iret hX hY dX3_takeNumber_103 hf
      · replace hf := z_neg hf c9
        exact zt_sub [1, 3] rfl (t_X3_takeNumber_94 hX hY _ _ hf)
set_option maxHeartbeats 4000000 in
set_option maxRecDepth 100000 in
theorem t_X3_takeNumber_56 {l : Launch} {D : va_G} {cI cJ cM cS : ClassId} {n0 : Nat} {p : Program} {e : Env} {s : State} {m : MethodId} {args : Array Value} {below : List Frame} {meth : Method} {c : Code} {k11 : Int32 → Int32 → Int32 → z_S → Prop} {Q : Int32 → z_S → Prop} (hX : z_X D cI cJ cM cS p s m args c cX3_takeNumber 5 yX3_takeNumber.cls) (hY : z_Y s meth (some .int)) (hk11 : ∀ (x1 : Int32) (x2 : Int32) (x3 : Int32) (σ : z_S), k11 x1 x2 x3 σ → z_t D cI cJ cM cS n0 p l e rm_X3_takeNumber s m args below meth c 5 (MQ below (va_Qi Q (fun u t => z_Bq D cI cJ cM cS n0 u t) (z_Ab n0)) args s 0 0 (z_Ab n0)) 0 0 11 [(0, .ref (n0 + 68)), (1, .int x1), (2, .int x2), (3, .int x3)] [] σ) (x1 : Int32) (x2 : Int32) (x3 : Int32) (σ : z_S) (hf : w_X3_takeNumber_56 k11 Q x1 x2 x3 σ) : z_t D cI cJ cM cS n0 p l e rm_X3_takeNumber s m args below meth c 5 (MQ below (va_Qi Q (fun u t => z_Bq D cI cJ cM cS n0 u t) (z_Ab n0)) args s 0 0 (z_Ab n0)) 0 0 56 [(0, .ref (n0 + 68)), (1, .int x1), (2, .int x2), (3, .int x3)] [] σ := by
  unfold w_X3_takeNumber_56 at hf
  refine zt_aload_n hX 0 dX3_takeNumber_56 rfl rfl ?_
  refine zt_dup hX dX3_takeNumber_57 rfl ?_
  refine zt_get_X3 hX (by decide) (zE_68 _ _) 6 (by decide) kw_215 rfl rfl dX3_takeNumber_58 ?_
  refine zt_iconst hX dX3_takeNumber_61 (v := (1 : Int32)) (by decide) ?_
  refine zt_iadd hX dX3_takeNumber_62 ?_
  refine zt_puti_X3 hX (by decide) (zE_68 _ _) 6 (by decide) kw_215 rfl rfl (Nat.le_of_ble_eq_true rfl) rfl rfl dX3_takeNumber_63 ?_
  refine zt_nms (fun σ16 d16 => ?_)
  replace hf := hf σ16 d16
  refine zt_goto hX dX3_takeNumber_66 (tgt := 11) (by decide) ?_
  exact zt_sub [0, 1, 2, 3] rfl (hk11 _ _ _ _ hf)
set_option maxHeartbeats 4000000 in
set_option maxRecDepth 100000 in
theorem t_X3_takeNumber_11 {l : Launch} {D : va_G} {cI cJ cM cS : ClassId} {n0 : Nat} {p : Program} {e : Env} {s : State} {m : MethodId} {args : Array Value} {below : List Frame} {meth : Method} {c : Code}  {Q : Int32 → z_S → Prop} (hX : z_X D cI cJ cM cS p s m args c cX3_takeNumber 5 yX3_takeNumber.cls) (hY : z_Y s meth (some .int))  : ∀ (n : Nat) (x1 : Int32) (x2 : Int32) (x3 : Int32) (σ : z_S), w_X3_takeNumber_11  Q n x1 x2 x3 σ → z_t D cI cJ cM cS n0 p l e rm_X3_takeNumber s m args below meth c 5 (MQ below (va_Qi Q (fun u t => z_Bq D cI cJ cM cS n0 u t) (z_Ab n0)) args s 0 0 (z_Ab n0)) 0 0 11 [(0, .ref (n0 + 68)), (1, .int x1), (2, .int x2), (3, .int x3)] [] σ := by
  intro n
  induction n with
  | zero => intro _ _ _ _ hf; exact hf.elim
  | succ n ih11 =>
    intro x1 x2 x3 σ hf
    have hf : wb_X3_takeNumber_11  Q (w_X3_takeNumber_11  Q n) x1 x2 x3 σ := hf
    unfold wb_X3_takeNumber_11 at hf
    refine zt_aload_n hX 0 dX3_takeNumber_11 rfl rfl ?_
    refine zt_get_X3 hX (by decide) (zE_68 _ _) 6 (by decide) kw_215 rfl rfl dX3_takeNumber_12 ?_
    refine zt_aload_n hX 0 dX3_takeNumber_15 rfl rfl ?_
    refine zt_get_X3 hX (by decide) (zE_68 _ _) 1 (by decide) kw_209 rfl rfl dX3_takeNumber_16 ?_
    refine zt_icmp_ge hX dX3_takeNumber_19 (tgt := 69) (by decide) (fun c4 => ?_) (fun c4 => ?_)
    · replace hf := z_pos hf c4
      exact zt_sub [0, 1, 2, 3] rfl (t_X3_takeNumber_69 hX hY _ _ _ _ hf)
    · replace hf := z_neg hf c4
      refine zt_aload_n hX 0 dX3_takeNumber_22 rfl rfl ?_
      refine zt_calliV hX hY (av := []) (c_X3_peek hf) dX3_takeNumber_23 rfl kw_612 kw_614 kw_17 kw_66 kw_615 ⟨rfl, rfl⟩ hy_X3_peek ⟨by decide, by decide⟩ ⟨by decide, by decide⟩ (Nat.le_of_ble_eq_true rfl) (by decide) (zE_68 _ _) rfl rfl (fun r10 σ11 hf => ?_)
      refine zt_calliS hX hY (av := [.int r10]) (c_X3_isDigit hf) dX3_takeNumber_26 rfl kw_617 kw_618 kw_66 kw_619 ⟨rfl, rfl⟩ hy_X3_isDigit ⟨by decide, by decide⟩ ⟨by decide, by decide⟩ (Nat.le_of_ble_eq_true rfl) (fun r12 σ13 hf => ?_)
      refine zt_if_eq hX dX3_takeNumber_29 (tgt := 69) (by decide) (fun c14 => ?_) (fun c14 => ?_)
      · replace hf := z_pos hf c14
        exact zt_sub [0, 1, 2, 3] rfl (t_X3_takeNumber_69 hX hY _ _ _ _ hf)
      · replace hf := z_neg hf c14
        refine zt_aload_n hX 0 dX3_takeNumber_32 rfl rfl ?_
        refine zt_get_X3 hX (by decide) (zE_68 _ _) 6 (by decide) kw_215 rfl rfl dX3_takeNumber_33 ?_
        refine zt_iload_n hX 2 dX3_takeNumber_36 rfl rfl ?_
        refine zt_isub hX dX3_takeNumber_37 ?_
        refine zt_bipush hX dX3_takeNumber_38 (v := (6 : Int32)) (by decide) ?_
        refine zt_icmp_ge hX dX3_takeNumber_40 (tgt := 56) (by decide) (fun c15 => ?_) (fun c15 => ?_)
        · replace hf := z_pos hf c15
          exact zt_sub [0, 1, 2, 3] rfl (t_X3_takeNumber_56 hX hY ih11 _ _ _ _ hf)
        · replace hf := z_neg hf c15
          refine zt_iload_n hX 3 dX3_takeNumber_43 rfl rfl ?_
          refine zt_bipush hX dX3_takeNumber_44 (v := (10 : Int32)) (by decide) ?_
          refine zt_imul hX dX3_takeNumber_46 ?_
          refine zt_aload_n hX 0 dX3_takeNumber_47 rfl rfl ?_
          refine zt_calliV hX hY (av := []) (c_X3_peek hf) dX3_takeNumber_48 rfl kw_612 kw_614 kw_17 kw_66 kw_615 ⟨rfl, rfl⟩ hy_X3_peek ⟨by decide, by decide⟩ ⟨by decide, by decide⟩ (Nat.le_of_ble_eq_true rfl) (by decide) (zE_68 _ _) rfl rfl (fun r17 σ18 hf => ?_)
          refine zt_iadd hX dX3_takeNumber_51 ?_
          refine zt_bipush hX dX3_takeNumber_52 (v := (48 : Int32)) (by decide) ?_
          refine zt_isub hX dX3_takeNumber_54 ?_
          refine zt_nmi (fun y19 e19 => ?_)
          replace hf := hf y19 e19
          refine zt_istore_n (L' := [(3, .int y19), (0, .ref (n0 + 68)), (1, .int x1), (2, .int x2)]) hX dX3_takeNumber_55 rfl (by decide) rfl ?_
          exact zt_sub [1, 2, 3, 0] rfl (t_X3_takeNumber_56 hX hY ih11 _ _ _ _ hf)
set_option maxHeartbeats 4000000 in
set_option maxRecDepth 100000 in
theorem c_X3_takeNumber {l : Launch} {D : va_G} {cI cJ cM cS : ClassId} {n0 : Nat} {a1 : Int32} {σ : z_S} {Q : Int32 → z_S → Prop} (hf : w_X3_takeNumber a1 σ Q) : z_ci l D cI cJ cM cS n0 yX3_takeNumber cX3_takeNumber 5 .int rm_X3_takeNumber 0 0 [.ref (n0 + 68), .int a1] σ Q := by
  refine z_ofi (by decide +kernel) (Nat.le_of_ble_eq_true rfl) (fun p e s m args below meth c hX hY => ?_)
  unfold w_X3_takeNumber at hf
  refine zt_L (L' := [(0, .ref (n0 + 68)), (1, .int a1)]) rfl ?_
  refine zt_aload_n hX 0 dX3_takeNumber_0 rfl rfl ?_
  refine zt_callvV hX hY (av := []) (c_X3_skipBlanks hf) dX3_takeNumber_1 rfl kw_608 kw_610 kw_16 kw_66 kw_611 ⟨rfl, rfl⟩ hy_X3_skipBlanks ⟨by decide, by decide⟩ ⟨by decide, by decide⟩ (Nat.le_of_ble_eq_true rfl) (by decide) (zE_68 _ _) rfl rfl (fun σ2 hf => ?_)
  refine zt_aload_n hX 0 dX3_takeNumber_4 rfl rfl ?_
  refine zt_get_X3 hX (by decide) (zE_68 _ _) 6 (by decide) kw_215 rfl rfl dX3_takeNumber_5 ?_
  refine zt_nmi (fun y3 e3 => ?_)
  replace hf := hf y3 e3
  refine zt_istore_n (L' := [(2, .int y3), (0, .ref (n0 + 68)), (1, .int a1)]) hX dX3_takeNumber_8 rfl (by decide) rfl ?_
  refine zt_iconst hX dX3_takeNumber_9 (v := (0 : Int32)) (by decide) ?_
  refine zt_istore_n (L' := [(3, .int (0 : Int32)), (2, .int y3), (0, .ref (n0 + 68)), (1, .int a1)]) hX dX3_takeNumber_10 rfl (by decide) rfl ?_
  exact zt_sub [2, 3, 1, 0] rfl (t_X3_takeNumber_11 hX hY 400 _ _ _ _ hf)
