theorem dX6_balance_0 : decode cX6_balance 0 = .ok (.aload_n 0, 1) := by decide +kernel
theorem dX6_balance_1 : decode cX6_balance 1 = .ok (.iload_n 1, 1) := by decide +kernel
theorem dX6_balance_2 : decode cX6_balance 2 = .ok (.iload_n 2, 1) := by decide +kernel
theorem dX6_balance_3 : decode cX6_balance 3 = .ok (.invokevirtual 101, 3) := by decide +kernel
theorem dX6_balance_6 : decode cX6_balance 6 = .ok (.ifCond .ne 6, 3) := by decide +kernel
theorem dX6_balance_9 : decode cX6_balance 9 = .ok (.ldc 57, 2) := by decide +kernel
theorem dX6_balance_11 : decode cX6_balance 11 = .ok (.ireturn, 1) := by decide +kernel
theorem dX6_balance_12 : decode cX6_balance 12 = .ok (.aload_n 0, 1) := by decide +kernel
theorem dX6_balance_13 : decode cX6_balance 13 = .ok (.iload_n 1, 1) := by decide +kernel
theorem dX6_balance_14 : decode cX6_balance 14 = .ok (.invokevirtual 68, 3) := by decide +kernel
theorem dX6_balance_17 : decode cX6_balance 17 = .ok (.ifCond .ne 8, 3) := by decide +kernel
theorem dX6_balance_20 : decode cX6_balance 20 = .ok (.ldc 48, 2) := by decide +kernel
theorem dX6_balance_22 : decode cX6_balance 22 = .ok (.goto 9, 3) := by decide +kernel
theorem dX6_balance_25 : decode cX6_balance 25 = .ok (.aload_n 0, 1) := by decide +kernel
theorem dX6_balance_26 : decode cX6_balance 26 = .ok (.iload_n 1, 1) := by decide +kernel
theorem dX6_balance_27 : decode cX6_balance 27 = .ok (.iload_n 2, 1) := by decide +kernel
theorem dX6_balance_28 : decode cX6_balance 28 = .ok (.invokevirtual 130, 3) := by decide +kernel
theorem dX6_balance_31 : decode cX6_balance 31 = .ok (.ireturn, 1) := by decide +kernel
abbrev rm_X6_balance : Room := { frames := 12, cells := 0, slots := 0, locals := 284 }
theorem hy_X6_balance : yX6_balance.cls ≠ "java/lang/invoke/MethodHandle" ∧ yX6_balance.cls ≠ "java/lang/invoke/VarHandle" ∧ (parseMethodDescriptor yX6_balance.desc).map (fun d => d.parameters.length) = some 2 := by decide +kernel
def w_X6_balance (a1 : Int32) (a2 : Int32) (σ : z_S) (Q : Int32 → z_S → Prop) : Prop :=
  w_X6_isInterval a1 a2 σ (fun r1 σ2 => if r1 = 0 then (Q (-2000000001 : Int32) σ2) else (w_X6_children a1 σ2 (fun r4 σ5 => if r4 = 0 then (Q (-2000000000 : Int32) σ5) else (w_X6_balanceOf a1 a2 σ5 (fun r7 σ8 => Q r7 σ8)))))
set_option maxHeartbeats 4000000 in
set_option maxRecDepth 100000 in
theorem c_X6_balance {l : Launch} {D : va_G} {cI cJ cM cS : ClassId} {n0 : Nat} {a1 : Int32} {a2 : Int32} {σ : z_S} {Q : Int32 → z_S → Prop} (hf : w_X6_balance a1 a2 σ Q) : z_ci l D cI cJ cM cS n0 yX6_balance cX6_balance 3 .int rm_X6_balance 0 0 [.ref (n0 + 73), .int a1, .int a2] σ Q := by
  refine z_ofi (by decide +kernel) (Nat.le_of_ble_eq_true rfl) (fun p e s m args below meth c hX hY => ?_)
  unfold w_X6_balance at hf
  refine zt_L (L' := [(0, .ref (n0 + 73)), (1, .int a1), (2, .int a2)]) rfl ?_
  refine zt_aload_n hX 0 dX6_balance_0 rfl rfl ?_
  refine zt_iload_n hX 1 dX6_balance_1 rfl rfl ?_
  refine zt_iload_n hX 2 dX6_balance_2 rfl rfl ?_
  refine zt_calliV hX hY (av := [.int a1, .int a2]) (c_X6_isInterval hf) dX6_balance_3 rfl kw_802 kw_804 kw_33 kw_67 kw_805 ⟨rfl, rfl⟩ hy_X6_isInterval ⟨by decide, by decide⟩ ⟨by decide, by decide⟩ (Nat.le_of_ble_eq_true rfl) (by decide) (zE_73 _ _) rfl rfl (fun r1 σ2 hf => ?_)
  refine zt_if_ne hX dX6_balance_6 (tgt := 12) (by decide) (fun c3 => ?_) (fun c3 => ?_)
  · replace hf := z_neg hf c3
    refine zt_aload_n hX 0 dX6_balance_12 rfl rfl ?_
    refine zt_iload_n hX 1 dX6_balance_13 rfl rfl ?_
    refine zt_calliV hX hY (av := [.int a1]) (c_X6_children hf) dX6_balance_14 rfl kw_750 kw_752 kw_26 kw_67 kw_753 ⟨rfl, rfl⟩ hy_X6_children ⟨by decide, by decide⟩ ⟨by decide, by decide⟩ (Nat.le_of_ble_eq_true rfl) (by decide) (zE_73 _ _) rfl rfl (fun r4 σ5 hf => ?_)
    refine zt_if_ne hX dX6_balance_17 (tgt := 25) (by decide) (fun c6 => ?_) (fun c6 => ?_)
    · replace hf := z_neg hf c6
      refine zt_aload_n hX 0 dX6_balance_25 rfl rfl ?_
      refine zt_iload_n hX 1 dX6_balance_26 rfl rfl ?_
      refine zt_iload_n hX 2 dX6_balance_27 rfl rfl ?_
      refine zt_calliV hX hY (av := [.int a1, .int a2]) (c_X6_balanceOf hf) dX6_balance_28 rfl kw_870 kw_872 kw_45 kw_67 kw_873 ⟨rfl, rfl⟩ hy_X6_balanceOf ⟨by decide, by decide⟩ ⟨by decide, by decide⟩ (Nat.le_of_ble_eq_true rfl) (by decide) (zE_73 _ _) rfl rfl (fun r7 σ8 hf => ?_)
      exact zt_iret hX hY dX6_balance_31 hf
    · replace hf := z_pos hf c6
      refine zt_ldc hX dX6_balance_20 kw_715 ?_
      refine zt_goto hX dX6_balance_22 (tgt := 31) (by decide) ?_
      exact zt_iret hX hY dX6_balance_31 hf
  · replace hf := z_pos hf c3
    refine zt_ldc hX dX6_balance_9 kw_705 ?_
    exact zt_iret hX hY dX6_balance_11 hf

theorem dX6_nextFault_0 : decode cX6_nextFault 0 = .ok (.aload_n 0, 1) := by decide +kernel
theorem dX6_nextFault_1 : decode cX6_nextFault 1 = .ok (.iload_n 1, 1) := by decide +kernel
theorem dX6_nextFault_2 : decode cX6_nextFault 2 = .ok (.invokevirtual 53, 3) := by decide +kernel
theorem dX6_nextFault_5 : decode cX6_nextFault 5 = .ok (.ifCond .ne 6, 3) := by decide +kernel
theorem dX6_nextFault_8 : decode cX6_nextFault 8 = .ok (.ldc 57, 2) := by decide +kernel
theorem dX6_nextFault_10 : decode cX6_nextFault 10 = .ok (.ireturn, 1) := by decide +kernel
theorem dX6_nextFault_11 : decode cX6_nextFault 11 = .ok (.iload_n 2, 1) := by decide +kernel
theorem dX6_nextFault_12 : decode cX6_nextFault 12 = .ok (.iconst (-1), 1) := by decide +kernel
theorem dX6_nextFault_13 : decode cX6_nextFault 13 = .ok (.bipush 11, 2) := by decide +kernel
theorem dX6_nextFault_15 : decode cX6_nextFault 15 = .ok (.invokestatic 40, 3) := by decide +kernel
theorem dX6_nextFault_18 : decode cX6_nextFault 18 = .ok (.ifCond .ne 6, 3) := by decide +kernel
theorem dX6_nextFault_21 : decode cX6_nextFault 21 = .ok (.ldc 66, 2) := by decide +kernel
theorem dX6_nextFault_23 : decode cX6_nextFault 23 = .ok (.ireturn, 1) := by decide +kernel
theorem dX6_nextFault_24 : decode cX6_nextFault 24 = .ok (.iload_n 2, 1) := by decide +kernel
theorem dX6_nextFault_25 : decode cX6_nextFault 25 = .ok (.iconst 1, 1) := by decide +kernel
theorem dX6_nextFault_26 : decode cX6_nextFault 26 = .ok (.iadd, 1) := by decide +kernel
theorem dX6_nextFault_27 : decode cX6_nextFault 27 = .ok (.istore_n 3, 1) := by decide +kernel
theorem dX6_nextFault_28 : decode cX6_nextFault 28 = .ok (.iload_n 3, 1) := by decide +kernel
theorem dX6_nextFault_29 : decode cX6_nextFault 29 = .ok (.bipush 12, 2) := by decide +kernel
theorem dX6_nextFault_31 : decode cX6_nextFault 31 = .ok (.if_icmp .ge 28, 3) := by decide +kernel
theorem dX6_nextFault_34 : decode cX6_nextFault 34 = .ok (.aload_n 0, 1) := by decide +kernel
theorem dX6_nextFault_35 : decode cX6_nextFault 35 = .ok (.iload_n 1, 1) := by decide +kernel
theorem dX6_nextFault_36 : decode cX6_nextFault 36 = .ok (.invokevirtual 68, 3) := by decide +kernel
theorem dX6_nextFault_39 : decode cX6_nextFault 39 = .ok (.ifCond .le 20, 3) := by decide +kernel
theorem dX6_nextFault_42 : decode cX6_nextFault 42 = .ok (.aload_n 0, 1) := by decide +kernel
theorem dX6_nextFault_43 : decode cX6_nextFault 43 = .ok (.iload_n 1, 1) := by decide +kernel
theorem dX6_nextFault_44 : decode cX6_nextFault 44 = .ok (.iload_n 3, 1) := by decide +kernel
theorem dX6_nextFault_45 : decode cX6_nextFault 45 = .ok (.invokevirtual 130, 3) := by decide +kernel
theorem dX6_nextFault_48 : decode cX6_nextFault 48 = .ok (.ifCond .eq 5, 3) := by decide +kernel
theorem dX6_nextFault_51 : decode cX6_nextFault 51 = .ok (.iload_n 3, 1) := by decide +kernel
theorem dX6_nextFault_52 : decode cX6_nextFault 52 = .ok (.ireturn, 1) := by decide +kernel
theorem dX6_nextFault_53 : decode cX6_nextFault 53 = .ok (.iinc 3 1, 3) := by decide +kernel
theorem dX6_nextFault_56 : decode cX6_nextFault 56 = .ok (.goto (-28), 3) := by decide +kernel
theorem dX6_nextFault_59 : decode cX6_nextFault 59 = .ok (.ldc 48, 2) := by decide +kernel
theorem dX6_nextFault_61 : decode cX6_nextFault 61 = .ok (.ireturn, 1) := by decide +kernel
abbrev rm_X6_nextFault : Room := { frames := 12, cells := 0, slots := 0, locals := 284 }
theorem hy_X6_nextFault : yX6_nextFault.cls ≠ "java/lang/invoke/MethodHandle" ∧ yX6_nextFault.cls ≠ "java/lang/invoke/VarHandle" ∧ (parseMethodDescriptor yX6_nextFault.desc).map (fun d => d.parameters.length) = some 2 := by decide +kernel
def wb_X6_nextFault_28  (Q : Int32 → z_S → Prop) (k28 : Int32 → Int32 → z_S → Prop) (x1 : Int32) (x3 : Int32) (σ : z_S) : Prop :=
  if (12 : Int32) ≤ x3 then (Q (-2000000000 : Int32) σ) else (w_X6_children x1 σ (fun r9 σ10 => if r9 ≤ 0 then (Q (-2000000000 : Int32) σ10) else (w_X6_balanceOf x1 x3 σ10 (fun r12 σ13 => if r12 = 0 then (∀ y15 : Int32, y15 = (x3 + (1 : Int32)) → k28 x1 y15 σ13) else (Q x3 σ13)))))
def w_X6_nextFault_28  (Q : Int32 → z_S → Prop) : Nat → Int32 → Int32 → z_S → Prop
  | 0 => fun _ _ _ => False
  | n + 1 => wb_X6_nextFault_28  Q (w_X6_nextFault_28  Q n)
def w_X6_nextFault (a1 : Int32) (a2 : Int32) (σ : z_S) (Q : Int32 → z_S → Prop) : Prop :=
  w_X6_isMeter a1 σ (fun r1 σ2 => if r1 = 0 then (Q (-2000000001 : Int32) σ2) else (w_X6_in a2 (-1 : Int32) (11 : Int32) σ2 (fun r4 σ5 => if r4 = 0 then (Q (-2000000002 : Int32) σ5) else (∀ y7 : Int32, y7 = (a2 + (1 : Int32)) → w_X6_nextFault_28 Q 400 a1 y7 σ5))))
set_option maxHeartbeats 4000000 in
set_option maxRecDepth 100000 in
theorem t_X6_nextFault_28 {l : Launch} {D : va_G} {cI cJ cM cS : ClassId} {n0 : Nat} {p : Program} {e : Env} {s : State} {m : MethodId} {args : Array Value} {below : List Frame} {meth : Method} {c : Code}  {Q : Int32 → z_S → Prop} (hX : z_X D cI cJ cM cS p s m args c cX6_nextFault 4 yX6_nextFault.cls) (hY : z_Y s meth (some .int))  : ∀ (n : Nat) (x1 : Int32) (x3 : Int32) (σ : z_S), w_X6_nextFault_28  Q n x1 x3 σ → z_t D cI cJ cM cS n0 p l e rm_X6_nextFault s m args below meth c 4 (MQ below (va_Qi Q (fun u t => z_Bq D cI cJ cM cS n0 u t) (z_Ab n0)) args s 0 0 (z_Ab n0)) 0 0 28 [(0, .ref (n0 + 73)), (1, .int x1), (3, .int x3)] [] σ := by
  intro n
  induction n with
  | zero => intro _ _ _ hf; exact hf.elim
  | succ n ih28 =>
    intro x1 x3 σ hf
    have hf : wb_X6_nextFault_28  Q (w_X6_nextFault_28  Q n) x1 x3 σ := hf
    unfold wb_X6_nextFault_28 at hf
    refine zt_iload_n hX 2 dX6_nextFault_28 rfl rfl ?_
    refine zt_bipush hX dX6_nextFault_29 (v := (12 : Int32)) (by decide) ?_
    refine zt_icmp_ge hX dX6_nextFault_31 (tgt := 59) (by decide) (fun c8 => ?_) (fun c8 => ?_)
    · replace hf := z_pos hf c8
      refine zt_ldc hX dX6_nextFault_59 kw_715 ?_
      exact zt_iret hX hY dX6_nextFault_61 hf
    · replace hf := z_neg hf c8
      refine zt_aload_n hX 0 dX6_nextFault_34 rfl rfl ?_
      refine zt_iload_n hX 1 dX6_nextFault_35 rfl rfl ?_
      refine zt_calliV hX hY (av := [.int x1]) (c_X6_children hf) dX6_nextFault_36 rfl kw_750 kw_752 kw_26 kw_67 kw_753 ⟨rfl, rfl⟩ hy_X6_children ⟨by decide, by decide⟩ ⟨by decide, by decide⟩ (Nat.le_of_ble_eq_true rfl) (by decide) (zE_73 _ _) rfl rfl (fun r9 σ10 hf => ?_)
      refine zt_if_le hX dX6_nextFault_39 (tgt := 59) (by decide) (fun c11 => ?_) (fun c11 => ?_)
      · replace hf := z_pos hf c11
        refine zt_ldc hX dX6_nextFault_59 kw_715 ?_
        exact zt_iret hX hY dX6_nextFault_61 hf
      · replace hf := z_neg hf c11
        refine zt_aload_n hX 0 dX6_nextFault_42 rfl rfl ?_
        refine zt_iload_n hX 1 dX6_nextFault_43 rfl rfl ?_
        refine zt_iload_n hX 2 dX6_nextFault_44 rfl rfl ?_
        refine zt_calliV hX hY (av := [.int x1, .int x3]) (c_X6_balanceOf hf) dX6_nextFault_45 rfl kw_870 kw_872 kw_45 kw_67 kw_873 ⟨rfl, rfl⟩ hy_X6_balanceOf ⟨by decide, by decide⟩ ⟨by decide, by decide⟩ (Nat.le_of_ble_eq_true rfl) (by decide) (zE_73 _ _) rfl rfl (fun r12 σ13 hf => ?_)
        refine zt_if_eq hX dX6_nextFault_48 (tgt := 53) (by decide) (fun c14 => ?_) (fun c14 => ?_)
        · replace hf := z_pos hf c14
          obtain ⟨y15, e15⟩ : ∃ y : Int32, y = (x3 + (1 : Int32)) := ⟨_, rfl⟩
          replace hf := hf y15 e15
          refine zt_iinc (L' := [(3, .int y15), (0, .ref (n0 + 73)), (1, .int x1)]) hX 2 dX6_nextFault_53 rfl (v := y15) (by rw [e15]; rfl) (by decide) rfl ?_
          refine zt_goto hX dX6_nextFault_56 (tgt := 28) (by decide) ?_
          exact zt_sub [1, 2, 0] rfl (ih28 _ _ _ hf)
        · replace hf := z_neg hf c14
          refine zt_iload_n hX 2 dX6_nextFault_51 rfl rfl ?_
          exact zt_iret hX hY dX6_nextFault_52 hf
set_option maxHeartbeats 4000000 in
set_option maxRecDepth 100000 in
theorem c_X6_nextFault {l : Launch} {D : va_G} {cI cJ cM cS : ClassId} {n0 : Nat} {a1 : Int32} {a2 : Int32} {σ : z_S} {Q : Int32 → z_S → Prop} (hf : w_X6_nextFault a1 a2 σ Q) : z_ci l D cI cJ cM cS n0 yX6_nextFault cX6_nextFault 4 .int rm_X6_nextFault 0 0 [.ref (n0 + 73), .int a1, .int a2] σ Q := by
  refine z_ofi (by decide +kernel) (Nat.le_of_ble_eq_true rfl) (fun p e s m args below meth c hX hY => ?_)
  unfold w_X6_nextFault at hf
  refine zt_L (L' := [(0, .ref (n0 + 73)), (1, .int a1), (2, .int a2)]) rfl ?_
  refine zt_aload_n hX 0 dX6_nextFault_0 rfl rfl ?_
  refine zt_iload_n hX 1 dX6_nextFault_1 rfl rfl ?_
  refine zt_calliV hX hY (av := [.int a1]) (c_X6_isMeter hf) dX6_nextFault_2 rfl kw_698 kw_700 kw_20 kw_67 kw_701 ⟨rfl, rfl⟩ hy_X6_isMeter ⟨by decide, by decide⟩ ⟨by decide, by decide⟩ (Nat.le_of_ble_eq_true rfl) (by decide) (zE_73 _ _) rfl rfl (fun r1 σ2 hf => ?_)
  refine zt_if_ne hX dX6_nextFault_5 (tgt := 11) (by decide) (fun c3 => ?_) (fun c3 => ?_)
  · replace hf := z_neg hf c3
    refine zt_iload_n hX 2 dX6_nextFault_11 rfl rfl ?_
    refine zt_iconst hX dX6_nextFault_12 (v := (-1 : Int32)) (by decide) ?_
    refine zt_bipush hX dX6_nextFault_13 (v := (11 : Int32)) (by decide) ?_
    refine zt_calliS hX hY (av := [.int a2, .int (-1 : Int32), .int (11 : Int32)]) (c_X6_in hf) dX6_nextFault_15 rfl kw_702 kw_703 kw_67 kw_704 ⟨rfl, rfl⟩ hy_X6_in ⟨by decide, by decide⟩ ⟨by decide, by decide⟩ (Nat.le_of_ble_eq_true rfl) (fun r4 σ5 hf => ?_)
    refine zt_if_ne hX dX6_nextFault_18 (tgt := 24) (by decide) (fun c6 => ?_) (fun c6 => ?_)
    · replace hf := z_neg hf c6
      refine zt_iload_n hX 2 dX6_nextFault_24 rfl rfl ?_
      refine zt_iconst hX dX6_nextFault_25 (v := (1 : Int32)) (by decide) ?_
      refine zt_iadd hX dX6_nextFault_26 ?_
      refine zt_nmi (fun y7 e7 => ?_)
      replace hf := hf y7 e7
      refine zt_istore_n (L' := [(3, .int y7), (0, .ref (n0 + 73)), (1, .int a1), (2, .int a2)]) hX dX6_nextFault_27 rfl (by decide) rfl ?_
      exact zt_sub [1, 2, 0] rfl (t_X6_nextFault_28 hX hY 400 _ _ _ hf)
    · replace hf := z_pos hf c6
      refine zt_ldc hX dX6_nextFault_21 kw_728 ?_
      exact zt_iret hX hY dX6_nextFault_23 hf
  · replace hf := z_pos hf c3
    refine zt_ldc hX dX6_nextFault_8 kw_705 ?_
    exact zt_iret hX hY dX6_nextFault_10 hf

theorem dX6_allocates_0 : decode cX6_allocates 0 = .ok (.lconst 0, 1) := by decide +kernel
theorem dX6_allocates_1 : decode cX6_allocates 1 = .ok (.lstore_n 2, 1) := by decide +kernel
theorem dX6_allocates_2 : decode cX6_allocates 2 = .ok (.aload_n 0, 1) := by decide +kernel
theorem dX6_allocates_3 : decode cX6_allocates 3 = .ok (.getfield 13, 3) := by decide +kernel
theorem dX6_allocates_6 : decode cX6_allocates 6 = .ok (.iload_n 1, 1) := by decide +kernel
theorem dX6_allocates_7 : decode cX6_allocates 7 = .ok (.iaload, 1) := by decide +kernel
theorem dX6_allocates_8 : decode cX6_allocates 8 = .ok (.istore 4, 2) := by decide +kernel
theorem dX6_allocates_10 : decode cX6_allocates 10 = .ok (.iconst 1, 1) := by decide +kernel
theorem dX6_allocates_11 : decode cX6_allocates 11 = .ok (.istore 5, 2) := by decide +kernel
theorem dX6_allocates_13 : decode cX6_allocates 13 = .ok (.iload 5, 2) := by decide +kernel
theorem dX6_allocates_15 : decode cX6_allocates 15 = .ok (.aload_n 0, 1) := by decide +kernel
theorem dX6_allocates_16 : decode cX6_allocates 16 = .ok (.getfield 7, 3) := by decide +kernel
theorem dX6_allocates_19 : decode cX6_allocates 19 = .ok (.iconst 0, 1) := by decide +kernel
theorem dX6_allocates_20 : decode cX6_allocates 20 = .ok (.iaload, 1) := by decide +kernel
theorem dX6_allocates_21 : decode cX6_allocates 21 = .ok (.if_icmp .ge 91, 3) := by decide +kernel
theorem dX6_allocates_24 : decode cX6_allocates 24 = .ok (.aload_n 0, 1) := by decide +kernel
theorem dX6_allocates_25 : decode cX6_allocates 25 = .ok (.iload 5, 2) := by decide +kernel
theorem dX6_allocates_27 : decode cX6_allocates 27 = .ok (.iconst 0, 1) := by decide +kernel
theorem dX6_allocates_28 : decode cX6_allocates 28 = .ok (.invokevirtual 44, 3) := by decide +kernel
theorem dX6_allocates_31 : decode cX6_allocates 31 = .ok (.iload_n 1, 1) := by decide +kernel
theorem dX6_allocates_32 : decode cX6_allocates 32 = .ok (.if_icmp .ne 7, 3) := by decide +kernel
theorem dX6_allocates_35 : decode cX6_allocates 35 = .ok (.iconst 1, 1) := by decide +kernel
theorem dX6_allocates_36 : decode cX6_allocates 36 = .ok (.goto 4, 3) := by decide +kernel
theorem dX6_allocates_39 : decode cX6_allocates 39 = .ok (.iconst 0, 1) := by decide +kernel
theorem dX6_allocates_40 : decode cX6_allocates 40 = .ok (.istore 6, 2) := by decide +kernel
theorem dX6_allocates_42 : decode cX6_allocates 42 = .ok (.aload_n 0, 1) := by decide +kernel
theorem dX6_allocates_43 : decode cX6_allocates 43 = .ok (.getfield 19, 3) := by decide +kernel
theorem dX6_allocates_46 : decode cX6_allocates 46 = .ok (.iload 5, 2) := by decide +kernel
theorem dX6_allocates_48 : decode cX6_allocates 48 = .ok (.iload 6, 2) := by decide +kernel
theorem dX6_allocates_50 : decode cX6_allocates 50 = .ok (.ifCond .eq 23, 3) := by decide +kernel
theorem dX6_allocates_53 : decode cX6_allocates 53 = .ok (.aload_n 0, 1) := by decide +kernel
theorem dX6_allocates_54 : decode cX6_allocates 54 = .ok (.iload 5, 2) := by decide +kernel
theorem dX6_allocates_56 : decode cX6_allocates 56 = .ok (.iconst 4, 1) := by decide +kernel
theorem dX6_allocates_57 : decode cX6_allocates 57 = .ok (.invokevirtual 44, 3) := by decide +kernel
theorem dX6_allocates_60 : decode cX6_allocates 60 = .ok (.i2l, 1) := by decide +kernel
theorem dX6_allocates_61 : decode cX6_allocates 61 = .ok (.aload_n 0, 1) := by decide +kernel
theorem dX6_allocates_62 : decode cX6_allocates 62 = .ok (.getfield 16, 3) := by decide +kernel
theorem dX6_allocates_65 : decode cX6_allocates 65 = .ok (.iload 5, 2) := by decide +kernel
theorem dX6_allocates_67 : decode cX6_allocates 67 = .ok (.iaload, 1) := by decide +kernel
theorem dX6_allocates_68 : decode cX6_allocates 68 = .ok (.i2l, 1) := by decide +kernel
theorem dX6_allocates_69 : decode cX6_allocates 69 = .ok (.lmul, 1) := by decide +kernel
theorem dX6_allocates_70 : decode cX6_allocates 70 = .ok (.goto 4, 3) := by decide +kernel
theorem dX6_allocates_73 : decode cX6_allocates 73 = .ok (.lconst 0, 1) := by decide +kernel
theorem dX6_allocates_74 : decode cX6_allocates 74 = .ok (.lastore, 1) := by decide +kernel
theorem dX6_allocates_75 : decode cX6_allocates 75 = .ok (.lload_n 2, 1) := by decide +kernel
theorem dX6_allocates_76 : decode cX6_allocates 76 = .ok (.aload_n 0, 1) := by decide +kernel
theorem dX6_allocates_77 : decode cX6_allocates 77 = .ok (.getfield 19, 3) := by decide +kernel
theorem dX6_allocates_80 : decode cX6_allocates 80 = .ok (.iload 5, 2) := by decide +kernel
theorem dX6_allocates_82 : decode cX6_allocates 82 = .ok (.laload, 1) := by decide +kernel
theorem dX6_allocates_83 : decode cX6_allocates 83 = .ok (.ladd, 1) := by decide +kernel
theorem dX6_allocates_84 : decode cX6_allocates 84 = .ok (.lstore_n 2, 1) := by decide +kernel
theorem dX6_allocates_85 : decode cX6_allocates 85 = .ok (.iload 4, 2) := by decide +kernel
theorem dX6_allocates_87 : decode cX6_allocates 87 = .ok (.iload 6, 2) := by decide +kernel
theorem dX6_allocates_89 : decode cX6_allocates 89 = .ok (.ifCond .eq 13, 3) := by decide +kernel
theorem dX6_allocates_92 : decode cX6_allocates 92 = .ok (.aload_n 0, 1) := by decide +kernel
theorem dX6_allocates_93 : decode cX6_allocates 93 = .ok (.getfield 16, 3) := by decide +kernel
theorem dX6_allocates_96 : decode cX6_allocates 96 = .ok (.iload 5, 2) := by decide +kernel
theorem dX6_allocates_98 : decode cX6_allocates 98 = .ok (.iaload, 1) := by decide +kernel
theorem dX6_allocates_99 : decode cX6_allocates 99 = .ok (.goto 4, 3) := by decide +kernel
theorem dX6_allocates_102 : decode cX6_allocates 102 = .ok (.iconst 0, 1) := by decide +kernel
theorem dX6_allocates_103 : decode cX6_allocates 103 = .ok (.isub, 1) := by decide +kernel
theorem dX6_allocates_104 : decode cX6_allocates 104 = .ok (.istore 4, 2) := by decide +kernel
theorem dX6_allocates_106 : decode cX6_allocates 106 = .ok (.iinc 5 1, 3) := by decide +kernel
theorem dX6_allocates_109 : decode cX6_allocates 109 = .ok (.goto (-96), 3) := by decide +kernel
theorem dX6_allocates_112 : decode cX6_allocates 112 = .ok (.iconst 1, 1) := by decide +kernel
theorem dX6_allocates_113 : decode cX6_allocates 113 = .ok (.istore 5, 2) := by decide +kernel
theorem dX6_allocates_115 : decode cX6_allocates 115 = .ok (.iload 5, 2) := by decide +kernel
theorem dX6_allocates_117 : decode cX6_allocates 117 = .ok (.aload_n 0, 1) := by decide +kernel
theorem dX6_allocates_118 : decode cX6_allocates 118 = .ok (.getfield 7, 3) := by decide +kernel
theorem dX6_allocates_121 : decode cX6_allocates 121 = .ok (.iconst 0, 1) := by decide +kernel
theorem dX6_allocates_122 : decode cX6_allocates 122 = .ok (.iaload, 1) := by decide +kernel
theorem dX6_allocates_123 : decode cX6_allocates 123 = .ok (.if_icmp .ge 45, 3) := by decide +kernel
theorem dX6_allocates_126 : decode cX6_allocates 126 = .ok (.lload_n 2, 1) := by decide +kernel
theorem dX6_allocates_127 : decode cX6_allocates 127 = .ok (.lconst 0, 1) := by decide +kernel
theorem dX6_allocates_128 : decode cX6_allocates 128 = .ok (.lcmp, 1) := by decide +kernel
theorem dX6_allocates_129 : decode cX6_allocates 129 = .ok (.ifCond .ne 39, 3) := by decide +kernel
theorem dX6_allocates_132 : decode cX6_allocates 132 = .ok (.aload_n 0, 1) := by decide +kernel
theorem dX6_allocates_133 : decode cX6_allocates 133 = .ok (.getfield 19, 3) := by decide +kernel
theorem dX6_allocates_136 : decode cX6_allocates 136 = .ok (.iload 5, 2) := by decide +kernel
theorem dX6_allocates_138 : decode cX6_allocates 138 = .ok (.aload_n 0, 1) := by decide +kernel
theorem dX6_allocates_139 : decode cX6_allocates 139 = .ok (.iload 5, 2) := by decide +kernel
theorem dX6_allocates_141 : decode cX6_allocates 141 = .ok (.iconst 0, 1) := by decide +kernel
theorem dX6_allocates_142 : decode cX6_allocates 142 = .ok (.invokevirtual 44, 3) := by decide +kernel
theorem dX6_allocates_145 : decode cX6_allocates 145 = .ok (.iload_n 1, 1) := by decide +kernel
theorem dX6_allocates_146 : decode cX6_allocates 146 = .ok (.if_icmp .ne 14, 3) := by decide +kernel
theorem dX6_allocates_149 : decode cX6_allocates 149 = .ok (.aload_n 0, 1) := by decide +kernel
theorem dX6_allocates_150 : decode cX6_allocates 150 = .ok (.iload 5, 2) := by decide +kernel
theorem dX6_allocates_152 : decode cX6_allocates 152 = .ok (.iconst 4, 1) := by decide +kernel
theorem dX6_allocates_153 : decode cX6_allocates 153 = .ok (.invokevirtual 44, 3) := by decide +kernel
theorem dX6_allocates_156 : decode cX6_allocates 156 = .ok (.i2l, 1) := by decide +kernel
theorem dX6_allocates_157 : decode cX6_allocates 157 = .ok (.goto 4, 3) := by decide +kernel
theorem dX6_allocates_160 : decode cX6_allocates 160 = .ok (.lconst 0, 1) := by decide +kernel
theorem dX6_allocates_161 : decode cX6_allocates 161 = .ok (.lastore, 1) := by decide +kernel
theorem dX6_allocates_162 : decode cX6_allocates 162 = .ok (.iinc 5 1, 3) := by decide +kernel
theorem dX6_allocates_165 : decode cX6_allocates 165 = .ok (.goto (-50), 3) := by decide +kernel
theorem dX6_allocates_168 : decode cX6_allocates 168 = .ok (.lconst 0, 1) := by decide +kernel
theorem dX6_allocates_169 : decode cX6_allocates 169 = .ok (.lstore 5, 2) := by decide +kernel
theorem dX6_allocates_171 : decode cX6_allocates 171 = .ok (.iconst 1, 1) := by decide +kernel
theorem dX6_allocates_172 : decode cX6_allocates 172 = .ok (.istore 7, 2) := by decide +kernel
theorem dX6_allocates_174 : decode cX6_allocates 174 = .ok (.iload 7, 2) := by decide +kernel
theorem dX6_allocates_176 : decode cX6_allocates 176 = .ok (.aload_n 0, 1) := by decide +kernel
theorem dX6_allocates_177 : decode cX6_allocates 177 = .ok (.getfield 7, 3) := by decide +kernel
theorem dX6_allocates_180 : decode cX6_allocates 180 = .ok (.iconst 0, 1) := by decide +kernel
theorem dX6_allocates_181 : decode cX6_allocates 181 = .ok (.iaload, 1) := by decide +kernel
theorem dX6_allocates_182 : decode cX6_allocates 182 = .ok (.if_icmp .ge 21, 3) := by decide +kernel
theorem dX6_allocates_185 : decode cX6_allocates 185 = .ok (.lload 5, 2) := by decide +kernel
theorem dX6_allocates_187 : decode cX6_allocates 187 = .ok (.aload_n 0, 1) := by decide +kernel
theorem dX6_allocates_188 : decode cX6_allocates 188 = .ok (.getfield 19, 3) := by decide +kernel
theorem dX6_allocates_191 : decode cX6_allocates 191 = .ok (.iload 7, 2) := by decide +kernel
theorem dX6_allocates_193 : decode cX6_allocates 193 = .ok (.laload, 1) := by decide +kernel
theorem dX6_allocates_194 : decode cX6_allocates 194 = .ok (.ladd, 1) := by decide +kernel
theorem dX6_allocates_195 : decode cX6_allocates 195 = .ok (.lstore 5, 2) := by decide +kernel
theorem dX6_allocates_197 : decode cX6_allocates 197 = .ok (.iinc 7 1, 3) := by decide +kernel
theorem dX6_allocates_200 : decode cX6_allocates 200 = .ok (.goto (-26), 3) := by decide +kernel
theorem dX6_allocates_203 : decode cX6_allocates 203 = .ok (.iload 4, 2) := by decide +kernel
theorem dX6_allocates_205 : decode cX6_allocates 205 = .ok (.ifCond .ge 10, 3) := by decide +kernel
theorem dX6_allocates_208 : decode cX6_allocates 208 = .ok (.iload 4, 2) := by decide +kernel
theorem dX6_allocates_210 : decode cX6_allocates 210 = .ok (.i2l, 1) := by decide +kernel
theorem dX6_allocates_211 : decode cX6_allocates 211 = .ok (.lneg, 1) := by decide +kernel
theorem dX6_allocates_212 : decode cX6_allocates 212 = .ok (.goto 6, 3) := by decide +kernel
theorem dX6_allocates_215 : decode cX6_allocates 215 = .ok (.iload 4, 2) := by decide +kernel
theorem dX6_allocates_217 : decode cX6_allocates 217 = .ok (.i2l, 1) := by decide +kernel
theorem dX6_allocates_218 : decode cX6_allocates 218 = .ok (.lstore 7, 2) := by decide +kernel
theorem dX6_allocates_220 : decode cX6_allocates 220 = .ok (.lload 7, 2) := by decide +kernel
theorem dX6_allocates_222 : decode cX6_allocates 222 = .ok (.lstore 9, 2) := by decide +kernel
theorem dX6_allocates_224 : decode cX6_allocates 224 = .ok (.iconst 1, 1) := by decide +kernel
theorem dX6_allocates_225 : decode cX6_allocates 225 = .ok (.istore 11, 2) := by decide +kernel
theorem dX6_allocates_227 : decode cX6_allocates 227 = .ok (.iload 11, 2) := by decide +kernel
theorem dX6_allocates_229 : decode cX6_allocates 229 = .ok (.aload_n 0, 1) := by decide +kernel
theorem dX6_allocates_230 : decode cX6_allocates 230 = .ok (.getfield 7, 3) := by decide +kernel
theorem dX6_allocates_233 : decode cX6_allocates 233 = .ok (.iconst 0, 1) := by decide +kernel
theorem dX6_allocates_234 : decode cX6_allocates 234 = .ok (.iaload, 1) := by decide +kernel
theorem dX6_allocates_235 : decode cX6_allocates 235 = .ok (.if_icmp .ge 86, 3) := by decide +kernel
theorem dX6_allocates_238 : decode cX6_allocates 238 = .ok (.lload 5, 2) := by decide +kernel
theorem dX6_allocates_240 : decode cX6_allocates 240 = .ok (.lconst 0, 1) := by decide +kernel
theorem dX6_allocates_241 : decode cX6_allocates 241 = .ok (.lcmp, 1) := by decide +kernel
theorem dX6_allocates_242 : decode cX6_allocates 242 = .ok (.ifCond .le 79, 3) := by decide +kernel
theorem dX6_allocates_245 : decode cX6_allocates 245 = .ok (.aload_n 0, 1) := by decide +kernel
theorem dX6_allocates_246 : decode cX6_allocates 246 = .ok (.getfield 23, 3) := by decide +kernel
theorem dX6_allocates_249 : decode cX6_allocates 249 = .ok (.iload 11, 2) := by decide +kernel
theorem dX6_allocates_251 : decode cX6_allocates 251 = .ok (.aload_n 0, 1) := by decide +kernel
theorem dX6_allocates_252 : decode cX6_allocates 252 = .ok (.iload 11, 2) := by decide +kernel
theorem dX6_allocates_254 : decode cX6_allocates 254 = .ok (.iconst 0, 1) := by decide +kernel
theorem dX6_allocates_255 : decode cX6_allocates 255 = .ok (.invokevirtual 44, 3) := by decide +kernel
theorem dX6_allocates_258 : decode cX6_allocates 258 = .ok (.iload_n 1, 1) := by decide +kernel
theorem dX6_allocates_259 : decode cX6_allocates 259 = .ok (.if_icmp .ne 20, 3) := by decide +kernel
theorem dX6_allocates_262 : decode cX6_allocates 262 = .ok (.lload 7, 2) := by decide +kernel
theorem dX6_allocates_264 : decode cX6_allocates 264 = .ok (.aload_n 0, 1) := by decide +kernel
theorem dX6_allocates_265 : decode cX6_allocates 265 = .ok (.getfield 19, 3) := by decide +kernel
theorem dX6_allocates_268 : decode cX6_allocates 268 = .ok (.iload 11, 2) := by decide +kernel
theorem dX6_allocates_270 : decode cX6_allocates 270 = .ok (.laload, 1) := by decide +kernel
theorem dX6_allocates_271 : decode cX6_allocates 271 = .ok (.lmul, 1) := by decide +kernel
theorem dX6_allocates_272 : decode cX6_allocates 272 = .ok (.lload 5, 2) := by decide +kernel
theorem dX6_allocates_274 : decode cX6_allocates 274 = .ok (.ldiv, 1) := by decide +kernel
theorem dX6_allocates_275 : decode cX6_allocates 275 = .ok (.l2i, 1) := by decide +kernel
theorem dX6_allocates_276 : decode cX6_allocates 276 = .ok (.goto 10, 3) := by decide +kernel
theorem dX6_allocates_279 : decode cX6_allocates 279 = .ok (.aload_n 0, 1) := by decide +kernel
theorem dX6_allocates_280 : decode cX6_allocates 280 = .ok (.getfield 23, 3) := by decide +kernel
theorem dX6_allocates_283 : decode cX6_allocates 283 = .ok (.iload 11, 2) := by decide +kernel
theorem dX6_allocates_285 : decode cX6_allocates 285 = .ok (.iaload, 1) := by decide +kernel
theorem dX6_allocates_286 : decode cX6_allocates 286 = .ok (.iastore, 1) := by decide +kernel
theorem dX6_allocates_287 : decode cX6_allocates 287 = .ok (.lload 9, 2) := by decide +kernel
theorem dX6_allocates_289 : decode cX6_allocates 289 = .ok (.aload_n 0, 1) := by decide +kernel
theorem dX6_allocates_290 : decode cX6_allocates 290 = .ok (.iload 11, 2) := by decide +kernel
theorem dX6_allocates_292 : decode cX6_allocates 292 = .ok (.iconst 0, 1) := by decide +kernel
theorem dX6_allocates_293 : decode cX6_allocates 293 = .ok (.invokevirtual 44, 3) := by decide +kernel
theorem dX6_allocates_296 : decode cX6_allocates 296 = .ok (.iload_n 1, 1) := by decide +kernel
theorem dX6_allocates_297 : decode cX6_allocates 297 = .ok (.if_icmp .ne 14, 3) := by decide +kernel
theorem dX6_allocates_300 : decode cX6_allocates 300 = .ok (.aload_n 0, 1) := by decide +kernel
theorem dX6_allocates_301 : decode cX6_allocates 301 = .ok (.getfield 23, 3) := by decide +kernel
theorem dX6_allocates_304 : decode cX6_allocates 304 = .ok (.iload 11, 2) := by decide +kernel
theorem dX6_allocates_306 : decode cX6_allocates 306 = .ok (.iaload, 1) := by decide +kernel
theorem dX6_allocates_307 : decode cX6_allocates 307 = .ok (.i2l, 1) := by decide +kernel
theorem dX6_allocates_308 : decode cX6_allocates 308 = .ok (.goto 4, 3) := by decide +kernel
theorem dX6_allocates_311 : decode cX6_allocates 311 = .ok (.lconst 0, 1) := by decide +kernel
theorem dX6_allocates_312 : decode cX6_allocates 312 = .ok (.lsub, 1) := by decide +kernel
theorem dX6_allocates_313 : decode cX6_allocates 313 = .ok (.lstore 9, 2) := by decide +kernel
theorem dX6_allocates_315 : decode cX6_allocates 315 = .ok (.iinc 11 1, 3) := by decide +kernel
theorem dX6_allocates_318 : decode cX6_allocates 318 = .ok (.goto (-91), 3) := by decide +kernel
theorem dX6_allocates_321 : decode cX6_allocates 321 = .ok (.iconst 1, 1) := by decide +kernel
theorem dX6_allocates_322 : decode cX6_allocates 322 = .ok (.istore 11, 2) := by decide +kernel
theorem dX6_allocates_324 : decode cX6_allocates 324 = .ok (.iload 11, 2) := by decide +kernel
theorem dX6_allocates_326 : decode cX6_allocates 326 = .ok (.aload_n 0, 1) := by decide +kernel
theorem dX6_allocates_327 : decode cX6_allocates 327 = .ok (.getfield 7, 3) := by decide +kernel
theorem dX6_allocates_330 : decode cX6_allocates 330 = .ok (.iconst 0, 1) := by decide +kernel
theorem dX6_allocates_331 : decode cX6_allocates 331 = .ok (.iaload, 1) := by decide +kernel
theorem dX6_allocates_332 : decode cX6_allocates 332 = .ok (.if_icmp .ge 176, 3) := by decide +kernel
theorem dX6_allocates_335 : decode cX6_allocates 335 = .ok (.lload 5, 2) := by decide +kernel
theorem dX6_allocates_337 : decode cX6_allocates 337 = .ok (.lconst 0, 1) := by decide +kernel
theorem dX6_allocates_338 : decode cX6_allocates 338 = .ok (.lcmp, 1) := by decide +kernel
theorem dX6_allocates_339 : decode cX6_allocates 339 = .ok (.ifCond .le 169, 3) := by decide +kernel
theorem dX6_allocates_342 : decode cX6_allocates 342 = .ok (.aload_n 0, 1) := by decide +kernel
theorem dX6_allocates_343 : decode cX6_allocates 343 = .ok (.iload 11, 2) := by decide +kernel
theorem dX6_allocates_345 : decode cX6_allocates 345 = .ok (.iconst 0, 1) := by decide +kernel
theorem dX6_allocates_346 : decode cX6_allocates 346 = .ok (.invokevirtual 44, 3) := by decide +kernel
theorem dX6_allocates_349 : decode cX6_allocates 349 = .ok (.iload_n 1, 1) := by decide +kernel
theorem dX6_allocates_350 : decode cX6_allocates 350 = .ok (.if_icmp .ne 152, 3) := by decide +kernel
theorem dX6_allocates_353 : decode cX6_allocates 353 = .ok (.lload 7, 2) := by decide +kernel
theorem dX6_allocates_355 : decode cX6_allocates 355 = .ok (.aload_n 0, 1) := by decide +kernel
theorem dX6_allocates_356 : decode cX6_allocates 356 = .ok (.getfield 19, 3) := by decide +kernel
theorem dX6_allocates_359 : decode cX6_allocates 359 = .ok (.iload 11, 2) := by decide +kernel
theorem dX6_allocates_361 : decode cX6_allocates 361 = .ok (.laload, 1) := by decide +kernel
theorem dX6_allocates_362 : decode cX6_allocates 362 = .ok (.lmul, 1) := by decide +kernel
theorem dX6_allocates_363 : decode cX6_allocates 363 = .ok (.lload 5, 2) := by decide +kernel
theorem dX6_allocates_365 : decode cX6_allocates 365 = .ok (.lrem, 1) := by decide +kernel
theorem dX6_allocates_366 : decode cX6_allocates 366 = .ok (.lstore 12, 2) := by decide +kernel
theorem dX6_allocates_368 : decode cX6_allocates 368 = .ok (.iconst 0, 1) := by decide +kernel
theorem dX6_allocates_369 : decode cX6_allocates 369 = .ok (.istore 14, 2) := by decide +kernel
theorem dX6_allocates_371 : decode cX6_allocates 371 = .ok (.iconst 1, 1) := by decide +kernel
theorem dX6_allocates_372 : decode cX6_allocates 372 = .ok (.istore 15, 2) := by decide +kernel
theorem dX6_allocates_374 : decode cX6_allocates 374 = .ok (.iload 15, 2) := by decide +kernel
theorem dX6_allocates_376 : decode cX6_allocates 376 = .ok (.aload_n 0, 1) := by decide +kernel
theorem dX6_allocates_377 : decode cX6_allocates 377 = .ok (.getfield 7, 3) := by decide +kernel
theorem dX6_allocates_380 : decode cX6_allocates 380 = .ok (.iconst 0, 1) := by decide +kernel
theorem dX6_allocates_381 : decode cX6_allocates 381 = .ok (.iaload, 1) := by decide +kernel
theorem dX6_allocates_382 : decode cX6_allocates 382 = .ok (.if_icmp .ge 68, 3) := by decide +kernel
theorem dX6_allocates_385 : decode cX6_allocates 385 = .ok (.lload 7, 2) := by decide +kernel
theorem dX6_allocates_387 : decode cX6_allocates 387 = .ok (.aload_n 0, 1) := by decide +kernel
theorem dX6_allocates_388 : decode cX6_allocates 388 = .ok (.getfield 19, 3) := by decide +kernel
theorem dX6_allocates_391 : decode cX6_allocates 391 = .ok (.iload 15, 2) := by decide +kernel
theorem dX6_allocates_393 : decode cX6_allocates 393 = .ok (.laload, 1) := by decide +kernel
theorem dX6_allocates_394 : decode cX6_allocates 394 = .ok (.lmul, 1) := by decide +kernel
theorem dX6_allocates_395 : decode cX6_allocates 395 = .ok (.lload 5, 2) := by decide +kernel
theorem dX6_allocates_397 : decode cX6_allocates 397 = .ok (.lrem, 1) := by decide +kernel
theorem dX6_allocates_398 : decode cX6_allocates 398 = .ok (.lstore 16, 2) := by decide +kernel
theorem dX6_allocates_400 : decode cX6_allocates 400 = .ok (.iload 14, 2) := by decide +kernel
theorem dX6_allocates_402 : decode cX6_allocates 402 = .ok (.aload_n 0, 1) := by decide +kernel
theorem dX6_allocates_403 : decode cX6_allocates 403 = .ok (.iload 15, 2) := by decide +kernel
theorem dX6_allocates_405 : decode cX6_allocates 405 = .ok (.iconst 0, 1) := by decide +kernel
theorem dX6_allocates_406 : decode cX6_allocates 406 = .ok (.invokevirtual 44, 3) := by decide +kernel
theorem dX6_allocates_409 : decode cX6_allocates 409 = .ok (.iload_n 1, 1) := by decide +kernel
theorem dX6_allocates_410 : decode cX6_allocates 410 = .ok (.if_icmp .ne 30, 3) := by decide +kernel
theorem dX6_allocates_413 : decode cX6_allocates 413 = .ok (.lload 16, 2) := by decide +kernel
theorem dX6_allocates_415 : decode cX6_allocates 415 = .ok (.lload 12, 2) := by decide +kernel
theorem dX6_allocates_417 : decode cX6_allocates 417 = .ok (.lcmp, 1) := by decide +kernel
theorem dX6_allocates_418 : decode cX6_allocates 418 = .ok (.ifCond .gt 18, 3) := by decide +kernel
theorem dX6_allocates_421 : decode cX6_allocates 421 = .ok (.lload 16, 2) := by decide +kernel
theorem dX6_allocates_423 : decode cX6_allocates 423 = .ok (.lload 12, 2) := by decide +kernel
theorem dX6_allocates_425 : decode cX6_allocates 425 = .ok (.lcmp, 1) := by decide +kernel
theorem dX6_allocates_426 : decode cX6_allocates 426 = .ok (.ifCond .ne 14, 3) := by decide +kernel
theorem dX6_allocates_429 : decode cX6_allocates 429 = .ok (.iload 15, 2) := by decide +kernel
theorem dX6_allocates_431 : decode cX6_allocates 431 = .ok (.iload 11, 2) := by decide +kernel
theorem dX6_allocates_433 : decode cX6_allocates 433 = .ok (.if_icmp .ge 7, 3) := by decide +kernel
theorem dX6_allocates_436 : decode cX6_allocates 436 = .ok (.iconst 1, 1) := by decide +kernel
theorem dX6_allocates_437 : decode cX6_allocates 437 = .ok (.goto 4, 3) := by decide +kernel
theorem dX6_allocates_440 : decode cX6_allocates 440 = .ok (.iconst 0, 1) := by decide +kernel
theorem dX6_allocates_441 : decode cX6_allocates 441 = .ok (.iadd, 1) := by decide +kernel
theorem dX6_allocates_442 : decode cX6_allocates 442 = .ok (.istore 14, 2) := by decide +kernel
theorem dX6_allocates_444 : decode cX6_allocates 444 = .ok (.iinc 15 1, 3) := by decide +kernel
theorem dX6_allocates_447 : decode cX6_allocates 447 = .ok (.goto (-73), 3) := by decide +kernel
theorem dX6_allocates_450 : decode cX6_allocates 450 = .ok (.aload_n 0, 1) := by decide +kernel
theorem dX6_allocates_451 : decode cX6_allocates 451 = .ok (.getfield 23, 3) := by decide +kernel
theorem dX6_allocates_454 : decode cX6_allocates 454 = .ok (.iload 11, 2) := by decide +kernel
theorem dX6_allocates_456 : decode cX6_allocates 456 = .ok (.iaload, 1) := by decide +kernel
theorem dX6_allocates_457 : decode cX6_allocates 457 = .ok (.iload 14, 2) := by decide +kernel
theorem dX6_allocates_459 : decode cX6_allocates 459 = .ok (.i2l, 1) := by decide +kernel
theorem dX6_allocates_460 : decode cX6_allocates 460 = .ok (.lload 9, 2) := by decide +kernel
theorem dX6_allocates_462 : decode cX6_allocates 462 = .ok (.lcmp, 1) := by decide +kernel
theorem dX6_allocates_463 : decode cX6_allocates 463 = .ok (.ifCond .ge 7, 3) := by decide +kernel
theorem dX6_allocates_466 : decode cX6_allocates 466 = .ok (.iconst 1, 1) := by decide +kernel
theorem dX6_allocates_467 : decode cX6_allocates 467 = .ok (.goto 4, 3) := by decide +kernel
theorem dX6_allocates_470 : decode cX6_allocates 470 = .ok (.iconst 0, 1) := by decide +kernel
theorem dX6_allocates_471 : decode cX6_allocates 471 = .ok (.iadd, 1) := by decide +kernel
theorem dX6_allocates_472 : decode cX6_allocates 472 = .ok (.istore 15, 2) := by decide +kernel
theorem dX6_allocates_474 : decode cX6_allocates 474 = .ok (.aload_n 0, 1) := by decide +kernel
theorem dX6_allocates_475 : decode cX6_allocates 475 = .ok (.getfield 13, 3) := by decide +kernel
theorem dX6_allocates_478 : decode cX6_allocates 478 = .ok (.iload 11, 2) := by decide +kernel
theorem dX6_allocates_480 : decode cX6_allocates 480 = .ok (.aload_n 0, 1) := by decide +kernel
theorem dX6_allocates_481 : decode cX6_allocates 481 = .ok (.getfield 16, 3) := by decide +kernel
theorem dX6_allocates_484 : decode cX6_allocates 484 = .ok (.iload 11, 2) := by decide +kernel
theorem dX6_allocates_486 : decode cX6_allocates 486 = .ok (.iaload, 1) := by decide +kernel
theorem dX6_allocates_487 : decode cX6_allocates 487 = .ok (.iload 4, 2) := by decide +kernel
theorem dX6_allocates_489 : decode cX6_allocates 489 = .ok (.ifCond .ge 9, 3) := by decide +kernel
theorem dX6_allocates_492 : decode cX6_allocates 492 = .ok (.iload 15, 2) := by decide +kernel
theorem dX6_allocates_494 : decode cX6_allocates 494 = .ok (.ineg, 1) := by decide +kernel
theorem dX6_allocates_495 : decode cX6_allocates 495 = .ok (.goto 5, 3) := by decide +kernel
theorem dX6_allocates_498 : decode cX6_allocates 498 = .ok (.iload 15, 2) := by decide +kernel
theorem dX6_allocates_500 : decode cX6_allocates 500 = .ok (.iadd, 1) := by decide +kernel
theorem dX6_allocates_501 : decode cX6_allocates 501 = .ok (.iastore, 1) := by decide +kernel
theorem dX6_allocates_502 : decode cX6_allocates 502 = .ok (.iinc 11 1, 3) := by decide +kernel
theorem dX6_allocates_505 : decode cX6_allocates 505 = .ok (.goto (-181), 3) := by decide +kernel
theorem dX6_allocates_508 : decode cX6_allocates 508 = .ok (.return_, 1) := by decide +kernel
abbrev rm_X6_allocates : Room := { frames := 1, cells := 0, slots := 0, locals := 22 }
theorem hy_X6_allocates : yX6_allocates.cls ≠ "java/lang/invoke/MethodHandle" ∧ yX6_allocates.cls ≠ "java/lang/invoke/VarHandle" ∧ (parseMethodDescriptor yX6_allocates.desc).map (fun d => d.parameters.length) = some 1 := by decide +kernel
def w_X6_allocates_502 (k324 : Int32 → Int32 → Int64 → Int64 → Int64 → Int32 → z_S → Prop) (Q : z_S → Prop) (x1 : Int32) (x4 : Int32) (x5 : Int64) (x7 : Int64) (x9 : Int64) (x11 : Int32) (σ : z_S) : Prop :=
  ∀ y18 : Int32, y18 = (x11 + (1 : Int32)) → k324 x1 x4 x5 x7 x9 y18 σ
def w_X6_allocates_500 (k324 : Int32 → Int32 → Int64 → Int64 → Int64 → Int32 → z_S → Prop) (Q : z_S → Prop) (x1 : Int32) (x4 : Int32) (x5 : Int64) (x7 : Int64) (x9 : Int64) (x11 : Int32) (s0 : Int32) (s1 : Int32) (s2 : Int32) (σ : z_S) : Prop :=
  vp_in s2 10 ∧ ∀ σ30 : z_S, σ30 = zs_i σ 75 s2.toNatClampNeg (s1 + s0) → w_X6_allocates_502 k324 Q x1 x4 x5 x7 x9 x11 σ30
def w_X6_allocates_471 (k324 : Int32 → Int32 → Int64 → Int64 → Int64 → Int32 → z_S → Prop) (Q : z_S → Prop) (x1 : Int32) (x4 : Int32) (x5 : Int64) (x7 : Int64) (x9 : Int64) (x11 : Int32) (s0 : Int32) (s1 : Int32) (σ : z_S) : Prop :=
  ∀ y26 : Int32, y26 = (s1 + s0) → vp_in x11 10 ∧ if 0 ≤ x4 then (w_X6_allocates_500 k324 Q x1 x4 x5 x7 x9 x11 y26 (zg_i σ 76 x11.toNatClampNeg) x11 σ) else (w_X6_allocates_500 k324 Q x1 x4 x5 x7 x9 x11 (-y26) (zg_i σ 76 x11.toNatClampNeg) x11 σ)
def w_X6_allocates_441 (k324 : Int32 → Int32 → Int64 → Int64 → Int64 → Int32 → z_S → Prop) (k374 : Int32 → Int32 → Int64 → Int64 → Int64 → Int32 → Int64 → Int32 → Int32 → z_S → Prop) (Q : z_S → Prop) (x1 : Int32) (x4 : Int32) (x5 : Int64) (x7 : Int64) (x9 : Int64) (x11 : Int32) (x12 : Int64) (x15 : Int32) (s0 : Int32) (s1 : Int32) (σ : z_S) : Prop :=
  ∀ y37 : Int32, y37 = (s1 + s0) → ∀ y38 : Int32, y38 = (x15 + (1 : Int32)) → k374 x1 x4 x5 x7 x9 x11 x12 y37 y38 σ
def w_X6_allocates_440 (k324 : Int32 → Int32 → Int64 → Int64 → Int64 → Int32 → z_S → Prop) (k374 : Int32 → Int32 → Int64 → Int64 → Int64 → Int32 → Int64 → Int32 → Int32 → z_S → Prop) (Q : z_S → Prop) (x1 : Int32) (x4 : Int32) (x5 : Int64) (x7 : Int64) (x9 : Int64) (x11 : Int32) (x12 : Int64) (x15 : Int32) (s0 : Int32) (σ : z_S) : Prop :=
  w_X6_allocates_441 k324 k374 Q x1 x4 x5 x7 x9 x11 x12 x15 (0 : Int32) s0 σ
def w_X6_allocates_436 (k324 : Int32 → Int32 → Int64 → Int64 → Int64 → Int32 → z_S → Prop) (k374 : Int32 → Int32 → Int64 → Int64 → Int64 → Int32 → Int64 → Int32 → Int32 → z_S → Prop) (Q : z_S → Prop) (x1 : Int32) (x4 : Int32) (x5 : Int64) (x7 : Int64) (x9 : Int64) (x11 : Int32) (x12 : Int64) (x15 : Int32) (s0 : Int32) (σ : z_S) : Prop :=
  w_X6_allocates_441 k324 k374 Q x1 x4 x5 x7 x9 x11 x12 x15 (1 : Int32) s0 σ
def wb_X6_allocates_374 (k324 : Int32 → Int32 → Int64 → Int64 → Int64 → Int32 → z_S → Prop) (Q : z_S → Prop) (k374 : Int32 → Int32 → Int64 → Int64 → Int64 → Int32 → Int64 → Int32 → Int32 → z_S → Prop) (x1 : Int32) (x4 : Int32) (x5 : Int64) (x7 : Int64) (x9 : Int64) (x11 : Int32) (x12 : Int64) (x14 : Int32) (x15 : Int32) (σ : z_S) : Prop :=
  vp_in (0 : Int32) 1584 ∧ if (zg_i σ 74 (0 : Int32).toNatClampNeg) ≤ x15 then (vp_in x11 10 ∧ if 0 ≤ (lg_cmp x14.toInt64 x9) then (w_X6_allocates_471 k324 Q x1 x4 x5 x7 x9 x11 (0 : Int32) (zg_i σ 78 x11.toNatClampNeg) σ) else (w_X6_allocates_471 k324 Q x1 x4 x5 x7 x9 x11 (1 : Int32) (zg_i σ 78 x11.toNatClampNeg) σ)) else (vp_in x15 10 ∧ ¬ x5 = 0 ∧ ∀ y33 : Int64, y33 = ((x7 * (zg_l σ 77 x15.toNatClampNeg)) - (x7 * (zg_l σ 77 x15.toNatClampNeg)) / x5 * x5) → w_X6_of x15 (0 : Int32) σ (fun r34 σ35 => if r34 = x1 then (if 0 < (lg_cmp y33 x12) then (w_X6_allocates_436 k324 k374 Q x1 x4 x5 x7 x9 x11 x12 x15 x14 σ35) else (if (lg_cmp y33 x12) = 0 then (if x11 ≤ x15 then (w_X6_allocates_440 k324 k374 Q x1 x4 x5 x7 x9 x11 x12 x15 x14 σ35) else (w_X6_allocates_436 k324 k374 Q x1 x4 x5 x7 x9 x11 x12 x15 x14 σ35)) else (w_X6_allocates_440 k324 k374 Q x1 x4 x5 x7 x9 x11 x12 x15 x14 σ35))) else (w_X6_allocates_440 k324 k374 Q x1 x4 x5 x7 x9 x11 x12 x15 x14 σ35)))
def w_X6_allocates_374 (k324 : Int32 → Int32 → Int64 → Int64 → Int64 → Int32 → z_S → Prop) (Q : z_S → Prop) : Nat → Int32 → Int32 → Int64 → Int64 → Int64 → Int32 → Int64 → Int32 → Int32 → z_S → Prop
  | 0 => fun _ _ _ _ _ _ _ _ _ _ => False
  | n + 1 => wb_X6_allocates_374 k324 Q (w_X6_allocates_374 k324 Q n)
def wb_X6_allocates_324  (Q : z_S → Prop) (k324 : Int32 → Int32 → Int64 → Int64 → Int64 → Int32 → z_S → Prop) (x1 : Int32) (x4 : Int32) (x5 : Int64) (x7 : Int64) (x9 : Int64) (x11 : Int32) (σ : z_S) : Prop :=
  vp_in (0 : Int32) 1584 ∧ if (zg_i σ 74 (0 : Int32).toNatClampNeg) ≤ x11 then (Q σ) else (if (lg_cmp x5 (0 : Int64)) ≤ 0 then (Q σ) else (w_X6_of x11 (0 : Int32) σ (fun r15 σ16 => if r15 = x1 then (vp_in x11 10 ∧ ¬ x5 = 0 ∧ ∀ y21 : Int64, y21 = ((x7 * (zg_l σ16 77 x11.toNatClampNeg)) - (x7 * (zg_l σ16 77 x11.toNatClampNeg)) / x5 * x5) → w_X6_allocates_374 k324 Q 400 x1 x4 x5 x7 x9 x11 y21 (0 : Int32) (1 : Int32) σ16) else (w_X6_allocates_502 k324 Q x1 x4 x5 x7 x9 x11 σ16))))
def w_X6_allocates_324  (Q : z_S → Prop) : Nat → Int32 → Int32 → Int64 → Int64 → Int64 → Int32 → z_S → Prop
  | 0 => fun _ _ _ _ _ _ _ => False
  | n + 1 => wb_X6_allocates_324  Q (w_X6_allocates_324  Q n)
def w_X6_allocates_321  (Q : z_S → Prop) (x1 : Int32) (x4 : Int32) (x5 : Int64) (x7 : Int64) (x9 : Int64) (σ : z_S) : Prop :=
  w_X6_allocates_324 Q 400 x1 x4 x5 x7 x9 (1 : Int32) σ
def w_X6_allocates_312 (k227 : Int32 → Int32 → Int64 → Int64 → Int64 → Int32 → z_S → Prop) (Q : z_S → Prop) (x1 : Int32) (x4 : Int32) (x5 : Int64) (x7 : Int64) (x11 : Int32) (s0 : Int64) (s1 : Int64) (σ : z_S) : Prop :=
  ∀ y52 : Int64, y52 = (s1 - s0) → ∀ y53 : Int32, y53 = (x11 + (1 : Int32)) → k227 x1 x4 x5 x7 y52 y53 σ
def w_X6_allocates_286 (k227 : Int32 → Int32 → Int64 → Int64 → Int64 → Int32 → z_S → Prop) (Q : z_S → Prop) (x1 : Int32) (x4 : Int32) (x5 : Int64) (x7 : Int64) (x9 : Int64) (x11 : Int32) (s0 : Int32) (s1 : Int32) (σ : z_S) : Prop :=
  vp_in s1 10 ∧ ∀ σ48 : z_S, σ48 = zs_i σ 78 s1.toNatClampNeg s0 → w_X6_of x11 (0 : Int32) σ48 (fun r49 σ50 => if r49 = x1 then (vp_in x11 10 ∧ w_X6_allocates_312 k227 Q x1 x4 x5 x7 x11 ((zg_i σ50 78 x11.toNatClampNeg).toInt64) x9 σ50) else (w_X6_allocates_312 k227 Q x1 x4 x5 x7 x11 (0 : Int64) x9 σ50))
def wb_X6_allocates_227  (Q : z_S → Prop) (k227 : Int32 → Int32 → Int64 → Int64 → Int64 → Int32 → z_S → Prop) (x1 : Int32) (x4 : Int32) (x5 : Int64) (x7 : Int64) (x9 : Int64) (x11 : Int32) (σ : z_S) : Prop :=
  vp_in (0 : Int32) 1584 ∧ if (zg_i σ 74 (0 : Int32).toNatClampNeg) ≤ x11 then (w_X6_allocates_321 Q x1 x4 x5 x7 x9 σ) else (if (lg_cmp x5 (0 : Int64)) ≤ 0 then (w_X6_allocates_321 Q x1 x4 x5 x7 x9 σ) else (w_X6_of x11 (0 : Int32) σ (fun r43 σ44 => if r43 = x1 then (vp_in x11 10 ∧ ¬ x5 = 0 ∧ w_X6_allocates_286 k227 Q x1 x4 x5 x7 x9 x11 (((x7 * (zg_l σ44 77 x11.toNatClampNeg)) / x5).toInt32) x11 σ44) else (vp_in x11 10 ∧ w_X6_allocates_286 k227 Q x1 x4 x5 x7 x9 x11 (zg_i σ44 78 x11.toNatClampNeg) x11 σ44))))
def w_X6_allocates_227  (Q : z_S → Prop) : Nat → Int32 → Int32 → Int64 → Int64 → Int64 → Int32 → z_S → Prop
  | 0 => fun _ _ _ _ _ _ _ => False
  | n + 1 => wb_X6_allocates_227  Q (w_X6_allocates_227  Q n)
def w_X6_allocates_218  (Q : z_S → Prop) (x1 : Int32) (x4 : Int32) (x5 : Int64) (s0 : Int64) (σ : z_S) : Prop :=
  w_X6_allocates_227 Q 400 x1 x4 x5 s0 s0 (1 : Int32) σ
def wb_X6_allocates_174  (Q : z_S → Prop) (k174 : Int32 → Int32 → Int64 → Int32 → z_S → Prop) (x1 : Int32) (x4 : Int32) (x5 : Int64) (x7 : Int32) (σ : z_S) : Prop :=
  vp_in (0 : Int32) 1584 ∧ if (zg_i σ 74 (0 : Int32).toNatClampNeg) ≤ x7 then (if 0 ≤ x4 then (w_X6_allocates_218 Q x1 x4 x5 x4.toInt64 σ) else (w_X6_allocates_218 Q x1 x4 x5 (-x4.toInt64) σ)) else (vp_in x7 10 ∧ ∀ y58 : Int64, y58 = (x5 + (zg_l σ 77 x7.toNatClampNeg)) → ∀ y59 : Int32, y59 = (x7 + (1 : Int32)) → k174 x1 x4 y58 y59 σ)
def w_X6_allocates_174  (Q : z_S → Prop) : Nat → Int32 → Int32 → Int64 → Int32 → z_S → Prop
  | 0 => fun _ _ _ _ _ => False
  | n + 1 => wb_X6_allocates_174  Q (w_X6_allocates_174  Q n)
def w_X6_allocates_168  (Q : z_S → Prop) (x1 : Int32) (x4 : Int32) (σ : z_S) : Prop :=
  w_X6_allocates_174 Q 400 x1 x4 (0 : Int64) (1 : Int32) σ
def w_X6_allocates_161 (k115 : Int32 → Int64 → Int32 → Int32 → z_S → Prop) (Q : z_S → Prop) (x1 : Int32) (x2 : Int64) (x4 : Int32) (x5 : Int32) (s0 : Int64) (s1 : Int32) (σ : z_S) : Prop :=
  vp_in s1 10 ∧ ∀ σ65 : z_S, σ65 = zs_l σ 77 s1.toNatClampNeg s0 → ∀ y66 : Int32, y66 = (x5 + (1 : Int32)) → k115 x1 x2 x4 y66 σ65
def wb_X6_allocates_115  (Q : z_S → Prop) (k115 : Int32 → Int64 → Int32 → Int32 → z_S → Prop) (x1 : Int32) (x2 : Int64) (x4 : Int32) (x5 : Int32) (σ : z_S) : Prop :=
  vp_in (0 : Int32) 1584 ∧ if (zg_i σ 74 (0 : Int32).toNatClampNeg) ≤ x5 then (w_X6_allocates_168 Q x1 x4 σ) else (if (lg_cmp x2 (0 : Int64)) = 0 then (w_X6_of x5 (0 : Int32) σ (fun r61 σ62 => if r61 = x1 then (w_X6_of x5 (4 : Int32) σ62 (fun r67 σ68 => w_X6_allocates_161 k115 Q x1 x2 x4 x5 r67.toInt64 x5 σ68)) else (w_X6_allocates_161 k115 Q x1 x2 x4 x5 (0 : Int64) x5 σ62))) else (w_X6_allocates_168 Q x1 x4 σ))
def w_X6_allocates_115  (Q : z_S → Prop) : Nat → Int32 → Int64 → Int32 → Int32 → z_S → Prop
  | 0 => fun _ _ _ _ _ => False
  | n + 1 => wb_X6_allocates_115  Q (w_X6_allocates_115  Q n)
def w_X6_allocates_103 (k13 : Int32 → Int64 → Int32 → Int32 → z_S → Prop) (Q : z_S → Prop) (x1 : Int32) (x2 : Int64) (x5 : Int32) (s0 : Int32) (s1 : Int32) (σ : z_S) : Prop :=
  ∀ y78 : Int32, y78 = (s1 - s0) → ∀ y79 : Int32, y79 = (x5 + (1 : Int32)) → k13 x1 x2 y78 y79 σ
def w_X6_allocates_74 (k13 : Int32 → Int64 → Int32 → Int32 → z_S → Prop) (Q : z_S → Prop) (x1 : Int32) (x2 : Int64) (x4 : Int32) (x5 : Int32) (x6 : Int32) (s0 : Int64) (s1 : Int32) (σ : z_S) : Prop :=
  vp_in s1 10 ∧ ∀ σ74 : z_S, σ74 = zs_l σ 77 s1.toNatClampNeg s0 → vp_in x5 10 ∧ ∀ y76 : Int64, y76 = (x2 + (zg_l σ74 77 x5.toNatClampNeg)) → if x6 = 0 then (w_X6_allocates_103 k13 Q x1 y76 x5 (0 : Int32) x4 σ74) else (vp_in x5 10 ∧ w_X6_allocates_103 k13 Q x1 y76 x5 (zg_i σ74 76 x5.toNatClampNeg) x4 σ74)
def w_X6_allocates_40 (k13 : Int32 → Int64 → Int32 → Int32 → z_S → Prop) (Q : z_S → Prop) (x1 : Int32) (x2 : Int64) (x4 : Int32) (x5 : Int32) (s0 : Int32) (σ : z_S) : Prop :=
  if s0 = 0 then (w_X6_allocates_74 k13 Q x1 x2 x4 x5 s0 (0 : Int64) x5 σ) else (w_X6_of x5 (4 : Int32) σ (fun r81 σ82 => vp_in x5 10 ∧ w_X6_allocates_74 k13 Q x1 x2 x4 x5 s0 (r81.toInt64 * ((zg_i σ82 76 x5.toNatClampNeg).toInt64)) x5 σ82))
def wb_X6_allocates_13  (Q : z_S → Prop) (k13 : Int32 → Int64 → Int32 → Int32 → z_S → Prop) (x1 : Int32) (x2 : Int64) (x4 : Int32) (x5 : Int32) (σ : z_S) : Prop :=
  vp_in (0 : Int32) 1584 ∧ if (zg_i σ 74 (0 : Int32).toNatClampNeg) ≤ x5 then (w_X6_allocates_115 Q 400 x1 x2 x4 (1 : Int32) σ) else (w_X6_of x5 (0 : Int32) σ (fun r69 σ70 => if r69 = x1 then (w_X6_allocates_40 k13 Q x1 x2 x4 x5 (1 : Int32) σ70) else (w_X6_allocates_40 k13 Q x1 x2 x4 x5 (0 : Int32) σ70)))
def w_X6_allocates_13  (Q : z_S → Prop) : Nat → Int32 → Int64 → Int32 → Int32 → z_S → Prop
  | 0 => fun _ _ _ _ _ => False
  | n + 1 => wb_X6_allocates_13  Q (w_X6_allocates_13  Q n)
def w_X6_allocates (a1 : Int32) (σ : z_S) (Q : z_S → Prop) : Prop :=
  vp_in a1 10 ∧ ∀ y2 : Int32, y2 = (zg_i σ 75 a1.toNatClampNeg) → w_X6_allocates_13 Q 400 a1 (0 : Int64) y2 (1 : Int32) σ
set_option maxHeartbeats 4000000 in
set_option maxRecDepth 100000 in
theorem t_X6_allocates_502 {l : Launch} {D : va_G} {cI cJ cM cS : ClassId} {n0 : Nat} {p : Program} {e : Env} {s : State} {m : MethodId} {args : Array Value} {below : List Frame} {meth : Method} {c : Code} {k324 : Int32 → Int32 → Int64 → Int64 → Int64 → Int32 → z_S → Prop} {Q : z_S → Prop} (hX : z_X D cI cJ cM cS p s m args c cX6_allocates 18 yX6_allocates.cls) (hY : z_Y s meth none) (hk324 : ∀ (x1 : Int32) (x4 : Int32) (x5 : Int64) (x7 : Int64) (x9 : Int64) (x11 : Int32) (σ : z_S), k324 x1 x4 x5 x7 x9 x11 σ → z_t D cI cJ cM cS n0 p l e rm_X6_allocates s m args below meth c 18 (MQ below (va_Qv Q (fun u t => z_Bq D cI cJ cM cS n0 u t) (z_Ab n0)) args s 0 0 (z_Ab n0)) 0 0 324 [(0, .ref (n0 + 73)), (1, .int x1), (4, .int x4), (5, .long x5), (7, .long x7), (9, .long x9), (11, .int x11)] [] σ) (x1 : Int32) (x4 : Int32) (x5 : Int64) (x7 : Int64) (x9 : Int64) (x11 : Int32) (σ : z_S) (hf : w_X6_allocates_502 k324 Q x1 x4 x5 x7 x9 x11 σ) : z_t D cI cJ cM cS n0 p l e rm_X6_allocates s m args below meth c 18 (MQ below (va_Qv Q (fun u t => z_Bq D cI cJ cM cS n0 u t) (z_Ab n0)) args s 0 0 (z_Ab n0)) 0 0 502 [(0, .ref (n0 + 73)), (1, .int x1), (4, .int x4), (5, .long x5), (7, .long x7), (9, .long x9), (11, .int x11)] [] σ := by
  unfold w_X6_allocates_502 at hf
  obtain ⟨y18, e18⟩ : ∃ y : Int32, y = (x11 + (1 : Int32)) := ⟨_, rfl⟩
  replace hf := hf y18 e18
  refine zt_iinc (L' := [(11, .int y18), (0, .ref (n0 + 73)), (1, .int x1), (4, .int x4), (5, .long x5), (7, .long x7), (9, .long x9)]) hX 6 dX6_allocates_502 rfl (v := y18) (by rw [e18]; rfl) (by decide) rfl ?_
  refine zt_goto hX dX6_allocates_505 (tgt := 324) (by decide) ?_
  exact zt_sub [1, 2, 3, 4, 5, 6, 0] rfl (hk324 _ _ _ _ _ _ _ hf)
set_option maxHeartbeats 4000000 in
set_option maxRecDepth 100000 in
theorem t_X6_allocates_500 {l : Launch} {D : va_G} {cI cJ cM cS : ClassId} {n0 : Nat} {p : Program} {e : Env} {s : State} {m : MethodId} {args : Array Value} {below : List Frame} {meth : Method} {c : Code} {k324 : Int32 → Int32 → Int64 → Int64 → Int64 → Int32 → z_S → Prop} {Q : z_S → Prop} (hX : z_X D cI cJ cM cS p s m args c cX6_allocates 18 yX6_allocates.cls) (hY : z_Y s meth none) (hk324 : ∀ (x1 : Int32) (x4 : Int32) (x5 : Int64) (x7 : Int64) (x9 : Int64) (x11 : Int32) (σ : z_S), k324 x1 x4 x5 x7 x9 x11 σ → z_t D cI cJ cM cS n0 p l e rm_X6_allocates s m args below meth c 18 (MQ below (va_Qv Q (fun u t => z_Bq D cI cJ cM cS n0 u t) (z_Ab n0)) args s 0 0 (z_Ab n0)) 0 0 324 [(0, .ref (n0 + 73)), (1, .int x1), (4, .int x4), (5, .long x5), (7, .long x7), (9, .long x9), (11, .int x11)] [] σ) (x1 : Int32) (x4 : Int32) (x5 : Int64) (x7 : Int64) (x9 : Int64) (x11 : Int32) (s0 : Int32) (s1 : Int32) (s2 : Int32) (σ : z_S) (hf : w_X6_allocates_500 k324 Q x1 x4 x5 x7 x9 x11 s0 s1 s2 σ) : z_t D cI cJ cM cS n0 p l e rm_X6_allocates s m args below meth c 18 (MQ below (va_Qv Q (fun u t => z_Bq D cI cJ cM cS n0 u t) (z_Ab n0)) args s 0 0 (z_Ab n0)) 0 0 500 [(0, .ref (n0 + 73)), (1, .int x1), (4, .int x4), (5, .long x5), (7, .long x7), (9, .long x9), (11, .int x11)] [.int s0, .int s1, .int s2, .ref (n0 + 75)] σ := by
  unfold w_X6_allocates_500 at hf
  refine zt_iadd hX dX6_allocates_500 ?_
  obtain ⟨h29, hf⟩ := hf
  refine zt_iastore hX dX6_allocates_501 (by decide) rfl h29 ?_
  refine zt_nms (fun σ30 d30 => ?_)
  replace hf := hf σ30 d30
  exact zt_sub [0, 1, 2, 3, 4, 5, 6] rfl (t_X6_allocates_502 hX hY hk324 _ _ _ _ _ _ _ hf)
set_option maxHeartbeats 4000000 in
set_option maxRecDepth 100000 in
theorem t_X6_allocates_471 {l : Launch} {D : va_G} {cI cJ cM cS : ClassId} {n0 : Nat} {p : Program} {e : Env} {s : State} {m : MethodId} {args : Array Value} {below : List Frame} {meth : Method} {c : Code} {k324 : Int32 → Int32 → Int64 → Int64 → Int64 → Int32 → z_S → Prop} {Q : z_S → Prop} (hX : z_X D cI cJ cM cS p s m args c cX6_allocates 18 yX6_allocates.cls) (hY : z_Y s meth none) (hk324 : ∀ (x1 : Int32) (x4 : Int32) (x5 : Int64) (x7 : Int64) (x9 : Int64) (x11 : Int32) (σ : z_S), k324 x1 x4 x5 x7 x9 x11 σ → z_t D cI cJ cM cS n0 p l e rm_X6_allocates s m args below meth c 18 (MQ below (va_Qv Q (fun u t => z_Bq D cI cJ cM cS n0 u t) (z_Ab n0)) args s 0 0 (z_Ab n0)) 0 0 324 [(0, .ref (n0 + 73)), (1, .int x1), (4, .int x4), (5, .long x5), (7, .long x7), (9, .long x9), (11, .int x11)] [] σ) (x1 : Int32) (x4 : Int32) (x5 : Int64) (x7 : Int64) (x9 : Int64) (x11 : Int32) (s0 : Int32) (s1 : Int32) (σ : z_S) (hf : w_X6_allocates_471 k324 Q x1 x4 x5 x7 x9 x11 s0 s1 σ) : z_t D cI cJ cM cS n0 p l e rm_X6_allocates s m args below meth c 18 (MQ below (va_Qv Q (fun u t => z_Bq D cI cJ cM cS n0 u t) (z_Ab n0)) args s 0 0 (z_Ab n0)) 0 0 471 [(0, .ref (n0 + 73)), (1, .int x1), (4, .int x4), (5, .long x5), (7, .long x7), (9, .long x9), (11, .int x11)] [.int s0, .int s1] σ := by
  unfold w_X6_allocates_471 at hf
  refine zt_iadd hX dX6_allocates_471 ?_
  refine zt_nmi (fun y26 e26 => ?_)
  replace hf := hf y26 e26
  refine zt_istore (L' := [(15, .int y26), (0, .ref (n0 + 73)), (1, .int x1), (4, .int x4), (5, .long x5), (7, .long x7), (9, .long x9), (11, .int x11)]) hX dX6_allocates_472 (by decide) rfl ?_
  refine zt_aload_n hX 1 dX6_allocates_474 rfl rfl ?_
  refine zt_get_X6 hX (by decide) (zE_73 _ _) 2 (by decide) kw_656 rfl rfl dX6_allocates_475 ?_
  refine zt_iload hX 7 dX6_allocates_478 rfl ?_
  refine zt_aload_n hX 1 dX6_allocates_480 rfl rfl ?_
  refine zt_get_X6 hX (by decide) (zE_73 _ _) 3 (by decide) kw_657 rfl rfl dX6_allocates_481 ?_
  refine zt_iload hX 7 dX6_allocates_484 rfl ?_
  obtain ⟨h27, hf⟩ := hf
  refine zt_iaload hX dX6_allocates_486 (by decide) rfl h27 ?_
  refine zt_iload hX 3 dX6_allocates_487 rfl ?_
  refine zt_if_ge hX dX6_allocates_489 (tgt := 498) (by decide) (fun c28 => ?_) (fun c28 => ?_)
  · replace hf := z_pos hf c28
    refine zt_iload hX 0 dX6_allocates_498 rfl ?_
    exact zt_sub [1, 2, 3, 4, 5, 6, 7] rfl (t_X6_allocates_500 hX hY hk324 _ _ _ _ _ _ _ _ _ _ hf)
  · replace hf := z_neg hf c28
    refine zt_iload hX 0 dX6_allocates_492 rfl ?_
    refine zt_ineg hX dX6_allocates_494 ?_
    refine zt_goto hX dX6_allocates_495 (tgt := 500) (by decide) ?_
    exact zt_sub [1, 2, 3, 4, 5, 6, 7] rfl (t_X6_allocates_500 hX hY hk324 _ _ _ _ _ _ _ _ _ _ hf)
set_option maxHeartbeats 4000000 in
set_option maxRecDepth 100000 in
theorem t_X6_allocates_441 {l : Launch} {D : va_G} {cI cJ cM cS : ClassId} {n0 : Nat} {p : Program} {e : Env} {s : State} {m : MethodId} {args : Array Value} {below : List Frame} {meth : Method} {c : Code} {k324 : Int32 → Int32 → Int64 → Int64 → Int64 → Int32 → z_S → Prop} {k374 : Int32 → Int32 → Int64 → Int64 → Int64 → Int32 → Int64 → Int32 → Int32 → z_S → Prop} {Q : z_S → Prop} (hX : z_X D cI cJ cM cS p s m args c cX6_allocates 18 yX6_allocates.cls) (hY : z_Y s meth none) (hk324 : ∀ (x1 : Int32) (x4 : Int32) (x5 : Int64) (x7 : Int64) (x9 : Int64) (x11 : Int32) (σ : z_S), k324 x1 x4 x5 x7 x9 x11 σ → z_t D cI cJ cM cS n0 p l e rm_X6_allocates s m args below meth c 18 (MQ below (va_Qv Q (fun u t => z_Bq D cI cJ cM cS n0 u t) (z_Ab n0)) args s 0 0 (z_Ab n0)) 0 0 324 [(0, .ref (n0 + 73)), (1, .int x1), (4, .int x4), (5, .long x5), (7, .long x7), (9, .long x9), (11, .int x11)] [] σ) (hk374 : ∀ (x1 : Int32) (x4 : Int32) (x5 : Int64) (x7 : Int64) (x9 : Int64) (x11 : Int32) (x12 : Int64) (x14 : Int32) (x15 : Int32) (σ : z_S), k374 x1 x4 x5 x7 x9 x11 x12 x14 x15 σ → z_t D cI cJ cM cS n0 p l e rm_X6_allocates s m args below meth c 18 (MQ below (va_Qv Q (fun u t => z_Bq D cI cJ cM cS n0 u t) (z_Ab n0)) args s 0 0 (z_Ab n0)) 0 0 374 [(0, .ref (n0 + 73)), (1, .int x1), (4, .int x4), (5, .long x5), (7, .long x7), (9, .long x9), (11, .int x11), (12, .long x12), (14, .int x14), (15, .int x15)] [] σ) (x1 : Int32) (x4 : Int32) (x5 : Int64) (x7 : Int64) (x9 : Int64) (x11 : Int32) (x12 : Int64) (x15 : Int32) (s0 : Int32) (s1 : Int32) (σ : z_S) (hf : w_X6_allocates_441 k324 k374 Q x1 x4 x5 x7 x9 x11 x12 x15 s0 s1 σ) : z_t D cI cJ cM cS n0 p l e rm_X6_allocates s m args below meth c 18 (MQ below (va_Qv Q (fun u t => z_Bq D cI cJ cM cS n0 u t) (z_Ab n0)) args s 0 0 (z_Ab n0)) 0 0 441 [(0, .ref (n0 + 73)), (1, .int x1), (4, .int x4), (5, .long x5), (7, .long x7), (9, .long x9), (11, .int x11), (12, .long x12), (15, .int x15)] [.int s0, .int s1] σ := by
  unfold w_X6_allocates_441 at hf
  refine zt_iadd hX dX6_allocates_441 ?_
  refine zt_nmi (fun y37 e37 => ?_)
  replace hf := hf y37 e37
  refine zt_istore (L' := [(14, .int y37), (0, .ref (n0 + 73)), (1, .int x1), (4, .int x4), (5, .long x5), (7, .long x7), (9, .long x9), (11, .int x11), (12, .long x12), (15, .int x15)]) hX dX6_allocates_442 (by decide) rfl ?_
  obtain ⟨y38, e38⟩ : ∃ y : Int32, y = (x15 + (1 : Int32)) := ⟨_, rfl⟩
  replace hf := hf y38 e38
  refine zt_iinc (L' := [(15, .int y38), (14, .int y37), (0, .ref (n0 + 73)), (1, .int x1), (4, .int x4), (5, .long x5), (7, .long x7), (9, .long x9), (11, .int x11), (12, .long x12)]) hX 9 dX6_allocates_444 rfl (v := y38) (by rw [e38]; rfl) (by decide) rfl ?_
  refine zt_goto hX dX6_allocates_447 (tgt := 374) (by decide) ?_
  exact zt_sub [2, 3, 4, 5, 6, 7, 8, 9, 1, 0] rfl (hk374 _ _ _ _ _ _ _ _ _ _ hf)
set_option maxHeartbeats 4000000 in
set_option maxRecDepth 100000 in
theorem t_X6_allocates_440 {l : Launch} {D : va_G} {cI cJ cM cS : ClassId} {n0 : Nat} {p : Program} {e : Env} {s : State} {m : MethodId} {args : Array Value} {below : List Frame} {meth : Method} {c : Code} {k324 : Int32 → Int32 → Int64 → Int64 → Int64 → Int32 → z_S → Prop} {k374 : Int32 → Int32 → Int64 → Int64 → Int64 → Int32 → Int64 → Int32 → Int32 → z_S → Prop} {Q : z_S → Prop} (hX : z_X D cI cJ cM cS p s m args c cX6_allocates 18 yX6_allocates.cls) (hY : z_Y s meth none) (hk324 : ∀ (x1 : Int32) (x4 : Int32) (x5 : Int64) (x7 : Int64) (x9 : Int64) (x11 : Int32) (σ : z_S), k324 x1 x4 x5 x7 x9 x11 σ → z_t D cI cJ cM cS n0 p l e rm_X6_allocates s m args below meth c 18 (MQ below (va_Qv Q (fun u t => z_Bq D cI cJ cM cS n0 u t) (z_Ab n0)) args s 0 0 (z_Ab n0)) 0 0 324 [(0, .ref (n0 + 73)), (1, .int x1), (4, .int x4), (5, .long x5), (7, .long x7), (9, .long x9), (11, .int x11)] [] σ) (hk374 : ∀ (x1 : Int32) (x4 : Int32) (x5 : Int64) (x7 : Int64) (x9 : Int64) (x11 : Int32) (x12 : Int64) (x14 : Int32) (x15 : Int32) (σ : z_S), k374 x1 x4 x5 x7 x9 x11 x12 x14 x15 σ → z_t D cI cJ cM cS n0 p l e rm_X6_allocates s m args below meth c 18 (MQ below (va_Qv Q (fun u t => z_Bq D cI cJ cM cS n0 u t) (z_Ab n0)) args s 0 0 (z_Ab n0)) 0 0 374 [(0, .ref (n0 + 73)), (1, .int x1), (4, .int x4), (5, .long x5), (7, .long x7), (9, .long x9), (11, .int x11), (12, .long x12), (14, .int x14), (15, .int x15)] [] σ) (x1 : Int32) (x4 : Int32) (x5 : Int64) (x7 : Int64) (x9 : Int64) (x11 : Int32) (x12 : Int64) (x15 : Int32) (s0 : Int32) (σ : z_S) (hf : w_X6_allocates_440 k324 k374 Q x1 x4 x5 x7 x9 x11 x12 x15 s0 σ) : z_t D cI cJ cM cS n0 p l e rm_X6_allocates s m args below meth c 18 (MQ below (va_Qv Q (fun u t => z_Bq D cI cJ cM cS n0 u t) (z_Ab n0)) args s 0 0 (z_Ab n0)) 0 0 440 [(0, .ref (n0 + 73)), (1, .int x1), (4, .int x4), (5, .long x5), (7, .long x7), (9, .long x9), (11, .int x11), (12, .long x12), (15, .int x15)] [.int s0] σ := by
  unfold w_X6_allocates_440 at hf
  refine zt_iconst hX dX6_allocates_440 (v := (0 : Int32)) (by decide) ?_
  exact zt_sub [0, 1, 2, 3, 4, 5, 6, 7, 8] rfl (t_X6_allocates_441 hX hY hk324 hk374 _ _ _ _ _ _ _ _ _ _ _ hf)
set_option maxHeartbeats 4000000 in
set_option maxRecDepth 100000 in
theorem t_X6_allocates_436 {l : Launch} {D : va_G} {cI cJ cM cS : ClassId} {n0 : Nat} {p : Program} {e : Env} {s : State} {m : MethodId} {args : Array Value} {below : List Frame} {meth : Method} {c : Code} {k324 : Int32 → Int32 → Int64 → Int64 → Int64 → Int32 → z_S → Prop} {k374 : Int32 → Int32 → Int64 → Int64 → Int64 → Int32 → Int64 → Int32 → Int32 → z_S → Prop} {Q : z_S → Prop} (hX : z_X D cI cJ cM cS p s m args c cX6_allocates 18 yX6_allocates.cls) (hY : z_Y s meth none) (hk324 : ∀ (x1 : Int32) (x4 : Int32) (x5 : Int64) (x7 : Int64) (x9 : Int64) (x11 : Int32) (σ : z_S), k324 x1 x4 x5 x7 x9 x11 σ → z_t D cI cJ cM cS n0 p l e rm_X6_allocates s m args below meth c 18 (MQ below (va_Qv Q (fun u t => z_Bq D cI cJ cM cS n0 u t) (z_Ab n0)) args s 0 0 (z_Ab n0)) 0 0 324 [(0, .ref (n0 + 73)), (1, .int x1), (4, .int x4), (5, .long x5), (7, .long x7), (9, .long x9), (11, .int x11)] [] σ) (hk374 : ∀ (x1 : Int32) (x4 : Int32) (x5 : Int64) (x7 : Int64) (x9 : Int64) (x11 : Int32) (x12 : Int64) (x14 : Int32) (x15 : Int32) (σ : z_S), k374 x1 x4 x5 x7 x9 x11 x12 x14 x15 σ → z_t D cI cJ cM cS n0 p l e rm_X6_allocates s m args below meth c 18 (MQ below (va_Qv Q (fun u t => z_Bq D cI cJ cM cS n0 u t) (z_Ab n0)) args s 0 0 (z_Ab n0)) 0 0 374 [(0, .ref (n0 + 73)), (1, .int x1), (4, .int x4), (5, .long x5), (7, .long x7), (9, .long x9), (11, .int x11), (12, .long x12), (14, .int x14), (15, .int x15)] [] σ) (x1 : Int32) (x4 : Int32) (x5 : Int64) (x7 : Int64) (x9 : Int64) (x11 : Int32) (x12 : Int64) (x15 : Int32) (s0 : Int32) (σ : z_S) (hf : w_X6_allocates_436 k324 k374 Q x1 x4 x5 x7 x9 x11 x12 x15 s0 σ) : z_t D cI cJ cM cS n0 p l e rm_X6_allocates s m args below meth c 18 (MQ below (va_Qv Q (fun u t => z_Bq D cI cJ cM cS n0 u t) (z_Ab n0)) args s 0 0 (z_Ab n0)) 0 0 436 [(0, .ref (n0 + 73)), (1, .int x1), (4, .int x4), (5, .long x5), (7, .long x7), (9, .long x9), (11, .int x11), (12, .long x12), (15, .int x15)] [.int s0] σ := by
  unfold w_X6_allocates_436 at hf
  refine zt_iconst hX dX6_allocates_436 (v := (1 : Int32)) (by decide) ?_
  refine zt_goto hX dX6_allocates_437 (tgt := 441) (by decide) ?_
  exact zt_sub [0, 1, 2, 3, 4, 5, 6, 7, 8] rfl (t_X6_allocates_441 hX hY hk324 hk374 _ _ _ _ _ _ _ _ _ _ _ hf)
set_option maxHeartbeats 4000000 in
set_option maxRecDepth 100000 in
theorem t_X6_allocates_374 {l : Launch} {D : va_G} {cI cJ cM cS : ClassId} {n0 : Nat} {p : Program} {e : Env} {s : State} {m : MethodId} {args : Array Value} {below : List Frame} {meth : Method} {c : Code} {k324 : Int32 → Int32 → Int64 → Int64 → Int64 → Int32 → z_S → Prop} {Q : z_S → Prop} (hX : z_X D cI cJ cM cS p s m args c cX6_allocates 18 yX6_allocates.cls) (hY : z_Y s meth none) (hk324 : ∀ (x1 : Int32) (x4 : Int32) (x5 : Int64) (x7 : Int64) (x9 : Int64) (x11 : Int32) (σ : z_S), k324 x1 x4 x5 x7 x9 x11 σ → z_t D cI cJ cM cS n0 p l e rm_X6_allocates s m args below meth c 18 (MQ below (va_Qv Q (fun u t => z_Bq D cI cJ cM cS n0 u t) (z_Ab n0)) args s 0 0 (z_Ab n0)) 0 0 324 [(0, .ref (n0 + 73)), (1, .int x1), (4, .int x4), (5, .long x5), (7, .long x7), (9, .long x9), (11, .int x11)] [] σ) : ∀ (n : Nat) (x1 : Int32) (x4 : Int32) (x5 : Int64) (x7 : Int64) (x9 : Int64) (x11 : Int32) (x12 : Int64) (x14 : Int32) (x15 : Int32) (σ : z_S), w_X6_allocates_374 k324 Q n x1 x4 x5 x7 x9 x11 x12 x14 x15 σ → z_t D cI cJ cM cS n0 p l e rm_X6_allocates s m args below meth c 18 (MQ below (va_Qv Q (fun u t => z_Bq D cI cJ cM cS n0 u t) (z_Ab n0)) args s 0 0 (z_Ab n0)) 0 0 374 [(0, .ref (n0 + 73)), (1, .int x1), (4, .int x4), (5, .long x5), (7, .long x7), (9, .long x9), (11, .int x11), (12, .long x12), (14, .int x14), (15, .int x15)] [] σ := by
  intro n
  induction n with
  | zero => intro _ _ _ _ _ _ _ _ _ _ hf; exact hf.elim
  | succ n ih374 =>
    intro x1 x4 x5 x7 x9 x11 x12 x14 x15 σ hf
    have hf : wb_X6_allocates_374 k324 Q (w_X6_allocates_374 k324 Q n) x1 x4 x5 x7 x9 x11 x12 x14 x15 σ := hf
    unfold wb_X6_allocates_374 at hf
    refine zt_iload hX 9 dX6_allocates_374 rfl ?_
    refine zt_aload_n hX 0 dX6_allocates_376 rfl rfl ?_
    refine zt_get_X6 hX (by decide) (zE_73 _ _) 0 (by decide) kw_654 rfl rfl dX6_allocates_377 ?_
    refine zt_iconst hX dX6_allocates_380 (v := (0 : Int32)) (by decide) ?_
    obtain ⟨h22, hf⟩ := hf
    refine zt_iaload hX dX6_allocates_381 (by decide) rfl h22 ?_
    refine zt_icmp_ge hX dX6_allocates_382 (tgt := 450) (by decide) (fun c23 => ?_) (fun c23 => ?_)
    · replace hf := z_pos hf c23
      refine zt_aload_n hX 0 dX6_allocates_450 rfl rfl ?_
      refine zt_get_X6 hX (by decide) (zE_73 _ _) 5 (by decide) kw_659 rfl rfl dX6_allocates_451 ?_
      refine zt_iload hX 6 dX6_allocates_454 rfl ?_
      obtain ⟨h24, hf⟩ := hf
      refine zt_iaload hX dX6_allocates_456 (by decide) rfl h24 ?_
      refine zt_iload hX 8 dX6_allocates_457 rfl ?_
      refine zt_i2l hX dX6_allocates_459 ?_
      refine zt_lload hX 5 dX6_allocates_460 rfl ?_
      refine zt_lcmp hX dX6_allocates_462 ?_
      refine zt_if_ge hX dX6_allocates_463 (tgt := 470) (by decide) (fun c25 => ?_) (fun c25 => ?_)
      · replace hf := z_pos hf c25
        refine zt_iconst hX dX6_allocates_470 (v := (0 : Int32)) (by decide) ?_
        exact zt_sub [0, 1, 2, 3, 4, 5, 6] rfl (t_X6_allocates_471 hX hY hk324 _ _ _ _ _ _ _ _ _ hf)
      · replace hf := z_neg hf c25
        refine zt_iconst hX dX6_allocates_466 (v := (1 : Int32)) (by decide) ?_
        refine zt_goto hX dX6_allocates_467 (tgt := 471) (by decide) ?_
        exact zt_sub [0, 1, 2, 3, 4, 5, 6] rfl (t_X6_allocates_471 hX hY hk324 _ _ _ _ _ _ _ _ _ hf)
    · replace hf := z_neg hf c23
      refine zt_lload hX 4 dX6_allocates_385 rfl ?_
      refine zt_aload_n hX 0 dX6_allocates_387 rfl rfl ?_
      refine zt_get_X6 hX (by decide) (zE_73 _ _) 4 (by decide) kw_658 rfl rfl dX6_allocates_388 ?_
      refine zt_iload hX 9 dX6_allocates_391 rfl ?_
      obtain ⟨h31, hf⟩ := hf
      refine zt_laload hX dX6_allocates_393 (by decide) rfl h31 ?_
      refine zt_lmul hX dX6_allocates_394 ?_
      refine zt_lload hX 3 dX6_allocates_395 rfl ?_
      obtain ⟨h32, hf⟩ := hf
      refine zt_lrem hX dX6_allocates_397 h32 ?_
      refine zt_nml (fun y33 e33 => ?_)
      replace hf := hf y33 e33
      refine zt_lstore (L' := [(16, .long y33), (0, .ref (n0 + 73)), (1, .int x1), (4, .int x4), (5, .long x5), (7, .long x7), (9, .long x9), (11, .int x11), (12, .long x12), (14, .int x14), (15, .int x15)]) hX dX6_allocates_398 (by decide) rfl ?_
      refine zt_iload hX 9 dX6_allocates_400 rfl ?_
      refine zt_aload_n hX 1 dX6_allocates_402 rfl rfl ?_
      refine zt_iload hX 10 dX6_allocates_403 rfl ?_
      refine zt_iconst hX dX6_allocates_405 (v := (0 : Int32)) (by decide) ?_
      refine zt_calliV hX hY (av := [.int x15, .int (0 : Int32)]) (c_X6_of hf) dX6_allocates_406 rfl kw_729 kw_731 kw_25 kw_67 kw_732 ⟨rfl, rfl⟩ hy_X6_of ⟨by decide, by decide⟩ ⟨by decide, by decide⟩ (Nat.le_of_ble_eq_true rfl) (by decide) (zE_73 _ _) rfl rfl (fun r34 σ35 hf => ?_)
      refine zt_iload_n hX 2 dX6_allocates_409 rfl rfl ?_
      refine zt_icmp_ne hX dX6_allocates_410 (tgt := 440) (by decide) (fun c36 => ?_) (fun c36 => ?_)
      · replace hf := z_neg hf c36
        exact zt_sub [1, 2, 3, 4, 5, 6, 7, 8, 10] rfl (t_X6_allocates_440 hX hY hk324 ih374 _ _ _ _ _ _ _ _ _ _ hf)
      · replace hf := z_pos hf c36
        refine zt_lload hX 0 dX6_allocates_413 rfl ?_
        refine zt_lload hX 8 dX6_allocates_415 rfl ?_
        refine zt_lcmp hX dX6_allocates_417 ?_
        refine zt_if_gt hX dX6_allocates_418 (tgt := 436) (by decide) (fun c39 => ?_) (fun c39 => ?_)
        · replace hf := z_pos hf c39
          exact zt_sub [1, 2, 3, 4, 5, 6, 7, 8, 10] rfl (t_X6_allocates_436 hX hY hk324 ih374 _ _ _ _ _ _ _ _ _ _ hf)
        · replace hf := z_neg hf c39
          refine zt_lload hX 0 dX6_allocates_421 rfl ?_
          refine zt_lload hX 8 dX6_allocates_423 rfl ?_
          refine zt_lcmp hX dX6_allocates_425 ?_
          refine zt_if_ne hX dX6_allocates_426 (tgt := 440) (by decide) (fun c40 => ?_) (fun c40 => ?_)
          · replace hf := z_neg hf c40
            exact zt_sub [1, 2, 3, 4, 5, 6, 7, 8, 10] rfl (t_X6_allocates_440 hX hY hk324 ih374 _ _ _ _ _ _ _ _ _ _ hf)
          · replace hf := z_pos hf c40
            refine zt_iload hX 10 dX6_allocates_429 rfl ?_
            refine zt_iload hX 7 dX6_allocates_431 rfl ?_
            refine zt_icmp_ge hX dX6_allocates_433 (tgt := 440) (by decide) (fun c41 => ?_) (fun c41 => ?_)
            · replace hf := z_pos hf c41
              exact zt_sub [1, 2, 3, 4, 5, 6, 7, 8, 10] rfl (t_X6_allocates_440 hX hY hk324 ih374 _ _ _ _ _ _ _ _ _ _ hf)
            · replace hf := z_neg hf c41
              exact zt_sub [1, 2, 3, 4, 5, 6, 7, 8, 10] rfl (t_X6_allocates_436 hX hY hk324 ih374 _ _ _ _ _ _ _ _ _ _ hf)
set_option maxHeartbeats 4000000 in
set_option maxRecDepth 100000 in
theorem t_X6_allocates_324 {l : Launch} {D : va_G} {cI cJ cM cS : ClassId} {n0 : Nat} {p : Program} {e : Env} {s : State} {m : MethodId} {args : Array Value} {below : List Frame} {meth : Method} {c : Code}  {Q : z_S → Prop} (hX : z_X D cI cJ cM cS p s m args c cX6_allocates 18 yX6_allocates.cls) (hY : z_Y s meth none)  : ∀ (n : Nat) (x1 : Int32) (x4 : Int32) (x5 : Int64) (x7 : Int64) (x9 : Int64) (x11 : Int32) (σ : z_S), w_X6_allocates_324  Q n x1 x4 x5 x7 x9 x11 σ → z_t D cI cJ cM cS n0 p l e rm_X6_allocates s m args below meth c 18 (MQ below (va_Qv Q (fun u t => z_Bq D cI cJ cM cS n0 u t) (z_Ab n0)) args s 0 0 (z_Ab n0)) 0 0 324 [(0, .ref (n0 + 73)), (1, .int x1), (4, .int x4), (5, .long x5), (7, .long x7), (9, .long x9), (11, .int x11)] [] σ := by
  intro n
  induction n with
  | zero => intro _ _ _ _ _ _ _ hf; exact hf.elim
  | succ n ih324 =>
    intro x1 x4 x5 x7 x9 x11 σ hf
    have hf : wb_X6_allocates_324  Q (w_X6_allocates_324  Q n) x1 x4 x5 x7 x9 x11 σ := hf
    unfold wb_X6_allocates_324 at hf
    refine zt_iload hX 6 dX6_allocates_324 rfl ?_
    refine zt_aload_n hX 0 dX6_allocates_326 rfl rfl ?_
    refine zt_get_X6 hX (by decide) (zE_73 _ _) 0 (by decide) kw_654 rfl rfl dX6_allocates_327 ?_
    refine zt_iconst hX dX6_allocates_330 (v := (0 : Int32)) (by decide) ?_
    obtain ⟨h12, hf⟩ := hf
    refine zt_iaload hX dX6_allocates_331 (by decide) rfl h12 ?_
    refine zt_icmp_ge hX dX6_allocates_332 (tgt := 508) (by decide) (fun c13 => ?_) (fun c13 => ?_)
    · replace hf := z_pos hf c13
      exact zt_vret hX hY dX6_allocates_508 hf
    · replace hf := z_neg hf c13
      refine zt_lload hX 3 dX6_allocates_335 rfl ?_
      refine zt_lconst hX dX6_allocates_337 (v := (0 : Int64)) (by decide) ?_
      refine zt_lcmp hX dX6_allocates_338 ?_
      refine zt_if_le hX dX6_allocates_339 (tgt := 508) (by decide) (fun c14 => ?_) (fun c14 => ?_)
      · replace hf := z_pos hf c14
        exact zt_vret hX hY dX6_allocates_508 hf
      · replace hf := z_neg hf c14
        refine zt_aload_n hX 0 dX6_allocates_342 rfl rfl ?_
        refine zt_iload hX 6 dX6_allocates_343 rfl ?_
        refine zt_iconst hX dX6_allocates_345 (v := (0 : Int32)) (by decide) ?_
        refine zt_calliV hX hY (av := [.int x11, .int (0 : Int32)]) (c_X6_of hf) dX6_allocates_346 rfl kw_729 kw_731 kw_25 kw_67 kw_732 ⟨rfl, rfl⟩ hy_X6_of ⟨by decide, by decide⟩ ⟨by decide, by decide⟩ (Nat.le_of_ble_eq_true rfl) (by decide) (zE_73 _ _) rfl rfl (fun r15 σ16 hf => ?_)
        refine zt_iload_n hX 1 dX6_allocates_349 rfl rfl ?_
        refine zt_icmp_ne hX dX6_allocates_350 (tgt := 502) (by decide) (fun c17 => ?_) (fun c17 => ?_)
        · replace hf := z_neg hf c17
          exact zt_sub [0, 1, 2, 3, 4, 5, 6] rfl (t_X6_allocates_502 hX hY ih324 _ _ _ _ _ _ _ hf)
        · replace hf := z_pos hf c17
          refine zt_lload hX 4 dX6_allocates_353 rfl ?_
          refine zt_aload_n hX 0 dX6_allocates_355 rfl rfl ?_
          refine zt_get_X6 hX (by decide) (zE_73 _ _) 4 (by decide) kw_658 rfl rfl dX6_allocates_356 ?_
          refine zt_iload hX 6 dX6_allocates_359 rfl ?_
          obtain ⟨h19, hf⟩ := hf
          refine zt_laload hX dX6_allocates_361 (by decide) rfl h19 ?_
          refine zt_lmul hX dX6_allocates_362 ?_
          refine zt_lload hX 3 dX6_allocates_363 rfl ?_
          obtain ⟨h20, hf⟩ := hf
          refine zt_lrem hX dX6_allocates_365 h20 ?_
          refine zt_nml (fun y21 e21 => ?_)
          replace hf := hf y21 e21
          refine zt_lstore (L' := [(12, .long y21), (0, .ref (n0 + 73)), (1, .int x1), (4, .int x4), (5, .long x5), (7, .long x7), (9, .long x9), (11, .int x11)]) hX dX6_allocates_366 (by decide) rfl ?_
          refine zt_iconst hX dX6_allocates_368 (v := (0 : Int32)) (by decide) ?_
          refine zt_istore (L' := [(14, .int (0 : Int32)), (12, .long y21), (0, .ref (n0 + 73)), (1, .int x1), (4, .int x4), (5, .long x5), (7, .long x7), (9, .long x9), (11, .int x11)]) hX dX6_allocates_369 (by decide) rfl ?_
          refine zt_iconst hX dX6_allocates_371 (v := (1 : Int32)) (by decide) ?_
          refine zt_istore (L' := [(15, .int (1 : Int32)), (14, .int (0 : Int32)), (12, .long y21), (0, .ref (n0 + 73)), (1, .int x1), (4, .int x4), (5, .long x5), (7, .long x7), (9, .long x9), (11, .int x11)]) hX dX6_allocates_372 (by decide) rfl ?_
          exact zt_sub [3, 4, 5, 6, 7, 8, 9, 2, 1, 0] rfl (t_X6_allocates_374 hX hY ih324 400 _ _ _ _ _ _ _ _ _ _ hf)
set_option maxHeartbeats 4000000 in
set_option maxRecDepth 100000 in
theorem t_X6_allocates_321 {l : Launch} {D : va_G} {cI cJ cM cS : ClassId} {n0 : Nat} {p : Program} {e : Env} {s : State} {m : MethodId} {args : Array Value} {below : List Frame} {meth : Method} {c : Code}  {Q : z_S → Prop} (hX : z_X D cI cJ cM cS p s m args c cX6_allocates 18 yX6_allocates.cls) (hY : z_Y s meth none)  (x1 : Int32) (x4 : Int32) (x5 : Int64) (x7 : Int64) (x9 : Int64) (σ : z_S) (hf : w_X6_allocates_321  Q x1 x4 x5 x7 x9 σ) : z_t D cI cJ cM cS n0 p l e rm_X6_allocates s m args below meth c 18 (MQ below (va_Qv Q (fun u t => z_Bq D cI cJ cM cS n0 u t) (z_Ab n0)) args s 0 0 (z_Ab n0)) 0 0 321 [(0, .ref (n0 + 73)), (1, .int x1), (4, .int x4), (5, .long x5), (7, .long x7), (9, .long x9)] [] σ := by
  unfold w_X6_allocates_321 at hf
  refine zt_iconst hX dX6_allocates_321 (v := (1 : Int32)) (by decide) ?_
  refine zt_istore (L' := [(11, .int (1 : Int32)), (0, .ref (n0 + 73)), (1, .int x1), (4, .int x4), (5, .long x5), (7, .long x7), (9, .long x9)]) hX dX6_allocates_322 (by decide) rfl ?_
  exact zt_sub [1, 2, 3, 4, 5, 6, 0] rfl (t_X6_allocates_324 hX hY 400 _ _ _ _ _ _ _ hf)
set_option maxHeartbeats 4000000 in
set_option maxRecDepth 100000 in
theorem t_X6_allocates_312 {l : Launch} {D : va_G} {cI cJ cM cS : ClassId} {n0 : Nat} {p : Program} {e : Env} {s : State} {m : MethodId} {args : Array Value} {below : List Frame} {meth : Method} {c : Code} {k227 : Int32 → Int32 → Int64 → Int64 → Int64 → Int32 → z_S → Prop} {Q : z_S → Prop} (hX : z_X D cI cJ cM cS p s m args c cX6_allocates 18 yX6_allocates.cls) (hY : z_Y s meth none) (hk227 : ∀ (x1 : Int32) (x4 : Int32) (x5 : Int64) (x7 : Int64) (x9 : Int64) (x11 : Int32) (σ : z_S), k227 x1 x4 x5 x7 x9 x11 σ → z_t D cI cJ cM cS n0 p l e rm_X6_allocates s m args below meth c 18 (MQ below (va_Qv Q (fun u t => z_Bq D cI cJ cM cS n0 u t) (z_Ab n0)) args s 0 0 (z_Ab n0)) 0 0 227 [(0, .ref (n0 + 73)), (1, .int x1), (4, .int x4), (5, .long x5), (7, .long x7), (9, .long x9), (11, .int x11)] [] σ) (x1 : Int32) (x4 : Int32) (x5 : Int64) (x7 : Int64) (x11 : Int32) (s0 : Int64) (s1 : Int64) (σ : z_S) (hf : w_X6_allocates_312 k227 Q x1 x4 x5 x7 x11 s0 s1 σ) : z_t D cI cJ cM cS n0 p l e rm_X6_allocates s m args below meth c 18 (MQ below (va_Qv Q (fun u t => z_Bq D cI cJ cM cS n0 u t) (z_Ab n0)) args s 0 0 (z_Ab n0)) 0 0 312 [(0, .ref (n0 + 73)), (1, .int x1), (4, .int x4), (5, .long x5), (7, .long x7), (11, .int x11)] [.long s0, .long s1] σ := by
  unfold w_X6_allocates_312 at hf
  refine zt_lsub hX dX6_allocates_312 ?_
  refine zt_nml (fun y52 e52 => ?_)
  replace hf := hf y52 e52
  refine zt_lstore (L' := [(9, .long y52), (0, .ref (n0 + 73)), (1, .int x1), (4, .int x4), (5, .long x5), (7, .long x7), (11, .int x11)]) hX dX6_allocates_313 (by decide) rfl ?_
  obtain ⟨y53, e53⟩ : ∃ y : Int32, y = (x11 + (1 : Int32)) := ⟨_, rfl⟩
  replace hf := hf y53 e53
  refine zt_iinc (L' := [(11, .int y53), (9, .long y52), (0, .ref (n0 + 73)), (1, .int x1), (4, .int x4), (5, .long x5), (7, .long x7)]) hX 6 dX6_allocates_315 rfl (v := y53) (by rw [e53]; rfl) (by decide) rfl ?_
  refine zt_goto hX dX6_allocates_318 (tgt := 227) (by decide) ?_
  exact zt_sub [2, 3, 4, 5, 6, 1, 0] rfl (hk227 _ _ _ _ _ _ _ hf)
set_option maxHeartbeats 4000000 in
set_option maxRecDepth 100000 in
theorem t_X6_allocates_286 {l : Launch} {D : va_G} {cI cJ cM cS : ClassId} {n0 : Nat} {p : Program} {e : Env} {s : State} {m : MethodId} {args : Array Value} {below : List Frame} {meth : Method} {c : Code} {k227 : Int32 → Int32 → Int64 → Int64 → Int64 → Int32 → z_S → Prop} {Q : z_S → Prop} (hX : z_X D cI cJ cM cS p s m args c cX6_allocates 18 yX6_allocates.cls) (hY : z_Y s meth none) (hk227 : ∀ (x1 : Int32) (x4 : Int32) (x5 : Int64) (x7 : Int64) (x9 : Int64) (x11 : Int32) (σ : z_S), k227 x1 x4 x5 x7 x9 x11 σ → z_t D cI cJ cM cS n0 p l e rm_X6_allocates s m args below meth c 18 (MQ below (va_Qv Q (fun u t => z_Bq D cI cJ cM cS n0 u t) (z_Ab n0)) args s 0 0 (z_Ab n0)) 0 0 227 [(0, .ref (n0 + 73)), (1, .int x1), (4, .int x4), (5, .long x5), (7, .long x7), (9, .long x9), (11, .int x11)] [] σ) (x1 : Int32) (x4 : Int32) (x5 : Int64) (x7 : Int64) (x9 : Int64) (x11 : Int32) (s0 : Int32) (s1 : Int32) (σ : z_S) (hf : w_X6_allocates_286 k227 Q x1 x4 x5 x7 x9 x11 s0 s1 σ) : z_t D cI cJ cM cS n0 p l e rm_X6_allocates s m args below meth c 18 (MQ below (va_Qv Q (fun u t => z_Bq D cI cJ cM cS n0 u t) (z_Ab n0)) args s 0 0 (z_Ab n0)) 0 0 286 [(0, .ref (n0 + 73)), (1, .int x1), (4, .int x4), (5, .long x5), (7, .long x7), (9, .long x9), (11, .int x11)] [.int s0, .int s1, .ref (n0 + 78)] σ := by
  unfold w_X6_allocates_286 at hf
  obtain ⟨h47, hf⟩ := hf
  refine zt_iastore hX dX6_allocates_286 (by decide) rfl h47 ?_
  refine zt_nms (fun σ48 d48 => ?_)
  replace hf := hf σ48 d48
  refine zt_lload hX 5 dX6_allocates_287 rfl ?_
  refine zt_aload_n hX 0 dX6_allocates_289 rfl rfl ?_
  refine zt_iload hX 6 dX6_allocates_290 rfl ?_
  refine zt_iconst hX dX6_allocates_292 (v := (0 : Int32)) (by decide) ?_
  refine zt_calliV hX hY (av := [.int x11, .int (0 : Int32)]) (c_X6_of hf) dX6_allocates_293 rfl kw_729 kw_731 kw_25 kw_67 kw_732 ⟨rfl, rfl⟩ hy_X6_of ⟨by decide, by decide⟩ ⟨by decide, by decide⟩ (Nat.le_of_ble_eq_true rfl) (by decide) (zE_73 _ _) rfl rfl (fun r49 σ50 hf => ?_)
  refine zt_iload_n hX 1 dX6_allocates_296 rfl rfl ?_
  refine zt_icmp_ne hX dX6_allocates_297 (tgt := 311) (by decide) (fun c51 => ?_) (fun c51 => ?_)
  · replace hf := z_neg hf c51
    refine zt_lconst hX dX6_allocates_311 (v := (0 : Int64)) (by decide) ?_
    exact zt_sub [0, 1, 2, 3, 4, 6] rfl (t_X6_allocates_312 hX hY hk227 _ _ _ _ _ _ _ _ hf)
  · replace hf := z_pos hf c51
    refine zt_aload_n hX 0 dX6_allocates_300 rfl rfl ?_
    refine zt_get_X6 hX (by decide) (zE_73 _ _) 5 (by decide) kw_659 rfl rfl dX6_allocates_301 ?_
    refine zt_iload hX 6 dX6_allocates_304 rfl ?_
    obtain ⟨h54, hf⟩ := hf
    refine zt_iaload hX dX6_allocates_306 (by decide) rfl h54 ?_
    refine zt_i2l hX dX6_allocates_307 ?_
    refine zt_goto hX dX6_allocates_308 (tgt := 312) (by decide) ?_
    exact zt_sub [0, 1, 2, 3, 4, 6] rfl (t_X6_allocates_312 hX hY hk227 _ _ _ _ _ _ _ _ hf)
set_option maxHeartbeats 4000000 in
set_option maxRecDepth 100000 in
theorem t_X6_allocates_227 {l : Launch} {D : va_G} {cI cJ cM cS : ClassId} {n0 : Nat} {p : Program} {e : Env} {s : State} {m : MethodId} {args : Array Value} {below : List Frame} {meth : Method} {c : Code}  {Q : z_S → Prop} (hX : z_X D cI cJ cM cS p s m args c cX6_allocates 18 yX6_allocates.cls) (hY : z_Y s meth none)  : ∀ (n : Nat) (x1 : Int32) (x4 : Int32) (x5 : Int64) (x7 : Int64) (x9 : Int64) (x11 : Int32) (σ : z_S), w_X6_allocates_227  Q n x1 x4 x5 x7 x9 x11 σ → z_t D cI cJ cM cS n0 p l e rm_X6_allocates s m args below meth c 18 (MQ below (va_Qv Q (fun u t => z_Bq D cI cJ cM cS n0 u t) (z_Ab n0)) args s 0 0 (z_Ab n0)) 0 0 227 [(0, .ref (n0 + 73)), (1, .int x1), (4, .int x4), (5, .long x5), (7, .long x7), (9, .long x9), (11, .int x11)] [] σ := by
  intro n
  induction n with
  | zero => intro _ _ _ _ _ _ _ hf; exact hf.elim
  | succ n ih227 =>
    intro x1 x4 x5 x7 x9 x11 σ hf
    have hf : wb_X6_allocates_227  Q (w_X6_allocates_227  Q n) x1 x4 x5 x7 x9 x11 σ := hf
    unfold wb_X6_allocates_227 at hf
    refine zt_iload hX 6 dX6_allocates_227 rfl ?_
    refine zt_aload_n hX 0 dX6_allocates_229 rfl rfl ?_
    refine zt_get_X6 hX (by decide) (zE_73 _ _) 0 (by decide) kw_654 rfl rfl dX6_allocates_230 ?_
    refine zt_iconst hX dX6_allocates_233 (v := (0 : Int32)) (by decide) ?_
    obtain ⟨h10, hf⟩ := hf
    refine zt_iaload hX dX6_allocates_234 (by decide) rfl h10 ?_
    refine zt_icmp_ge hX dX6_allocates_235 (tgt := 321) (by decide) (fun c11 => ?_) (fun c11 => ?_)
    · replace hf := z_pos hf c11
      exact zt_sub [0, 1, 2, 3, 4, 5] rfl (t_X6_allocates_321 hX hY _ _ _ _ _ _ hf)
    · replace hf := z_neg hf c11
      refine zt_lload hX 3 dX6_allocates_238 rfl ?_
      refine zt_lconst hX dX6_allocates_240 (v := (0 : Int64)) (by decide) ?_
      refine zt_lcmp hX dX6_allocates_241 ?_
      refine zt_if_le hX dX6_allocates_242 (tgt := 321) (by decide) (fun c42 => ?_) (fun c42 => ?_)
      · replace hf := z_pos hf c42
        exact zt_sub [0, 1, 2, 3, 4, 5] rfl (t_X6_allocates_321 hX hY _ _ _ _ _ _ hf)
      · replace hf := z_neg hf c42
        refine zt_aload_n hX 0 dX6_allocates_245 rfl rfl ?_
        refine zt_get_X6 hX (by decide) (zE_73 _ _) 5 (by decide) kw_659 rfl rfl dX6_allocates_246 ?_
        refine zt_iload hX 6 dX6_allocates_249 rfl ?_
        refine zt_aload_n hX 0 dX6_allocates_251 rfl rfl ?_
        refine zt_iload hX 6 dX6_allocates_252 rfl ?_
        refine zt_iconst hX dX6_allocates_254 (v := (0 : Int32)) (by decide) ?_
        refine zt_calliV hX hY (av := [.int x11, .int (0 : Int32)]) (c_X6_of hf) dX6_allocates_255 rfl kw_729 kw_731 kw_25 kw_67 kw_732 ⟨rfl, rfl⟩ hy_X6_of ⟨by decide, by decide⟩ ⟨by decide, by decide⟩ (Nat.le_of_ble_eq_true rfl) (by decide) (zE_73 _ _) rfl rfl (fun r43 σ44 hf => ?_)
        refine zt_iload_n hX 1 dX6_allocates_258 rfl rfl ?_
        refine zt_icmp_ne hX dX6_allocates_259 (tgt := 279) (by decide) (fun c45 => ?_) (fun c45 => ?_)
        · replace hf := z_neg hf c45
          refine zt_aload_n hX 0 dX6_allocates_279 rfl rfl ?_
          refine zt_get_X6 hX (by decide) (zE_73 _ _) 5 (by decide) kw_659 rfl rfl dX6_allocates_280 ?_
          refine zt_iload hX 6 dX6_allocates_283 rfl ?_
          obtain ⟨h46, hf⟩ := hf
          refine zt_iaload hX dX6_allocates_285 (by decide) rfl h46 ?_
          exact zt_sub [0, 1, 2, 3, 4, 5, 6] rfl (t_X6_allocates_286 hX hY ih227 _ _ _ _ _ _ _ _ _ hf)
        · replace hf := z_pos hf c45
          refine zt_lload hX 4 dX6_allocates_262 rfl ?_
          refine zt_aload_n hX 0 dX6_allocates_264 rfl rfl ?_
          refine zt_get_X6 hX (by decide) (zE_73 _ _) 4 (by decide) kw_658 rfl rfl dX6_allocates_265 ?_
          refine zt_iload hX 6 dX6_allocates_268 rfl ?_
          obtain ⟨h55, hf⟩ := hf
          refine zt_laload hX dX6_allocates_270 (by decide) rfl h55 ?_
          refine zt_lmul hX dX6_allocates_271 ?_
          refine zt_lload hX 3 dX6_allocates_272 rfl ?_
          obtain ⟨h56, hf⟩ := hf
          refine zt_ldiv hX dX6_allocates_274 h56 ?_
          refine zt_l2i hX dX6_allocates_275 ?_
          refine zt_goto hX dX6_allocates_276 (tgt := 286) (by decide) ?_
          exact zt_sub [0, 1, 2, 3, 4, 5, 6] rfl (t_X6_allocates_286 hX hY ih227 _ _ _ _ _ _ _ _ _ hf)
set_option maxHeartbeats 4000000 in
set_option maxRecDepth 100000 in
theorem t_X6_allocates_218 {l : Launch} {D : va_G} {cI cJ cM cS : ClassId} {n0 : Nat} {p : Program} {e : Env} {s : State} {m : MethodId} {args : Array Value} {below : List Frame} {meth : Method} {c : Code}  {Q : z_S → Prop} (hX : z_X D cI cJ cM cS p s m args c cX6_allocates 18 yX6_allocates.cls) (hY : z_Y s meth none)  (x1 : Int32) (x4 : Int32) (x5 : Int64) (s0 : Int64) (σ : z_S) (hf : w_X6_allocates_218  Q x1 x4 x5 s0 σ) : z_t D cI cJ cM cS n0 p l e rm_X6_allocates s m args below meth c 18 (MQ below (va_Qv Q (fun u t => z_Bq D cI cJ cM cS n0 u t) (z_Ab n0)) args s 0 0 (z_Ab n0)) 0 0 218 [(0, .ref (n0 + 73)), (1, .int x1), (4, .int x4), (5, .long x5)] [.long s0] σ := by
  unfold w_X6_allocates_218 at hf
  refine zt_lstore (L' := [(7, .long s0), (0, .ref (n0 + 73)), (1, .int x1), (4, .int x4), (5, .long x5)]) hX dX6_allocates_218 (by decide) rfl ?_
  refine zt_lload hX 0 dX6_allocates_220 rfl ?_
  refine zt_lstore (L' := [(9, .long s0), (7, .long s0), (0, .ref (n0 + 73)), (1, .int x1), (4, .int x4), (5, .long x5)]) hX dX6_allocates_222 (by decide) rfl ?_
  refine zt_iconst hX dX6_allocates_224 (v := (1 : Int32)) (by decide) ?_
  refine zt_istore (L' := [(11, .int (1 : Int32)), (9, .long s0), (7, .long s0), (0, .ref (n0 + 73)), (1, .int x1), (4, .int x4), (5, .long x5)]) hX dX6_allocates_225 (by decide) rfl ?_
  exact zt_sub [3, 4, 5, 6, 2, 1, 0] rfl (t_X6_allocates_227 hX hY 400 _ _ _ _ _ _ _ hf)
set_option maxHeartbeats 4000000 in
set_option maxRecDepth 100000 in
theorem t_X6_allocates_174 {l : Launch} {D : va_G} {cI cJ cM cS : ClassId} {n0 : Nat} {p : Program} {e : Env} {s : State} {m : MethodId} {args : Array Value} {below : List Frame} {meth : Method} {c : Code}  {Q : z_S → Prop} (hX : z_X D cI cJ cM cS p s m args c cX6_allocates 18 yX6_allocates.cls) (hY : z_Y s meth none)  : ∀ (n : Nat) (x1 : Int32) (x4 : Int32) (x5 : Int64) (x7 : Int32) (σ : z_S), w_X6_allocates_174  Q n x1 x4 x5 x7 σ → z_t D cI cJ cM cS n0 p l e rm_X6_allocates s m args below meth c 18 (MQ below (va_Qv Q (fun u t => z_Bq D cI cJ cM cS n0 u t) (z_Ab n0)) args s 0 0 (z_Ab n0)) 0 0 174 [(0, .ref (n0 + 73)), (1, .int x1), (4, .int x4), (5, .long x5), (7, .int x7)] [] σ := by
  intro n
  induction n with
  | zero => intro _ _ _ _ _ hf; exact hf.elim
  | succ n ih174 =>
    intro x1 x4 x5 x7 σ hf
    have hf : wb_X6_allocates_174  Q (w_X6_allocates_174  Q n) x1 x4 x5 x7 σ := hf
    unfold wb_X6_allocates_174 at hf
    refine zt_iload hX 4 dX6_allocates_174 rfl ?_
    refine zt_aload_n hX 0 dX6_allocates_176 rfl rfl ?_
    refine zt_get_X6 hX (by decide) (zE_73 _ _) 0 (by decide) kw_654 rfl rfl dX6_allocates_177 ?_
    refine zt_iconst hX dX6_allocates_180 (v := (0 : Int32)) (by decide) ?_
    obtain ⟨h7, hf⟩ := hf
    refine zt_iaload hX dX6_allocates_181 (by decide) rfl h7 ?_
    refine zt_icmp_ge hX dX6_allocates_182 (tgt := 203) (by decide) (fun c8 => ?_) (fun c8 => ?_)
    · replace hf := z_pos hf c8
      refine zt_iload hX 2 dX6_allocates_203 rfl ?_
      refine zt_if_ge hX dX6_allocates_205 (tgt := 215) (by decide) (fun c9 => ?_) (fun c9 => ?_)
      · replace hf := z_pos hf c9
        refine zt_iload hX 2 dX6_allocates_215 rfl ?_
        refine zt_i2l hX dX6_allocates_217 ?_
        exact zt_sub [0, 1, 2, 3] rfl (t_X6_allocates_218 hX hY _ _ _ _ _ hf)
      · replace hf := z_neg hf c9
        refine zt_iload hX 2 dX6_allocates_208 rfl ?_
        refine zt_i2l hX dX6_allocates_210 ?_
        refine zt_lneg hX dX6_allocates_211 ?_
        refine zt_goto hX dX6_allocates_212 (tgt := 218) (by decide) ?_
        exact zt_sub [0, 1, 2, 3] rfl (t_X6_allocates_218 hX hY _ _ _ _ _ hf)
    · replace hf := z_neg hf c8
      refine zt_lload hX 3 dX6_allocates_185 rfl ?_
      refine zt_aload_n hX 0 dX6_allocates_187 rfl rfl ?_
      refine zt_get_X6 hX (by decide) (zE_73 _ _) 4 (by decide) kw_658 rfl rfl dX6_allocates_188 ?_
      refine zt_iload hX 4 dX6_allocates_191 rfl ?_
      obtain ⟨h57, hf⟩ := hf
      refine zt_laload hX dX6_allocates_193 (by decide) rfl h57 ?_
      refine zt_ladd hX dX6_allocates_194 ?_
      refine zt_nml (fun y58 e58 => ?_)
      replace hf := hf y58 e58
      refine zt_lstore (L' := [(5, .long y58), (0, .ref (n0 + 73)), (1, .int x1), (4, .int x4), (7, .int x7)]) hX dX6_allocates_195 (by decide) rfl ?_
      obtain ⟨y59, e59⟩ : ∃ y : Int32, y = (x7 + (1 : Int32)) := ⟨_, rfl⟩
      replace hf := hf y59 e59
      refine zt_iinc (L' := [(7, .int y59), (5, .long y58), (0, .ref (n0 + 73)), (1, .int x1), (4, .int x4)]) hX 4 dX6_allocates_197 rfl (v := y59) (by rw [e59]; rfl) (by decide) rfl ?_
      refine zt_goto hX dX6_allocates_200 (tgt := 174) (by decide) ?_
      exact zt_sub [2, 3, 4, 1, 0] rfl (ih174 _ _ _ _ _ hf)
set_option maxHeartbeats 4000000 in
set_option maxRecDepth 100000 in
theorem t_X6_allocates_168 {l : Launch} {D : va_G} {cI cJ cM cS : ClassId} {n0 : Nat} {p : Program} {e : Env} {s : State} {m : MethodId} {args : Array Value} {below : List Frame} {meth : Method} {c : Code}  {Q : z_S → Prop} (hX : z_X D cI cJ cM cS p s m args c cX6_allocates 18 yX6_allocates.cls) (hY : z_Y s meth none)  (x1 : Int32) (x4 : Int32) (σ : z_S) (hf : w_X6_allocates_168  Q x1 x4 σ) : z_t D cI cJ cM cS n0 p l e rm_X6_allocates s m args below meth c 18 (MQ below (va_Qv Q (fun u t => z_Bq D cI cJ cM cS n0 u t) (z_Ab n0)) args s 0 0 (z_Ab n0)) 0 0 168 [(0, .ref (n0 + 73)), (1, .int x1), (4, .int x4)] [] σ := by
  unfold w_X6_allocates_168 at hf
  refine zt_lconst hX dX6_allocates_168 (v := (0 : Int64)) (by decide) ?_
  refine zt_lstore (L' := [(5, .long (0 : Int64)), (0, .ref (n0 + 73)), (1, .int x1), (4, .int x4)]) hX dX6_allocates_169 (by decide) rfl ?_
  refine zt_iconst hX dX6_allocates_171 (v := (1 : Int32)) (by decide) ?_
  refine zt_istore (L' := [(7, .int (1 : Int32)), (5, .long (0 : Int64)), (0, .ref (n0 + 73)), (1, .int x1), (4, .int x4)]) hX dX6_allocates_172 (by decide) rfl ?_
  exact zt_sub [2, 3, 4, 1, 0] rfl (t_X6_allocates_174 hX hY 400 _ _ _ _ _ hf)
set_option maxHeartbeats 4000000 in
set_option maxRecDepth 100000 in
theorem t_X6_allocates_161 {l : Launch} {D : va_G} {cI cJ cM cS : ClassId} {n0 : Nat} {p : Program} {e : Env} {s : State} {m : MethodId} {args : Array Value} {below : List Frame} {meth : Method} {c : Code} {k115 : Int32 → Int64 → Int32 → Int32 → z_S → Prop} {Q : z_S → Prop} (hX : z_X D cI cJ cM cS p s m args c cX6_allocates 18 yX6_allocates.cls) (hY : z_Y s meth none) (hk115 : ∀ (x1 : Int32) (x2 : Int64) (x4 : Int32) (x5 : Int32) (σ : z_S), k115 x1 x2 x4 x5 σ → z_t D cI cJ cM cS n0 p l e rm_X6_allocates s m args below meth c 18 (MQ below (va_Qv Q (fun u t => z_Bq D cI cJ cM cS n0 u t) (z_Ab n0)) args s 0 0 (z_Ab n0)) 0 0 115 [(0, .ref (n0 + 73)), (1, .int x1), (2, .long x2), (4, .int x4), (5, .int x5)] [] σ) (x1 : Int32) (x2 : Int64) (x4 : Int32) (x5 : Int32) (s0 : Int64) (s1 : Int32) (σ : z_S) (hf : w_X6_allocates_161 k115 Q x1 x2 x4 x5 s0 s1 σ) : z_t D cI cJ cM cS n0 p l e rm_X6_allocates s m args below meth c 18 (MQ below (va_Qv Q (fun u t => z_Bq D cI cJ cM cS n0 u t) (z_Ab n0)) args s 0 0 (z_Ab n0)) 0 0 161 [(0, .ref (n0 + 73)), (1, .int x1), (2, .long x2), (4, .int x4), (5, .int x5)] [.long s0, .int s1, .ref (n0 + 77)] σ := by
  unfold w_X6_allocates_161 at hf
  obtain ⟨h64, hf⟩ := hf
  refine zt_lastore hX dX6_allocates_161 (by decide) rfl h64 ?_
  refine zt_nms (fun σ65 d65 => ?_)
  replace hf := hf σ65 d65
  obtain ⟨y66, e66⟩ : ∃ y : Int32, y = (x5 + (1 : Int32)) := ⟨_, rfl⟩
  replace hf := hf y66 e66
  refine zt_iinc (L' := [(5, .int y66), (0, .ref (n0 + 73)), (1, .int x1), (2, .long x2), (4, .int x4)]) hX 4 dX6_allocates_162 rfl (v := y66) (by rw [e66]; rfl) (by decide) rfl ?_
  refine zt_goto hX dX6_allocates_165 (tgt := 115) (by decide) ?_
  exact zt_sub [1, 2, 3, 4, 0] rfl (hk115 _ _ _ _ _ hf)
set_option maxHeartbeats 4000000 in
set_option maxRecDepth 100000 in
theorem t_X6_allocates_115 {l : Launch} {D : va_G} {cI cJ cM cS : ClassId} {n0 : Nat} {p : Program} {e : Env} {s : State} {m : MethodId} {args : Array Value} {below : List Frame} {meth : Method} {c : Code}  {Q : z_S → Prop} (hX : z_X D cI cJ cM cS p s m args c cX6_allocates 18 yX6_allocates.cls) (hY : z_Y s meth none)  : ∀ (n : Nat) (x1 : Int32) (x2 : Int64) (x4 : Int32) (x5 : Int32) (σ : z_S), w_X6_allocates_115  Q n x1 x2 x4 x5 σ → z_t D cI cJ cM cS n0 p l e rm_X6_allocates s m args below meth c 18 (MQ below (va_Qv Q (fun u t => z_Bq D cI cJ cM cS n0 u t) (z_Ab n0)) args s 0 0 (z_Ab n0)) 0 0 115 [(0, .ref (n0 + 73)), (1, .int x1), (2, .long x2), (4, .int x4), (5, .int x5)] [] σ := by
  intro n
  induction n with
  | zero => intro _ _ _ _ _ hf; exact hf.elim
  | succ n ih115 =>
    intro x1 x2 x4 x5 σ hf
    have hf : wb_X6_allocates_115  Q (w_X6_allocates_115  Q n) x1 x2 x4 x5 σ := hf
    unfold wb_X6_allocates_115 at hf
    refine zt_iload hX 4 dX6_allocates_115 rfl ?_
    refine zt_aload_n hX 0 dX6_allocates_117 rfl rfl ?_
    refine zt_get_X6 hX (by decide) (zE_73 _ _) 0 (by decide) kw_654 rfl rfl dX6_allocates_118 ?_
    refine zt_iconst hX dX6_allocates_121 (v := (0 : Int32)) (by decide) ?_
    obtain ⟨h5, hf⟩ := hf
    refine zt_iaload hX dX6_allocates_122 (by decide) rfl h5 ?_
    refine zt_icmp_ge hX dX6_allocates_123 (tgt := 168) (by decide) (fun c6 => ?_) (fun c6 => ?_)
    · replace hf := z_pos hf c6
      exact zt_sub [0, 1, 3] rfl (t_X6_allocates_168 hX hY _ _ _ hf)
    · replace hf := z_neg hf c6
      refine zt_lload_n hX 2 dX6_allocates_126 rfl rfl ?_
      refine zt_lconst hX dX6_allocates_127 (v := (0 : Int64)) (by decide) ?_
      refine zt_lcmp hX dX6_allocates_128 ?_
      refine zt_if_ne hX dX6_allocates_129 (tgt := 168) (by decide) (fun c60 => ?_) (fun c60 => ?_)
      · replace hf := z_neg hf c60
        exact zt_sub [0, 1, 3] rfl (t_X6_allocates_168 hX hY _ _ _ hf)
      · replace hf := z_pos hf c60
        refine zt_aload_n hX 0 dX6_allocates_132 rfl rfl ?_
        refine zt_get_X6 hX (by decide) (zE_73 _ _) 4 (by decide) kw_658 rfl rfl dX6_allocates_133 ?_
        refine zt_iload hX 4 dX6_allocates_136 rfl ?_
        refine zt_aload_n hX 0 dX6_allocates_138 rfl rfl ?_
        refine zt_iload hX 4 dX6_allocates_139 rfl ?_
        refine zt_iconst hX dX6_allocates_141 (v := (0 : Int32)) (by decide) ?_
        refine zt_calliV hX hY (av := [.int x5, .int (0 : Int32)]) (c_X6_of hf) dX6_allocates_142 rfl kw_729 kw_731 kw_25 kw_67 kw_732 ⟨rfl, rfl⟩ hy_X6_of ⟨by decide, by decide⟩ ⟨by decide, by decide⟩ (Nat.le_of_ble_eq_true rfl) (by decide) (zE_73 _ _) rfl rfl (fun r61 σ62 hf => ?_)
        refine zt_iload_n hX 1 dX6_allocates_145 rfl rfl ?_
        refine zt_icmp_ne hX dX6_allocates_146 (tgt := 160) (by decide) (fun c63 => ?_) (fun c63 => ?_)
        · replace hf := z_neg hf c63
          refine zt_lconst hX dX6_allocates_160 (v := (0 : Int64)) (by decide) ?_
          exact zt_sub [0, 1, 2, 3, 4] rfl (t_X6_allocates_161 hX hY ih115 _ _ _ _ _ _ _ hf)
        · replace hf := z_pos hf c63
          refine zt_aload_n hX 0 dX6_allocates_149 rfl rfl ?_
          refine zt_iload hX 4 dX6_allocates_150 rfl ?_
          refine zt_iconst hX dX6_allocates_152 (v := (4 : Int32)) (by decide) ?_
          refine zt_calliV hX hY (av := [.int x5, .int (4 : Int32)]) (c_X6_of hf) dX6_allocates_153 rfl kw_729 kw_731 kw_25 kw_67 kw_732 ⟨rfl, rfl⟩ hy_X6_of ⟨by decide, by decide⟩ ⟨by decide, by decide⟩ (Nat.le_of_ble_eq_true rfl) (by decide) (zE_73 _ _) rfl rfl (fun r67 σ68 hf => ?_)
          refine zt_i2l hX dX6_allocates_156 ?_
          refine zt_goto hX dX6_allocates_157 (tgt := 161) (by decide) ?_
          exact zt_sub [0, 1, 2, 3, 4] rfl (t_X6_allocates_161 hX hY ih115 _ _ _ _ _ _ _ hf)
set_option maxHeartbeats 4000000 in
set_option maxRecDepth 100000 in
theorem t_X6_allocates_103 {l : Launch} {D : va_G} {cI cJ cM cS : ClassId} {n0 : Nat} {p : Program} {e : Env} {s : State} {m : MethodId} {args : Array Value} {below : List Frame} {meth : Method} {c : Code} {k13 : Int32 → Int64 → Int32 → Int32 → z_S → Prop} {Q : z_S → Prop} (hX : z_X D cI cJ cM cS p s m args c cX6_allocates 18 yX6_allocates.cls) (hY : z_Y s meth none) (hk13 : ∀ (x1 : Int32) (x2 : Int64) (x4 : Int32) (x5 : Int32) (σ : z_S), k13 x1 x2 x4 x5 σ → z_t D cI cJ cM cS n0 p l e rm_X6_allocates s m args below meth c 18 (MQ below (va_Qv Q (fun u t => z_Bq D cI cJ cM cS n0 u t) (z_Ab n0)) args s 0 0 (z_Ab n0)) 0 0 13 [(0, .ref (n0 + 73)), (1, .int x1), (2, .long x2), (4, .int x4), (5, .int x5)] [] σ) (x1 : Int32) (x2 : Int64) (x5 : Int32) (s0 : Int32) (s1 : Int32) (σ : z_S) (hf : w_X6_allocates_103 k13 Q x1 x2 x5 s0 s1 σ) : z_t D cI cJ cM cS n0 p l e rm_X6_allocates s m args below meth c 18 (MQ below (va_Qv Q (fun u t => z_Bq D cI cJ cM cS n0 u t) (z_Ab n0)) args s 0 0 (z_Ab n0)) 0 0 103 [(0, .ref (n0 + 73)), (1, .int x1), (2, .long x2), (5, .int x5)] [.int s0, .int s1] σ := by
  unfold w_X6_allocates_103 at hf
  refine zt_isub hX dX6_allocates_103 ?_
  refine zt_nmi (fun y78 e78 => ?_)
  replace hf := hf y78 e78
  refine zt_istore (L' := [(4, .int y78), (0, .ref (n0 + 73)), (1, .int x1), (2, .long x2), (5, .int x5)]) hX dX6_allocates_104 (by decide) rfl ?_
  obtain ⟨y79, e79⟩ : ∃ y : Int32, y = (x5 + (1 : Int32)) := ⟨_, rfl⟩
  replace hf := hf y79 e79
  refine zt_iinc (L' := [(5, .int y79), (4, .int y78), (0, .ref (n0 + 73)), (1, .int x1), (2, .long x2)]) hX 4 dX6_allocates_106 rfl (v := y79) (by rw [e79]; rfl) (by decide) rfl ?_
  refine zt_goto hX dX6_allocates_109 (tgt := 13) (by decide) ?_
  exact zt_sub [2, 3, 4, 1, 0] rfl (hk13 _ _ _ _ _ hf)
set_option maxHeartbeats 4000000 in
set_option maxRecDepth 100000 in
theorem t_X6_allocates_74 {l : Launch} {D : va_G} {cI cJ cM cS : ClassId} {n0 : Nat} {p : Program} {e : Env} {s : State} {m : MethodId} {args : Array Value} {below : List Frame} {meth : Method} {c : Code} {k13 : Int32 → Int64 → Int32 → Int32 → z_S → Prop} {Q : z_S → Prop} (hX : z_X D cI cJ cM cS p s m args c cX6_allocates 18 yX6_allocates.cls) (hY : z_Y s meth none) (hk13 : ∀ (x1 : Int32) (x2 : Int64) (x4 : Int32) (x5 : Int32) (σ : z_S), k13 x1 x2 x4 x5 σ → z_t D cI cJ cM cS n0 p l e rm_X6_allocates s m args below meth c 18 (MQ below (va_Qv Q (fun u t => z_Bq D cI cJ cM cS n0 u t) (z_Ab n0)) args s 0 0 (z_Ab n0)) 0 0 13 [(0, .ref (n0 + 73)), (1, .int x1), (2, .long x2), (4, .int x4), (5, .int x5)] [] σ) (x1 : Int32) (x2 : Int64) (x4 : Int32) (x5 : Int32) (x6 : Int32) (s0 : Int64) (s1 : Int32) (σ : z_S) (hf : w_X6_allocates_74 k13 Q x1 x2 x4 x5 x6 s0 s1 σ) : z_t D cI cJ cM cS n0 p l e rm_X6_allocates s m args below meth c 18 (MQ below (va_Qv Q (fun u t => z_Bq D cI cJ cM cS n0 u t) (z_Ab n0)) args s 0 0 (z_Ab n0)) 0 0 74 [(0, .ref (n0 + 73)), (1, .int x1), (2, .long x2), (4, .int x4), (5, .int x5), (6, .int x6)] [.long s0, .int s1, .ref (n0 + 77)] σ := by
  unfold w_X6_allocates_74 at hf
  obtain ⟨h73, hf⟩ := hf
  refine zt_lastore hX dX6_allocates_74 (by decide) rfl h73 ?_
  refine zt_nms (fun σ74 d74 => ?_)
  replace hf := hf σ74 d74
  refine zt_lload_n hX 2 dX6_allocates_75 rfl rfl ?_
  refine zt_aload_n hX 0 dX6_allocates_76 rfl rfl ?_
  refine zt_get_X6 hX (by decide) (zE_73 _ _) 4 (by decide) kw_658 rfl rfl dX6_allocates_77 ?_
  refine zt_iload hX 4 dX6_allocates_80 rfl ?_
  obtain ⟨h75, hf⟩ := hf
  refine zt_laload hX dX6_allocates_82 (by decide) rfl h75 ?_
  refine zt_ladd hX dX6_allocates_83 ?_
  refine zt_nml (fun y76 e76 => ?_)
  replace hf := hf y76 e76
  refine zt_lstore_n (L' := [(2, .long y76), (0, .ref (n0 + 73)), (1, .int x1), (4, .int x4), (5, .int x5), (6, .int x6)]) hX dX6_allocates_84 rfl (by decide) rfl ?_
  refine zt_iload hX 3 dX6_allocates_85 rfl ?_
  refine zt_iload hX 5 dX6_allocates_87 rfl ?_
  refine zt_if_eq hX dX6_allocates_89 (tgt := 102) (by decide) (fun c77 => ?_) (fun c77 => ?_)
  · replace hf := z_pos hf c77
    refine zt_iconst hX dX6_allocates_102 (v := (0 : Int32)) (by decide) ?_
    exact zt_sub [1, 2, 0, 4] rfl (t_X6_allocates_103 hX hY hk13 _ _ _ _ _ _ hf)
  · replace hf := z_neg hf c77
    refine zt_aload_n hX 1 dX6_allocates_92 rfl rfl ?_
    refine zt_get_X6 hX (by decide) (zE_73 _ _) 3 (by decide) kw_657 rfl rfl dX6_allocates_93 ?_
    refine zt_iload hX 4 dX6_allocates_96 rfl ?_
    obtain ⟨h80, hf⟩ := hf
    refine zt_iaload hX dX6_allocates_98 (by decide) rfl h80 ?_
    refine zt_goto hX dX6_allocates_99 (tgt := 103) (by decide) ?_
    exact zt_sub [1, 2, 0, 4] rfl (t_X6_allocates_103 hX hY hk13 _ _ _ _ _ _ hf)
set_option maxHeartbeats 4000000 in
set_option maxRecDepth 100000 in
theorem t_X6_allocates_40 {l : Launch} {D : va_G} {cI cJ cM cS : ClassId} {n0 : Nat} {p : Program} {e : Env} {s : State} {m : MethodId} {args : Array Value} {below : List Frame} {meth : Method} {c : Code} {k13 : Int32 → Int64 → Int32 → Int32 → z_S → Prop} {Q : z_S → Prop} (hX : z_X D cI cJ cM cS p s m args c cX6_allocates 18 yX6_allocates.cls) (hY : z_Y s meth none) (hk13 : ∀ (x1 : Int32) (x2 : Int64) (x4 : Int32) (x5 : Int32) (σ : z_S), k13 x1 x2 x4 x5 σ → z_t D cI cJ cM cS n0 p l e rm_X6_allocates s m args below meth c 18 (MQ below (va_Qv Q (fun u t => z_Bq D cI cJ cM cS n0 u t) (z_Ab n0)) args s 0 0 (z_Ab n0)) 0 0 13 [(0, .ref (n0 + 73)), (1, .int x1), (2, .long x2), (4, .int x4), (5, .int x5)] [] σ) (x1 : Int32) (x2 : Int64) (x4 : Int32) (x5 : Int32) (s0 : Int32) (σ : z_S) (hf : w_X6_allocates_40 k13 Q x1 x2 x4 x5 s0 σ) : z_t D cI cJ cM cS n0 p l e rm_X6_allocates s m args below meth c 18 (MQ below (va_Qv Q (fun u t => z_Bq D cI cJ cM cS n0 u t) (z_Ab n0)) args s 0 0 (z_Ab n0)) 0 0 40 [(0, .ref (n0 + 73)), (1, .int x1), (2, .long x2), (4, .int x4), (5, .int x5)] [.int s0] σ := by
  unfold w_X6_allocates_40 at hf
  refine zt_istore (L' := [(6, .int s0), (0, .ref (n0 + 73)), (1, .int x1), (2, .long x2), (4, .int x4), (5, .int x5)]) hX dX6_allocates_40 (by decide) rfl ?_
  refine zt_aload_n hX 1 dX6_allocates_42 rfl rfl ?_
  refine zt_get_X6 hX (by decide) (zE_73 _ _) 4 (by decide) kw_658 rfl rfl dX6_allocates_43 ?_
  refine zt_iload hX 5 dX6_allocates_46 rfl ?_
  refine zt_iload hX 0 dX6_allocates_48 rfl ?_
  refine zt_if_eq hX dX6_allocates_50 (tgt := 73) (by decide) (fun c72 => ?_) (fun c72 => ?_)
  · replace hf := z_pos hf c72
    refine zt_lconst hX dX6_allocates_73 (v := (0 : Int64)) (by decide) ?_
    exact zt_sub [1, 2, 3, 4, 5, 0] rfl (t_X6_allocates_74 hX hY hk13 _ _ _ _ _ _ _ _ hf)
  · replace hf := z_neg hf c72
    refine zt_aload_n hX 1 dX6_allocates_53 rfl rfl ?_
    refine zt_iload hX 5 dX6_allocates_54 rfl ?_
    refine zt_iconst hX dX6_allocates_56 (v := (4 : Int32)) (by decide) ?_
    refine zt_calliV hX hY (av := [.int x5, .int (4 : Int32)]) (c_X6_of hf) dX6_allocates_57 rfl kw_729 kw_731 kw_25 kw_67 kw_732 ⟨rfl, rfl⟩ hy_X6_of ⟨by decide, by decide⟩ ⟨by decide, by decide⟩ (Nat.le_of_ble_eq_true rfl) (by decide) (zE_73 _ _) rfl rfl (fun r81 σ82 hf => ?_)
    refine zt_i2l hX dX6_allocates_60 ?_
    refine zt_aload_n hX 1 dX6_allocates_61 rfl rfl ?_
    refine zt_get_X6 hX (by decide) (zE_73 _ _) 3 (by decide) kw_657 rfl rfl dX6_allocates_62 ?_
    refine zt_iload hX 5 dX6_allocates_65 rfl ?_
    obtain ⟨h83, hf⟩ := hf
    refine zt_iaload hX dX6_allocates_67 (by decide) rfl h83 ?_
    refine zt_i2l hX dX6_allocates_68 ?_
    refine zt_lmul hX dX6_allocates_69 ?_
    refine zt_goto hX dX6_allocates_70 (tgt := 74) (by decide) ?_
    exact zt_sub [1, 2, 3, 4, 5, 0] rfl (t_X6_allocates_74 hX hY hk13 _ _ _ _ _ _ _ _ hf)
set_option maxHeartbeats 4000000 in
set_option maxRecDepth 100000 in
theorem t_X6_allocates_13 {l : Launch} {D : va_G} {cI cJ cM cS : ClassId} {n0 : Nat} {p : Program} {e : Env} {s : State} {m : MethodId} {args : Array Value} {below : List Frame} {meth : Method} {c : Code}  {Q : z_S → Prop} (hX : z_X D cI cJ cM cS p s m args c cX6_allocates 18 yX6_allocates.cls) (hY : z_Y s meth none)  : ∀ (n : Nat) (x1 : Int32) (x2 : Int64) (x4 : Int32) (x5 : Int32) (σ : z_S), w_X6_allocates_13  Q n x1 x2 x4 x5 σ → z_t D cI cJ cM cS n0 p l e rm_X6_allocates s m args below meth c 18 (MQ below (va_Qv Q (fun u t => z_Bq D cI cJ cM cS n0 u t) (z_Ab n0)) args s 0 0 (z_Ab n0)) 0 0 13 [(0, .ref (n0 + 73)), (1, .int x1), (2, .long x2), (4, .int x4), (5, .int x5)] [] σ := by
  intro n
  induction n with
  | zero => intro _ _ _ _ _ hf; exact hf.elim
  | succ n ih13 =>
    intro x1 x2 x4 x5 σ hf
    have hf : wb_X6_allocates_13  Q (w_X6_allocates_13  Q n) x1 x2 x4 x5 σ := hf
    unfold wb_X6_allocates_13 at hf
    refine zt_iload hX 4 dX6_allocates_13 rfl ?_
    refine zt_aload_n hX 0 dX6_allocates_15 rfl rfl ?_
    refine zt_get_X6 hX (by decide) (zE_73 _ _) 0 (by decide) kw_654 rfl rfl dX6_allocates_16 ?_
    refine zt_iconst hX dX6_allocates_19 (v := (0 : Int32)) (by decide) ?_
    obtain ⟨h3, hf⟩ := hf
    refine zt_iaload hX dX6_allocates_20 (by decide) rfl h3 ?_
    refine zt_icmp_ge hX dX6_allocates_21 (tgt := 112) (by decide) (fun c4 => ?_) (fun c4 => ?_)
    · replace hf := z_pos hf c4
      refine zt_iconst hX dX6_allocates_112 (v := (1 : Int32)) (by decide) ?_
      refine zt_istore (L' := [(5, .int (1 : Int32)), (0, .ref (n0 + 73)), (1, .int x1), (2, .long x2), (4, .int x4)]) hX dX6_allocates_113 (by decide) rfl ?_
      exact zt_sub [1, 2, 3, 4, 0] rfl (t_X6_allocates_115 hX hY 400 _ _ _ _ _ hf)
    · replace hf := z_neg hf c4
      refine zt_aload_n hX 0 dX6_allocates_24 rfl rfl ?_
      refine zt_iload hX 4 dX6_allocates_25 rfl ?_
      refine zt_iconst hX dX6_allocates_27 (v := (0 : Int32)) (by decide) ?_
      refine zt_calliV hX hY (av := [.int x5, .int (0 : Int32)]) (c_X6_of hf) dX6_allocates_28 rfl kw_729 kw_731 kw_25 kw_67 kw_732 ⟨rfl, rfl⟩ hy_X6_of ⟨by decide, by decide⟩ ⟨by decide, by decide⟩ (Nat.le_of_ble_eq_true rfl) (by decide) (zE_73 _ _) rfl rfl (fun r69 σ70 hf => ?_)
      refine zt_iload_n hX 1 dX6_allocates_31 rfl rfl ?_
      refine zt_icmp_ne hX dX6_allocates_32 (tgt := 39) (by decide) (fun c71 => ?_) (fun c71 => ?_)
      · replace hf := z_neg hf c71
        refine zt_iconst hX dX6_allocates_39 (v := (0 : Int32)) (by decide) ?_
        exact zt_sub [0, 1, 2, 3, 4] rfl (t_X6_allocates_40 hX hY ih13 _ _ _ _ _ _ hf)
      · replace hf := z_pos hf c71
        refine zt_iconst hX dX6_allocates_35 (v := (1 : Int32)) (by decide) ?_
        refine zt_goto hX dX6_allocates_36 (tgt := 40) (by decide) ?_
        exact zt_sub [0, 1, 2, 3, 4] rfl (t_X6_allocates_40 hX hY ih13 _ _ _ _ _ _ hf)
set_option maxHeartbeats 4000000 in
set_option maxRecDepth 100000 in
theorem c_X6_allocates {l : Launch} {D : va_G} {cI cJ cM cS : ClassId} {n0 : Nat} {a1 : Int32} {σ : z_S} {Q : z_S → Prop} (hf : w_X6_allocates a1 σ Q) : z_cv l D cI cJ cM cS n0 yX6_allocates cX6_allocates 18 rm_X6_allocates 0 0 [.ref (n0 + 73), .int a1] σ Q := by
  refine z_ofv (by decide +kernel) (Nat.le_of_ble_eq_true rfl) (fun p e s m args below meth c hX hY => ?_)
  unfold w_X6_allocates at hf
  refine zt_L (L' := [(0, .ref (n0 + 73)), (1, .int a1)]) rfl ?_
  refine zt_lconst hX dX6_allocates_0 (v := (0 : Int64)) (by decide) ?_
  refine zt_lstore_n (L' := [(2, .long (0 : Int64)), (0, .ref (n0 + 73)), (1, .int a1)]) hX dX6_allocates_1 rfl (by decide) rfl ?_
  refine zt_aload_n hX 1 dX6_allocates_2 rfl rfl ?_
  refine zt_get_X6 hX (by decide) (zE_73 _ _) 2 (by decide) kw_656 rfl rfl dX6_allocates_3 ?_
  refine zt_iload_n hX 2 dX6_allocates_6 rfl rfl ?_
  obtain ⟨h1, hf⟩ := hf
  refine zt_iaload hX dX6_allocates_7 (by decide) rfl h1 ?_
  refine zt_nmi (fun y2 e2 => ?_)
  replace hf := hf y2 e2
  refine zt_istore (L' := [(4, .int y2), (2, .long (0 : Int64)), (0, .ref (n0 + 73)), (1, .int a1)]) hX dX6_allocates_8 (by decide) rfl ?_
  refine zt_iconst hX dX6_allocates_10 (v := (1 : Int32)) (by decide) ?_
  refine zt_istore (L' := [(5, .int (1 : Int32)), (4, .int y2), (2, .long (0 : Int64)), (0, .ref (n0 + 73)), (1, .int a1)]) hX dX6_allocates_11 (by decide) rfl ?_
  exact zt_sub [3, 4, 2, 1, 0] rfl (t_X6_allocates_13 hX hY 400 _ _ _ _ _ hf)

theorem dX6_bills_0 : decode cX6_bills 0 = .ok (.iconst 0, 1) := by decide +kernel
theorem dX6_bills_1 : decode cX6_bills 1 = .ok (.istore_n 2, 1) := by decide +kernel
theorem dX6_bills_2 : decode cX6_bills 2 = .ok (.iload_n 2, 1) := by decide +kernel
theorem dX6_bills_3 : decode cX6_bills 3 = .ok (.aload_n 0, 1) := by decide +kernel
theorem dX6_bills_4 : decode cX6_bills 4 = .ok (.getfield 7, 3) := by decide +kernel
theorem dX6_bills_7 : decode cX6_bills 7 = .ok (.iconst 0, 1) := by decide +kernel
theorem dX6_bills_8 : decode cX6_bills 8 = .ok (.iaload, 1) := by decide +kernel
theorem dX6_bills_9 : decode cX6_bills 9 = .ok (.if_icmp .ge 21, 3) := by decide +kernel
theorem dX6_bills_12 : decode cX6_bills 12 = .ok (.aload_n 0, 1) := by decide +kernel
theorem dX6_bills_13 : decode cX6_bills 13 = .ok (.getfield 16, 3) := by decide +kernel
theorem dX6_bills_16 : decode cX6_bills 16 = .ok (.iload_n 2, 1) := by decide +kernel
theorem dX6_bills_17 : decode cX6_bills 17 = .ok (.aload_n 0, 1) := by decide +kernel
theorem dX6_bills_18 : decode cX6_bills 18 = .ok (.iload_n 2, 1) := by decide +kernel
theorem dX6_bills_19 : decode cX6_bills 19 = .ok (.iload_n 1, 1) := by decide +kernel
theorem dX6_bills_20 : decode cX6_bills 20 = .ok (.invokevirtual 122, 3) := by decide +kernel
theorem dX6_bills_23 : decode cX6_bills 23 = .ok (.iastore, 1) := by decide +kernel
theorem dX6_bills_24 : decode cX6_bills 24 = .ok (.iinc 2 1, 3) := by decide +kernel
theorem dX6_bills_27 : decode cX6_bills 27 = .ok (.goto (-25), 3) := by decide +kernel
theorem dX6_bills_30 : decode cX6_bills 30 = .ok (.aload_n 0, 1) := by decide +kernel
theorem dX6_bills_31 : decode cX6_bills 31 = .ok (.getfield 13, 3) := by decide +kernel
theorem dX6_bills_34 : decode cX6_bills 34 = .ok (.iconst 0, 1) := by decide +kernel
theorem dX6_bills_35 : decode cX6_bills 35 = .ok (.aload_n 0, 1) := by decide +kernel
theorem dX6_bills_36 : decode cX6_bills 36 = .ok (.getfield 16, 3) := by decide +kernel
theorem dX6_bills_39 : decode cX6_bills 39 = .ok (.iconst 0, 1) := by decide +kernel
theorem dX6_bills_40 : decode cX6_bills 40 = .ok (.iaload, 1) := by decide +kernel
theorem dX6_bills_41 : decode cX6_bills 41 = .ok (.iastore, 1) := by decide +kernel
theorem dX6_bills_42 : decode cX6_bills 42 = .ok (.iconst 0, 1) := by decide +kernel
theorem dX6_bills_43 : decode cX6_bills 43 = .ok (.istore_n 2, 1) := by decide +kernel
theorem dX6_bills_44 : decode cX6_bills 44 = .ok (.iload_n 2, 1) := by decide +kernel
theorem dX6_bills_45 : decode cX6_bills 45 = .ok (.aload_n 0, 1) := by decide +kernel
theorem dX6_bills_46 : decode cX6_bills 46 = .ok (.getfield 7, 3) := by decide +kernel
theorem dX6_bills_49 : decode cX6_bills 49 = .ok (.iconst 0, 1) := by decide +kernel
theorem dX6_bills_50 : decode cX6_bills 50 = .ok (.iaload, 1) := by decide +kernel
theorem dX6_bills_51 : decode cX6_bills 51 = .ok (.if_icmp .ge 14, 3) := by decide +kernel
theorem dX6_bills_54 : decode cX6_bills 54 = .ok (.aload_n 0, 1) := by decide +kernel
theorem dX6_bills_55 : decode cX6_bills 55 = .ok (.iload_n 2, 1) := by decide +kernel
theorem dX6_bills_56 : decode cX6_bills 56 = .ok (.invokevirtual 133, 3) := by decide +kernel
theorem dX6_bills_59 : decode cX6_bills 59 = .ok (.iinc 2 1, 3) := by decide +kernel
theorem dX6_bills_62 : decode cX6_bills 62 = .ok (.goto (-18), 3) := by decide +kernel
theorem dX6_bills_65 : decode cX6_bills 65 = .ok (.return_, 1) := by decide +kernel
abbrev rm_X6_bills : Room := { frames := 10, cells := 0, slots := 0, locals := 237 }
theorem hy_X6_bills : yX6_bills.cls ≠ "java/lang/invoke/MethodHandle" ∧ yX6_bills.cls ≠ "java/lang/invoke/VarHandle" ∧ (parseMethodDescriptor yX6_bills.desc).map (fun d => d.parameters.length) = some 1 := by decide +kernel
def wb_X6_bills_44  (Q : z_S → Prop) (k44 : Int32 → z_S → Prop) (x2 : Int32) (σ : z_S) : Prop :=
  vp_in (0 : Int32) 1584 ∧ if (zg_i σ 74 (0 : Int32).toNatClampNeg) ≤ x2 then (Q σ) else (w_X6_allocates x2 σ (fun σ9 => ∀ y10 : Int32, y10 = (x2 + (1 : Int32)) → k44 y10 σ9))
def w_X6_bills_44  (Q : z_S → Prop) : Nat → Int32 → z_S → Prop
  | 0 => fun _ _ => False
  | n + 1 => wb_X6_bills_44  Q (w_X6_bills_44  Q n)
def wb_X6_bills_2  (Q : z_S → Prop) (k2 : Int32 → Int32 → z_S → Prop) (x1 : Int32) (x2 : Int32) (σ : z_S) : Prop :=
  vp_in (0 : Int32) 1584 ∧ if (zg_i σ 74 (0 : Int32).toNatClampNeg) ≤ x2 then (vp_in (0 : Int32) 10 ∧ vp_in (0 : Int32) 10 ∧ ∀ σ5 : z_S, σ5 = zs_i σ 75 (0 : Int32).toNatClampNeg (zg_i σ 76 (0 : Int32).toNatClampNeg) → w_X6_bills_44 Q 400 (0 : Int32) σ5) else (w_X6_energyOf x2 x1 σ (fun r11 σ12 => vp_in x2 10 ∧ ∀ σ14 : z_S, σ14 = zs_i σ12 76 x2.toNatClampNeg r11 → ∀ y15 : Int32, y15 = (x2 + (1 : Int32)) → k2 x1 y15 σ14))
def w_X6_bills_2  (Q : z_S → Prop) : Nat → Int32 → Int32 → z_S → Prop
  | 0 => fun _ _ _ => False
  | n + 1 => wb_X6_bills_2  Q (w_X6_bills_2  Q n)
def w_X6_bills (a1 : Int32) (σ : z_S) (Q : z_S → Prop) : Prop :=
  w_X6_bills_2 Q 400 a1 (0 : Int32) σ
set_option maxHeartbeats 4000000 in
set_option maxRecDepth 100000 in
theorem t_X6_bills_44 {l : Launch} {D : va_G} {cI cJ cM cS : ClassId} {n0 : Nat} {p : Program} {e : Env} {s : State} {m : MethodId} {args : Array Value} {below : List Frame} {meth : Method} {c : Code}  {Q : z_S → Prop} (hX : z_X D cI cJ cM cS p s m args c cX6_bills 3 yX6_bills.cls) (hY : z_Y s meth none)  : ∀ (n : Nat) (x2 : Int32) (σ : z_S), w_X6_bills_44  Q n x2 σ → z_t D cI cJ cM cS n0 p l e rm_X6_bills s m args below meth c 3 (MQ below (va_Qv Q (fun u t => z_Bq D cI cJ cM cS n0 u t) (z_Ab n0)) args s 0 0 (z_Ab n0)) 0 0 44 [(0, .ref (n0 + 73)), (2, .int x2)] [] σ := by
  intro n
  induction n with
  | zero => intro _ _ hf; exact hf.elim
  | succ n ih44 =>
    intro x2 σ hf
    have hf : wb_X6_bills_44  Q (w_X6_bills_44  Q n) x2 σ := hf
    unfold wb_X6_bills_44 at hf
    refine zt_iload_n hX 1 dX6_bills_44 rfl rfl ?_
    refine zt_aload_n hX 0 dX6_bills_45 rfl rfl ?_
    refine zt_get_X6 hX (by decide) (zE_73 _ _) 0 (by decide) kw_654 rfl rfl dX6_bills_46 ?_
    refine zt_iconst hX dX6_bills_49 (v := (0 : Int32)) (by decide) ?_
    obtain ⟨h6, hf⟩ := hf
    refine zt_iaload hX dX6_bills_50 (by decide) rfl h6 ?_
    refine zt_icmp_ge hX dX6_bills_51 (tgt := 65) (by decide) (fun c7 => ?_) (fun c7 => ?_)
    · replace hf := z_pos hf c7
      exact zt_vret hX hY dX6_bills_65 hf
    · replace hf := z_neg hf c7
      refine zt_aload_n hX 0 dX6_bills_54 rfl rfl ?_
      refine zt_iload_n hX 1 dX6_bills_55 rfl rfl ?_
      refine zt_callvV hX hY (av := [.int x2]) (c_X6_allocates hf) dX6_bills_56 rfl kw_887 kw_889 kw_47 kw_67 kw_890 ⟨rfl, rfl⟩ hy_X6_allocates ⟨by decide, by decide⟩ ⟨by decide, by decide⟩ (Nat.le_of_ble_eq_true rfl) (by decide) (zE_73 _ _) rfl rfl (fun σ9 hf => ?_)
      obtain ⟨y10, e10⟩ : ∃ y : Int32, y = (x2 + (1 : Int32)) := ⟨_, rfl⟩
      replace hf := hf y10 e10
      refine zt_iinc (L' := [(2, .int y10), (0, .ref (n0 + 73))]) hX 1 dX6_bills_59 rfl (v := y10) (by rw [e10]; rfl) (by decide) rfl ?_
      refine zt_goto hX dX6_bills_62 (tgt := 44) (by decide) ?_
      exact zt_sub [1, 0] rfl (ih44 _ _ hf)
set_option maxHeartbeats 4000000 in
set_option maxRecDepth 100000 in
theorem t_X6_bills_2 {l : Launch} {D : va_G} {cI cJ cM cS : ClassId} {n0 : Nat} {p : Program} {e : Env} {s : State} {m : MethodId} {args : Array Value} {below : List Frame} {meth : Method} {c : Code}  {Q : z_S → Prop} (hX : z_X D cI cJ cM cS p s m args c cX6_bills 3 yX6_bills.cls) (hY : z_Y s meth none)  : ∀ (n : Nat) (x1 : Int32) (x2 : Int32) (σ : z_S), w_X6_bills_2  Q n x1 x2 σ → z_t D cI cJ cM cS n0 p l e rm_X6_bills s m args below meth c 3 (MQ below (va_Qv Q (fun u t => z_Bq D cI cJ cM cS n0 u t) (z_Ab n0)) args s 0 0 (z_Ab n0)) 0 0 2 [(0, .ref (n0 + 73)), (1, .int x1), (2, .int x2)] [] σ := by
  intro n
  induction n with
  | zero => intro _ _ _ hf; exact hf.elim
  | succ n ih2 =>
    intro x1 x2 σ hf
    have hf : wb_X6_bills_2  Q (w_X6_bills_2  Q n) x1 x2 σ := hf
    unfold wb_X6_bills_2 at hf
    refine zt_iload_n hX 2 dX6_bills_2 rfl rfl ?_
    refine zt_aload_n hX 0 dX6_bills_3 rfl rfl ?_
    refine zt_get_X6 hX (by decide) (zE_73 _ _) 0 (by decide) kw_654 rfl rfl dX6_bills_4 ?_
    refine zt_iconst hX dX6_bills_7 (v := (0 : Int32)) (by decide) ?_
    obtain ⟨h1, hf⟩ := hf
    refine zt_iaload hX dX6_bills_8 (by decide) rfl h1 ?_
    refine zt_icmp_ge hX dX6_bills_9 (tgt := 30) (by decide) (fun c2 => ?_) (fun c2 => ?_)
    · replace hf := z_pos hf c2
      refine zt_aload_n hX 0 dX6_bills_30 rfl rfl ?_
      refine zt_get_X6 hX (by decide) (zE_73 _ _) 2 (by decide) kw_656 rfl rfl dX6_bills_31 ?_
      refine zt_iconst hX dX6_bills_34 (v := (0 : Int32)) (by decide) ?_
      refine zt_aload_n hX 0 dX6_bills_35 rfl rfl ?_
      refine zt_get_X6 hX (by decide) (zE_73 _ _) 3 (by decide) kw_657 rfl rfl dX6_bills_36 ?_
      refine zt_iconst hX dX6_bills_39 (v := (0 : Int32)) (by decide) ?_
      obtain ⟨h3, hf⟩ := hf
      refine zt_iaload hX dX6_bills_40 (by decide) rfl h3 ?_
      obtain ⟨h4, hf⟩ := hf
      refine zt_iastore hX dX6_bills_41 (by decide) rfl h4 ?_
      refine zt_nms (fun σ5 d5 => ?_)
      replace hf := hf σ5 d5
      refine zt_iconst hX dX6_bills_42 (v := (0 : Int32)) (by decide) ?_
      refine zt_istore_n (L' := [(2, .int (0 : Int32)), (0, .ref (n0 + 73)), (1, .int x1)]) hX dX6_bills_43 rfl (by decide) rfl ?_
      exact zt_sub [1, 0] rfl (t_X6_bills_44 hX hY 400 _ _ hf)
    · replace hf := z_neg hf c2
      refine zt_aload_n hX 0 dX6_bills_12 rfl rfl ?_
      refine zt_get_X6 hX (by decide) (zE_73 _ _) 3 (by decide) kw_657 rfl rfl dX6_bills_13 ?_
      refine zt_iload_n hX 2 dX6_bills_16 rfl rfl ?_
      refine zt_aload_n hX 0 dX6_bills_17 rfl rfl ?_
      refine zt_iload_n hX 2 dX6_bills_18 rfl rfl ?_
      refine zt_iload_n hX 1 dX6_bills_19 rfl rfl ?_
      refine zt_calliV hX hY (av := [.int x2, .int x1]) (c_X6_energyOf hf) dX6_bills_20 rfl kw_830 kw_832 kw_38 kw_67 kw_833 ⟨rfl, rfl⟩ hy_X6_energyOf ⟨by decide, by decide⟩ ⟨by decide, by decide⟩ (Nat.le_of_ble_eq_true rfl) (by decide) (zE_73 _ _) rfl rfl (fun r11 σ12 hf => ?_)
      obtain ⟨h13, hf⟩ := hf
      refine zt_iastore hX dX6_bills_23 (by decide) rfl h13 ?_
      refine zt_nms (fun σ14 d14 => ?_)
      replace hf := hf σ14 d14
      obtain ⟨y15, e15⟩ : ∃ y : Int32, y = (x2 + (1 : Int32)) := ⟨_, rfl⟩
      replace hf := hf y15 e15
      refine zt_iinc (L' := [(2, .int y15), (0, .ref (n0 + 73)), (1, .int x1)]) hX 2 dX6_bills_24 rfl (v := y15) (by rw [e15]; rfl) (by decide) rfl ?_
      refine zt_goto hX dX6_bills_27 (tgt := 2) (by decide) ?_
      exact zt_sub [1, 2, 0] rfl (ih2 _ _ _ hf)
set_option maxHeartbeats 4000000 in
set_option maxRecDepth 100000 in
theorem c_X6_bills {l : Launch} {D : va_G} {cI cJ cM cS : ClassId} {n0 : Nat} {a1 : Int32} {σ : z_S} {Q : z_S → Prop} (hf : w_X6_bills a1 σ Q) : z_cv l D cI cJ cM cS n0 yX6_bills cX6_bills 3 rm_X6_bills 0 0 [.ref (n0 + 73), .int a1] σ Q := by
  refine z_ofv (by decide +kernel) (Nat.le_of_ble_eq_true rfl) (fun p e s m args below meth c hX hY => ?_)
  unfold w_X6_bills at hf
  refine zt_L (L' := [(0, .ref (n0 + 73)), (1, .int a1)]) rfl ?_
  refine zt_iconst hX dX6_bills_0 (v := (0 : Int32)) (by decide) ?_
  refine zt_istore_n (L' := [(2, .int (0 : Int32)), (0, .ref (n0 + 73)), (1, .int a1)]) hX dX6_bills_1 rfl (by decide) rfl ?_
  exact zt_sub [1, 2, 0] rfl (t_X6_bills_2 hX hY 400 _ _ _ hf)

theorem dX6_billed_0 : decode cX6_billed 0 = .ok (.aload_n 0, 1) := by decide +kernel
theorem dX6_billed_1 : decode cX6_billed 1 = .ok (.iload_n 1, 1) := by decide +kernel
theorem dX6_billed_2 : decode cX6_billed 2 = .ok (.iload_n 2, 1) := by decide +kernel
theorem dX6_billed_3 : decode cX6_billed 3 = .ok (.invokevirtual 101, 3) := by decide +kernel
theorem dX6_billed_6 : decode cX6_billed 6 = .ok (.ifCond .ne 6, 3) := by decide +kernel
theorem dX6_billed_9 : decode cX6_billed 9 = .ok (.ldc 57, 2) := by decide +kernel
theorem dX6_billed_11 : decode cX6_billed 11 = .ok (.ireturn, 1) := by decide +kernel
theorem dX6_billed_12 : decode cX6_billed 12 = .ok (.aload_n 0, 1) := by decide +kernel
theorem dX6_billed_13 : decode cX6_billed 13 = .ok (.iload_n 2, 1) := by decide +kernel
theorem dX6_billed_14 : decode cX6_billed 14 = .ok (.invokevirtual 136, 3) := by decide +kernel
theorem dX6_billed_17 : decode cX6_billed 17 = .ok (.aload_n 0, 1) := by decide +kernel
theorem dX6_billed_18 : decode cX6_billed 18 = .ok (.getfield 13, 3) := by decide +kernel
theorem dX6_billed_21 : decode cX6_billed 21 = .ok (.iload_n 1, 1) := by decide +kernel
theorem dX6_billed_22 : decode cX6_billed 22 = .ok (.iaload, 1) := by decide +kernel
theorem dX6_billed_23 : decode cX6_billed 23 = .ok (.ireturn, 1) := by decide +kernel
abbrev rm_X6_billed : Room := { frames := 11, cells := 0, slots := 0, locals := 259 }
theorem hy_X6_billed : yX6_billed.cls ≠ "java/lang/invoke/MethodHandle" ∧ yX6_billed.cls ≠ "java/lang/invoke/VarHandle" ∧ (parseMethodDescriptor yX6_billed.desc).map (fun d => d.parameters.length) = some 2 := by decide +kernel
def w_X6_billed (a1 : Int32) (a2 : Int32) (σ : z_S) (Q : Int32 → z_S → Prop) : Prop :=
  w_X6_isInterval a1 a2 σ (fun r1 σ2 => if r1 = 0 then (Q (-2000000001 : Int32) σ2) else (w_X6_bills a2 σ2 (fun σ5 => vp_in a1 10 ∧ Q (zg_i σ5 75 a1.toNatClampNeg) σ5)))
set_option maxHeartbeats 4000000 in
set_option maxRecDepth 100000 in
theorem c_X6_billed {l : Launch} {D : va_G} {cI cJ cM cS : ClassId} {n0 : Nat} {a1 : Int32} {a2 : Int32} {σ : z_S} {Q : Int32 → z_S → Prop} (hf : w_X6_billed a1 a2 σ Q) : z_ci l D cI cJ cM cS n0 yX6_billed cX6_billed 3 .int rm_X6_billed 0 0 [.ref (n0 + 73), .int a1, .int a2] σ Q := by
  refine z_ofi (by decide +kernel) (Nat.le_of_ble_eq_true rfl) (fun p e s m args below meth c hX hY => ?_)
  unfold w_X6_billed at hf
  refine zt_L (L' := [(0, .ref (n0 + 73)), (1, .int a1), (2, .int a2)]) rfl ?_
  refine zt_aload_n hX 0 dX6_billed_0 rfl rfl ?_
  refine zt_iload_n hX 1 dX6_billed_1 rfl rfl ?_
  refine zt_iload_n hX 2 dX6_billed_2 rfl rfl ?_
  refine zt_calliV hX hY (av := [.int a1, .int a2]) (c_X6_isInterval hf) dX6_billed_3 rfl kw_802 kw_804 kw_33 kw_67 kw_805 ⟨rfl, rfl⟩ hy_X6_isInterval ⟨by decide, by decide⟩ ⟨by decide, by decide⟩ (Nat.le_of_ble_eq_true rfl) (by decide) (zE_73 _ _) rfl rfl (fun r1 σ2 hf => ?_)
  refine zt_if_ne hX dX6_billed_6 (tgt := 12) (by decide) (fun c3 => ?_) (fun c3 => ?_)
  · replace hf := z_neg hf c3
    refine zt_aload_n hX 0 dX6_billed_12 rfl rfl ?_
    refine zt_iload_n hX 2 dX6_billed_13 rfl rfl ?_
    refine zt_callvV hX hY (av := [.int a2]) (c_X6_bills hf) dX6_billed_14 rfl kw_883 kw_885 kw_46 kw_67 kw_886 ⟨rfl, rfl⟩ hy_X6_bills ⟨by decide, by decide⟩ ⟨by decide, by decide⟩ (Nat.le_of_ble_eq_true rfl) (by decide) (zE_73 _ _) rfl rfl (fun σ5 hf => ?_)
    refine zt_aload_n hX 0 dX6_billed_17 rfl rfl ?_
    refine zt_get_X6 hX (by decide) (zE_73 _ _) 2 (by decide) kw_656 rfl rfl dX6_billed_18 ?_
    refine zt_iload_n hX 1 dX6_billed_21 rfl rfl ?_
    obtain ⟨h6, hf⟩ := hf
    refine zt_iaload hX dX6_billed_22 (by decide) rfl h6 ?_
    exact zt_iret hX hY dX6_billed_23 hf
  · replace hf := z_pos hf c3
    refine zt_ldc hX dX6_billed_9 kw_705 ?_
    exact zt_iret hX hY dX6_billed_11 hf

theorem dX6_part_0 : decode cX6_part 0 = .ok (.aload_n 0, 1) := by decide +kernel
theorem dX6_part_1 : decode cX6_part 1 = .ok (.iload_n 1, 1) := by decide +kernel
theorem dX6_part_2 : decode cX6_part 2 = .ok (.iload_n 2, 1) := by decide +kernel
theorem dX6_part_3 : decode cX6_part 3 = .ok (.invokevirtual 101, 3) := by decide +kernel
theorem dX6_part_6 : decode cX6_part 6 = .ok (.ifCond .ne 6, 3) := by decide +kernel
theorem dX6_part_9 : decode cX6_part 9 = .ok (.ldc 57, 2) := by decide +kernel
theorem dX6_part_11 : decode cX6_part 11 = .ok (.ireturn, 1) := by decide +kernel
theorem dX6_part_12 : decode cX6_part 12 = .ok (.aload_n 0, 1) := by decide +kernel
theorem dX6_part_13 : decode cX6_part 13 = .ok (.iload_n 2, 1) := by decide +kernel
theorem dX6_part_14 : decode cX6_part 14 = .ok (.invokevirtual 136, 3) := by decide +kernel
theorem dX6_part_17 : decode cX6_part 17 = .ok (.aload_n 0, 1) := by decide +kernel
theorem dX6_part_18 : decode cX6_part 18 = .ok (.getfield 13, 3) := by decide +kernel
theorem dX6_part_21 : decode cX6_part 21 = .ok (.iload_n 1, 1) := by decide +kernel
theorem dX6_part_22 : decode cX6_part 22 = .ok (.iaload, 1) := by decide +kernel
theorem dX6_part_23 : decode cX6_part 23 = .ok (.aload_n 0, 1) := by decide +kernel
theorem dX6_part_24 : decode cX6_part 24 = .ok (.getfield 16, 3) := by decide +kernel
theorem dX6_part_27 : decode cX6_part 27 = .ok (.iload_n 1, 1) := by decide +kernel
theorem dX6_part_28 : decode cX6_part 28 = .ok (.iaload, 1) := by decide +kernel
theorem dX6_part_29 : decode cX6_part 29 = .ok (.isub, 1) := by decide +kernel
theorem dX6_part_30 : decode cX6_part 30 = .ok (.ireturn, 1) := by decide +kernel
abbrev rm_X6_part : Room := { frames := 11, cells := 0, slots := 0, locals := 259 }
theorem hy_X6_part : yX6_part.cls ≠ "java/lang/invoke/MethodHandle" ∧ yX6_part.cls ≠ "java/lang/invoke/VarHandle" ∧ (parseMethodDescriptor yX6_part.desc).map (fun d => d.parameters.length) = some 2 := by decide +kernel
def w_X6_part (a1 : Int32) (a2 : Int32) (σ : z_S) (Q : Int32 → z_S → Prop) : Prop :=
  w_X6_isInterval a1 a2 σ (fun r1 σ2 => if r1 = 0 then (Q (-2000000001 : Int32) σ2) else (w_X6_bills a2 σ2 (fun σ5 => vp_in a1 10 ∧ vp_in a1 10 ∧ Q ((zg_i σ5 75 a1.toNatClampNeg) - (zg_i σ5 76 a1.toNatClampNeg)) σ5)))
set_option maxHeartbeats 4000000 in
set_option maxRecDepth 100000 in
theorem c_X6_part {l : Launch} {D : va_G} {cI cJ cM cS : ClassId} {n0 : Nat} {a1 : Int32} {a2 : Int32} {σ : z_S} {Q : Int32 → z_S → Prop} (hf : w_X6_part a1 a2 σ Q) : z_ci l D cI cJ cM cS n0 yX6_part cX6_part 3 .int rm_X6_part 0 0 [.ref (n0 + 73), .int a1, .int a2] σ Q := by
  refine z_ofi (by decide +kernel) (Nat.le_of_ble_eq_true rfl) (fun p e s m args below meth c hX hY => ?_)
  unfold w_X6_part at hf
  refine zt_L (L' := [(0, .ref (n0 + 73)), (1, .int a1), (2, .int a2)]) rfl ?_
  refine zt_aload_n hX 0 dX6_part_0 rfl rfl ?_
  refine zt_iload_n hX 1 dX6_part_1 rfl rfl ?_
  refine zt_iload_n hX 2 dX6_part_2 rfl rfl ?_
  refine zt_calliV hX hY (av := [.int a1, .int a2]) (c_X6_isInterval hf) dX6_part_3 rfl kw_802 kw_804 kw_33 kw_67 kw_805 ⟨rfl, rfl⟩ hy_X6_isInterval ⟨by decide, by decide⟩ ⟨by decide, by decide⟩ (Nat.le_of_ble_eq_true rfl) (by decide) (zE_73 _ _) rfl rfl (fun r1 σ2 hf => ?_)
  refine zt_if_ne hX dX6_part_6 (tgt := 12) (by decide) (fun c3 => ?_) (fun c3 => ?_)
  · replace hf := z_neg hf c3
    refine zt_aload_n hX 0 dX6_part_12 rfl rfl ?_
    refine zt_iload_n hX 2 dX6_part_13 rfl rfl ?_
    refine zt_callvV hX hY (av := [.int a2]) (c_X6_bills hf) dX6_part_14 rfl kw_883 kw_885 kw_46 kw_67 kw_886 ⟨rfl, rfl⟩ hy_X6_bills ⟨by decide, by decide⟩ ⟨by decide, by decide⟩ (Nat.le_of_ble_eq_true rfl) (by decide) (zE_73 _ _) rfl rfl (fun σ5 hf => ?_)
    refine zt_aload_n hX 0 dX6_part_17 rfl rfl ?_
    refine zt_get_X6 hX (by decide) (zE_73 _ _) 2 (by decide) kw_656 rfl rfl dX6_part_18 ?_
    refine zt_iload_n hX 1 dX6_part_21 rfl rfl ?_
    obtain ⟨h6, hf⟩ := hf
    refine zt_iaload hX dX6_part_22 (by decide) rfl h6 ?_
    refine zt_aload_n hX 0 dX6_part_23 rfl rfl ?_
    refine zt_get_X6 hX (by decide) (zE_73 _ _) 3 (by decide) kw_657 rfl rfl dX6_part_24 ?_
    refine zt_iload_n hX 1 dX6_part_27 rfl rfl ?_
    obtain ⟨h7, hf⟩ := hf
    refine zt_iaload hX dX6_part_28 (by decide) rfl h7 ?_
    refine zt_isub hX dX6_part_29 ?_
    exact zt_iret hX hY dX6_part_30 hf
  · replace hf := z_pos hf c3
    refine zt_ldc hX dX6_part_9 kw_705 ?_
    exact zt_iret hX hY dX6_part_11 hf

theorem dX6_billsAll_0 : decode cX6_billsAll 0 = .ok (.iconst 0, 1) := by decide +kernel
theorem dX6_billsAll_1 : decode cX6_billsAll 1 = .ok (.istore_n 1, 1) := by decide +kernel
theorem dX6_billsAll_2 : decode cX6_billsAll 2 = .ok (.iload_n 1, 1) := by decide +kernel
theorem dX6_billsAll_3 : decode cX6_billsAll 3 = .ok (.bipush 10, 2) := by decide +kernel
theorem dX6_billsAll_5 : decode cX6_billsAll 5 = .ok (.if_icmp .ge 16, 3) := by decide +kernel
theorem dX6_billsAll_8 : decode cX6_billsAll 8 = .ok (.aload_n 0, 1) := by decide +kernel
theorem dX6_billsAll_9 : decode cX6_billsAll 9 = .ok (.getfield 26, 3) := by decide +kernel
theorem dX6_billsAll_12 : decode cX6_billsAll 12 = .ok (.iload_n 1, 1) := by decide +kernel
theorem dX6_billsAll_13 : decode cX6_billsAll 13 = .ok (.iconst 0, 1) := by decide +kernel
theorem dX6_billsAll_14 : decode cX6_billsAll 14 = .ok (.iastore, 1) := by decide +kernel
theorem dX6_billsAll_15 : decode cX6_billsAll 15 = .ok (.iinc 1 1, 3) := by decide +kernel
theorem dX6_billsAll_18 : decode cX6_billsAll 18 = .ok (.goto (-16), 3) := by decide +kernel
theorem dX6_billsAll_21 : decode cX6_billsAll 21 = .ok (.iconst 0, 1) := by decide +kernel
theorem dX6_billsAll_22 : decode cX6_billsAll 22 = .ok (.istore_n 1, 1) := by decide +kernel
theorem dX6_billsAll_23 : decode cX6_billsAll 23 = .ok (.iload_n 1, 1) := by decide +kernel
theorem dX6_billsAll_24 : decode cX6_billsAll 24 = .ok (.bipush 12, 2) := by decide +kernel
theorem dX6_billsAll_26 : decode cX6_billsAll 26 = .ok (.if_icmp .ge 47, 3) := by decide +kernel
theorem dX6_billsAll_29 : decode cX6_billsAll 29 = .ok (.aload_n 0, 1) := by decide +kernel
theorem dX6_billsAll_30 : decode cX6_billsAll 30 = .ok (.iload_n 1, 1) := by decide +kernel
theorem dX6_billsAll_31 : decode cX6_billsAll 31 = .ok (.invokevirtual 136, 3) := by decide +kernel
theorem dX6_billsAll_34 : decode cX6_billsAll 34 = .ok (.iconst 0, 1) := by decide +kernel
theorem dX6_billsAll_35 : decode cX6_billsAll 35 = .ok (.istore_n 2, 1) := by decide +kernel
theorem dX6_billsAll_36 : decode cX6_billsAll 36 = .ok (.iload_n 2, 1) := by decide +kernel
theorem dX6_billsAll_37 : decode cX6_billsAll 37 = .ok (.aload_n 0, 1) := by decide +kernel
theorem dX6_billsAll_38 : decode cX6_billsAll 38 = .ok (.getfield 7, 3) := by decide +kernel
theorem dX6_billsAll_41 : decode cX6_billsAll 41 = .ok (.iconst 0, 1) := by decide +kernel
theorem dX6_billsAll_42 : decode cX6_billsAll 42 = .ok (.iaload, 1) := by decide +kernel
theorem dX6_billsAll_43 : decode cX6_billsAll 43 = .ok (.if_icmp .ge 24, 3) := by decide +kernel
theorem dX6_billsAll_46 : decode cX6_billsAll 46 = .ok (.aload_n 0, 1) := by decide +kernel
theorem dX6_billsAll_47 : decode cX6_billsAll 47 = .ok (.getfield 26, 3) := by decide +kernel
theorem dX6_billsAll_50 : decode cX6_billsAll 50 = .ok (.iload_n 2, 1) := by decide +kernel
theorem dX6_billsAll_51 : decode cX6_billsAll 51 = .ok (.dup2, 1) := by decide +kernel
theorem dX6_billsAll_52 : decode cX6_billsAll 52 = .ok (.iaload, 1) := by decide +kernel
theorem dX6_billsAll_53 : decode cX6_billsAll 53 = .ok (.aload_n 0, 1) := by decide +kernel
theorem dX6_billsAll_54 : decode cX6_billsAll 54 = .ok (.getfield 13, 3) := by decide +kernel
theorem dX6_billsAll_57 : decode cX6_billsAll 57 = .ok (.iload_n 2, 1) := by decide +kernel
theorem dX6_billsAll_58 : decode cX6_billsAll 58 = .ok (.iaload, 1) := by decide +kernel
theorem dX6_billsAll_59 : decode cX6_billsAll 59 = .ok (.iadd, 1) := by decide +kernel
theorem dX6_billsAll_60 : decode cX6_billsAll 60 = .ok (.iastore, 1) := by decide +kernel
theorem dX6_billsAll_61 : decode cX6_billsAll 61 = .ok (.iinc 2 1, 3) := by decide +kernel
theorem dX6_billsAll_64 : decode cX6_billsAll 64 = .ok (.goto (-28), 3) := by decide +kernel
theorem dX6_billsAll_67 : decode cX6_billsAll 67 = .ok (.iinc 1 1, 3) := by decide +kernel
theorem dX6_billsAll_70 : decode cX6_billsAll 70 = .ok (.goto (-47), 3) := by decide +kernel
theorem dX6_billsAll_73 : decode cX6_billsAll 73 = .ok (.return_, 1) := by decide +kernel
abbrev rm_X6_billsAll : Room := { frames := 11, cells := 0, slots := 0, locals := 259 }
theorem hy_X6_billsAll : yX6_billsAll.cls ≠ "java/lang/invoke/MethodHandle" ∧ yX6_billsAll.cls ≠ "java/lang/invoke/VarHandle" ∧ (parseMethodDescriptor yX6_billsAll.desc).map (fun d => d.parameters.length) = some 0 := by decide +kernel
def wb_X6_billsAll_36 (k23 : Int32 → z_S → Prop) (Q : z_S → Prop) (k36 : Int32 → Int32 → z_S → Prop) (x1 : Int32) (x2 : Int32) (σ : z_S) : Prop :=
  vp_in (0 : Int32) 1584 ∧ if (zg_i σ 74 (0 : Int32).toNatClampNeg) ≤ x2 then (∀ y7 : Int32, y7 = (x1 + (1 : Int32)) → k23 y7 σ) else (vp_in x2 10 ∧ vp_in x2 10 ∧ vp_in x2 10 ∧ ∀ σ11 : z_S, σ11 = zs_i σ 79 x2.toNatClampNeg ((zg_i σ 79 x2.toNatClampNeg) + (zg_i σ 75 x2.toNatClampNeg)) → ∀ y12 : Int32, y12 = (x2 + (1 : Int32)) → k36 x1 y12 σ11)
def w_X6_billsAll_36 (k23 : Int32 → z_S → Prop) (Q : z_S → Prop) : Nat → Int32 → Int32 → z_S → Prop
  | 0 => fun _ _ _ => False
  | n + 1 => wb_X6_billsAll_36 k23 Q (w_X6_billsAll_36 k23 Q n)
def wb_X6_billsAll_23  (Q : z_S → Prop) (k23 : Int32 → z_S → Prop) (x1 : Int32) (σ : z_S) : Prop :=
  if (12 : Int32) ≤ x1 then (Q σ) else (w_X6_bills x1 σ (fun σ4 => w_X6_billsAll_36 k23 Q 400 x1 (0 : Int32) σ4))
def w_X6_billsAll_23  (Q : z_S → Prop) : Nat → Int32 → z_S → Prop
  | 0 => fun _ _ => False
  | n + 1 => wb_X6_billsAll_23  Q (w_X6_billsAll_23  Q n)
def wb_X6_billsAll_2  (Q : z_S → Prop) (k2 : Int32 → z_S → Prop) (x1 : Int32) (σ : z_S) : Prop :=
  if (10 : Int32) ≤ x1 then (w_X6_billsAll_23 Q 400 (0 : Int32) σ) else (vp_in x1 10 ∧ ∀ σ14 : z_S, σ14 = zs_i σ 79 x1.toNatClampNeg (0 : Int32) → ∀ y15 : Int32, y15 = (x1 + (1 : Int32)) → k2 y15 σ14)
def w_X6_billsAll_2  (Q : z_S → Prop) : Nat → Int32 → z_S → Prop
  | 0 => fun _ _ => False
  | n + 1 => wb_X6_billsAll_2  Q (w_X6_billsAll_2  Q n)
def w_X6_billsAll  (σ : z_S) (Q : z_S → Prop) : Prop :=
  w_X6_billsAll_2 Q 400 (0 : Int32) σ
set_option maxHeartbeats 4000000 in
set_option maxRecDepth 100000 in
theorem t_X6_billsAll_36 {l : Launch} {D : va_G} {cI cJ cM cS : ClassId} {n0 : Nat} {p : Program} {e : Env} {s : State} {m : MethodId} {args : Array Value} {below : List Frame} {meth : Method} {c : Code} {k23 : Int32 → z_S → Prop} {Q : z_S → Prop} (hX : z_X D cI cJ cM cS p s m args c cX6_billsAll 3 yX6_billsAll.cls) (hY : z_Y s meth none) (hk23 : ∀ (x1 : Int32) (σ : z_S), k23 x1 σ → z_t D cI cJ cM cS n0 p l e rm_X6_billsAll s m args below meth c 3 (MQ below (va_Qv Q (fun u t => z_Bq D cI cJ cM cS n0 u t) (z_Ab n0)) args s 0 0 (z_Ab n0)) 0 0 23 [(0, .ref (n0 + 73)), (1, .int x1)] [] σ) : ∀ (n : Nat) (x1 : Int32) (x2 : Int32) (σ : z_S), w_X6_billsAll_36 k23 Q n x1 x2 σ → z_t D cI cJ cM cS n0 p l e rm_X6_billsAll s m args below meth c 3 (MQ below (va_Qv Q (fun u t => z_Bq D cI cJ cM cS n0 u t) (z_Ab n0)) args s 0 0 (z_Ab n0)) 0 0 36 [(0, .ref (n0 + 73)), (1, .int x1), (2, .int x2)] [] σ := by
  intro n
  induction n with
  | zero => intro _ _ _ hf; exact hf.elim
  | succ n ih36 =>
    intro x1 x2 σ hf
    have hf : wb_X6_billsAll_36 k23 Q (w_X6_billsAll_36 k23 Q n) x1 x2 σ := hf
    unfold wb_X6_billsAll_36 at hf
    refine zt_iload_n hX 2 dX6_billsAll_36 rfl rfl ?_
    refine zt_aload_n hX 0 dX6_billsAll_37 rfl rfl ?_
    refine zt_get_X6 hX (by decide) (zE_73 _ _) 0 (by decide) kw_654 rfl rfl dX6_billsAll_38 ?_
    refine zt_iconst hX dX6_billsAll_41 (v := (0 : Int32)) (by decide) ?_
    obtain ⟨h5, hf⟩ := hf
    refine zt_iaload hX dX6_billsAll_42 (by decide) rfl h5 ?_
    refine zt_icmp_ge hX dX6_billsAll_43 (tgt := 67) (by decide) (fun c6 => ?_) (fun c6 => ?_)
    · replace hf := z_pos hf c6
      obtain ⟨y7, e7⟩ : ∃ y : Int32, y = (x1 + (1 : Int32)) := ⟨_, rfl⟩
      replace hf := hf y7 e7
      refine zt_iinc (L' := [(1, .int y7), (0, .ref (n0 + 73)), (2, .int x2)]) hX 1 dX6_billsAll_67 rfl (v := y7) (by rw [e7]; rfl) (by decide) rfl ?_
      refine zt_goto hX dX6_billsAll_70 (tgt := 23) (by decide) ?_
      exact zt_sub [1, 0] rfl (hk23 _ _ hf)
    · replace hf := z_neg hf c6
      refine zt_aload_n hX 0 dX6_billsAll_46 rfl rfl ?_
      refine zt_get_X6 hX (by decide) (zE_73 _ _) 6 (by decide) kw_660 rfl rfl dX6_billsAll_47 ?_
      refine zt_iload_n hX 2 dX6_billsAll_50 rfl rfl ?_
      refine zt_dup2 hX dX6_billsAll_51 rfl rfl ?_
      obtain ⟨h8, hf⟩ := hf
      refine zt_iaload hX dX6_billsAll_52 (by decide) rfl h8 ?_
      refine zt_aload_n hX 0 dX6_billsAll_53 rfl rfl ?_
      refine zt_get_X6 hX (by decide) (zE_73 _ _) 2 (by decide) kw_656 rfl rfl dX6_billsAll_54 ?_
      refine zt_iload_n hX 2 dX6_billsAll_57 rfl rfl ?_
      obtain ⟨h9, hf⟩ := hf
      refine zt_iaload hX dX6_billsAll_58 (by decide) rfl h9 ?_
      refine zt_iadd hX dX6_billsAll_59 ?_
      obtain ⟨h10, hf⟩ := hf
      refine zt_iastore hX dX6_billsAll_60 (by decide) rfl h10 ?_
      refine zt_nms (fun σ11 d11 => ?_)
      replace hf := hf σ11 d11
      obtain ⟨y12, e12⟩ : ∃ y : Int32, y = (x2 + (1 : Int32)) := ⟨_, rfl⟩
      replace hf := hf y12 e12
      refine zt_iinc (L' := [(2, .int y12), (0, .ref (n0 + 73)), (1, .int x1)]) hX 2 dX6_billsAll_61 rfl (v := y12) (by rw [e12]; rfl) (by decide) rfl ?_
      refine zt_goto hX dX6_billsAll_64 (tgt := 36) (by decide) ?_
      exact zt_sub [1, 2, 0] rfl (ih36 _ _ _ hf)
set_option maxHeartbeats 4000000 in
set_option maxRecDepth 100000 in
theorem t_X6_billsAll_23 {l : Launch} {D : va_G} {cI cJ cM cS : ClassId} {n0 : Nat} {p : Program} {e : Env} {s : State} {m : MethodId} {args : Array Value} {below : List Frame} {meth : Method} {c : Code}  {Q : z_S → Prop} (hX : z_X D cI cJ cM cS p s m args c cX6_billsAll 3 yX6_billsAll.cls) (hY : z_Y s meth none)  : ∀ (n : Nat) (x1 : Int32) (σ : z_S), w_X6_billsAll_23  Q n x1 σ → z_t D cI cJ cM cS n0 p l e rm_X6_billsAll s m args below meth c 3 (MQ below (va_Qv Q (fun u t => z_Bq D cI cJ cM cS n0 u t) (z_Ab n0)) args s 0 0 (z_Ab n0)) 0 0 23 [(0, .ref (n0 + 73)), (1, .int x1)] [] σ := by
  intro n
  induction n with
  | zero => intro _ _ hf; exact hf.elim
  | succ n ih23 =>
    intro x1 σ hf
    have hf : wb_X6_billsAll_23  Q (w_X6_billsAll_23  Q n) x1 σ := hf
    unfold wb_X6_billsAll_23 at hf
    refine zt_iload_n hX 1 dX6_billsAll_23 rfl rfl ?_
    refine zt_bipush hX dX6_billsAll_24 (v := (12 : Int32)) (by decide) ?_
    refine zt_icmp_ge hX dX6_billsAll_26 (tgt := 73) (by decide) (fun c2 => ?_) (fun c2 => ?_)
    · replace hf := z_pos hf c2
      exact zt_vret hX hY dX6_billsAll_73 hf
    · replace hf := z_neg hf c2
      refine zt_aload_n hX 0 dX6_billsAll_29 rfl rfl ?_
      refine zt_iload_n hX 1 dX6_billsAll_30 rfl rfl ?_
      refine zt_callvV hX hY (av := [.int x1]) (c_X6_bills hf) dX6_billsAll_31 rfl kw_883 kw_885 kw_46 kw_67 kw_886 ⟨rfl, rfl⟩ hy_X6_bills ⟨by decide, by decide⟩ ⟨by decide, by decide⟩ (Nat.le_of_ble_eq_true rfl) (by decide) (zE_73 _ _) rfl rfl (fun σ4 hf => ?_)
      refine zt_iconst hX dX6_billsAll_34 (v := (0 : Int32)) (by decide) ?_
      refine zt_istore_n (L' := [(2, .int (0 : Int32)), (0, .ref (n0 + 73)), (1, .int x1)]) hX dX6_billsAll_35 rfl (by decide) rfl ?_
      exact zt_sub [1, 2, 0] rfl (t_X6_billsAll_36 hX hY ih23 400 _ _ _ hf)
set_option maxHeartbeats 4000000 in
set_option maxRecDepth 100000 in
theorem t_X6_billsAll_2 {l : Launch} {D : va_G} {cI cJ cM cS : ClassId} {n0 : Nat} {p : Program} {e : Env} {s : State} {m : MethodId} {args : Array Value} {below : List Frame} {meth : Method} {c : Code}  {Q : z_S → Prop} (hX : z_X D cI cJ cM cS p s m args c cX6_billsAll 3 yX6_billsAll.cls) (hY : z_Y s meth none)  : ∀ (n : Nat) (x1 : Int32) (σ : z_S), w_X6_billsAll_2  Q n x1 σ → z_t D cI cJ cM cS n0 p l e rm_X6_billsAll s m args below meth c 3 (MQ below (va_Qv Q (fun u t => z_Bq D cI cJ cM cS n0 u t) (z_Ab n0)) args s 0 0 (z_Ab n0)) 0 0 2 [(0, .ref (n0 + 73)), (1, .int x1)] [] σ := by
  intro n
  induction n with
  | zero => intro _ _ hf; exact hf.elim
  | succ n ih2 =>
    intro x1 σ hf
    have hf : wb_X6_billsAll_2  Q (w_X6_billsAll_2  Q n) x1 σ := hf
    unfold wb_X6_billsAll_2 at hf
    refine zt_iload_n hX 1 dX6_billsAll_2 rfl rfl ?_
    refine zt_bipush hX dX6_billsAll_3 (v := (10 : Int32)) (by decide) ?_
    refine zt_icmp_ge hX dX6_billsAll_5 (tgt := 21) (by decide) (fun c1 => ?_) (fun c1 => ?_)
    · replace hf := z_pos hf c1
      refine zt_iconst hX dX6_billsAll_21 (v := (0 : Int32)) (by decide) ?_
      refine zt_istore_n (L' := [(1, .int (0 : Int32)), (0, .ref (n0 + 73))]) hX dX6_billsAll_22 rfl (by decide) rfl ?_
      exact zt_sub [1, 0] rfl (t_X6_billsAll_23 hX hY 400 _ _ hf)
    · replace hf := z_neg hf c1
      refine zt_aload_n hX 0 dX6_billsAll_8 rfl rfl ?_
      refine zt_get_X6 hX (by decide) (zE_73 _ _) 6 (by decide) kw_660 rfl rfl dX6_billsAll_9 ?_
      refine zt_iload_n hX 1 dX6_billsAll_12 rfl rfl ?_
      refine zt_iconst hX dX6_billsAll_13 (v := (0 : Int32)) (by decide) ?_
      obtain ⟨h13, hf⟩ := hf
      refine zt_iastore hX dX6_billsAll_14 (by decide) rfl h13 ?_
      refine zt_nms (fun σ14 d14 => ?_)
      replace hf := hf σ14 d14
      obtain ⟨y15, e15⟩ : ∃ y : Int32, y = (x1 + (1 : Int32)) := ⟨_, rfl⟩
      replace hf := hf y15 e15
      refine zt_iinc (L' := [(1, .int y15), (0, .ref (n0 + 73))]) hX 1 dX6_billsAll_15 rfl (v := y15) (by rw [e15]; rfl) (by decide) rfl ?_
      refine zt_goto hX dX6_billsAll_18 (tgt := 2) (by decide) ?_
      exact zt_sub [1, 0] rfl (ih2 _ _ hf)
set_option maxHeartbeats 4000000 in
set_option maxRecDepth 100000 in
theorem c_X6_billsAll {l : Launch} {D : va_G} {cI cJ cM cS : ClassId} {n0 : Nat}  {σ : z_S} {Q : z_S → Prop} (hf : w_X6_billsAll  σ Q) : z_cv l D cI cJ cM cS n0 yX6_billsAll cX6_billsAll 3 rm_X6_billsAll 0 0 [.ref (n0 + 73)] σ Q := by
  refine z_ofv (by decide +kernel) (Nat.le_of_ble_eq_true rfl) (fun p e s m args below meth c hX hY => ?_)
  unfold w_X6_billsAll at hf
  refine zt_L (L' := [(0, .ref (n0 + 73))]) rfl ?_
  refine zt_iconst hX dX6_billsAll_0 (v := (0 : Int32)) (by decide) ?_
  refine zt_istore_n (L' := [(1, .int (0 : Int32)), (0, .ref (n0 + 73))]) hX dX6_billsAll_1 rfl (by decide) rfl ?_
  exact zt_sub [1, 0] rfl (t_X6_billsAll_2 hX hY 400 _ _ hf)
