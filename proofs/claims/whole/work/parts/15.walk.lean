theorem dX5_loss_0 : decode cX5_loss 0 = .ok (.aload_n 0, 1) := by decide +kernel
theorem dX5_loss_1 : decode cX5_loss 1 = .ok (.getfield 10, 3) := by decide +kernel
theorem dX5_loss_4 : decode cX5_loss 4 = .ok (.iload_n 1, 1) := by decide +kernel
theorem dX5_loss_5 : decode cX5_loss 5 = .ok (.invokevirtual 48, 3) := by decide +kernel
theorem dX5_loss_8 : decode cX5_loss 8 = .ok (.ifCond .eq 10, 3) := by decide +kernel
theorem dX5_loss_11 : decode cX5_loss 11 = .ok (.iload_n 2, 1) := by decide +kernel
theorem dX5_loss_12 : decode cX5_loss 12 = .ok (.invokestatic 115, 3) := by decide +kernel
theorem dX5_loss_15 : decode cX5_loss 15 = .ok (.ifCond .ne 6, 3) := by decide +kernel
theorem dX5_loss_18 : decode cX5_loss 18 = .ok (.ldc 52, 2) := by decide +kernel
theorem dX5_loss_20 : decode cX5_loss 20 = .ok (.ireturn, 1) := by decide +kernel
theorem dX5_loss_21 : decode cX5_loss 21 = .ok (.aload_n 0, 1) := by decide +kernel
theorem dX5_loss_22 : decode cX5_loss 22 = .ok (.getfield 10, 3) := by decide +kernel
theorem dX5_loss_25 : decode cX5_loss 25 = .ok (.iload_n 1, 1) := by decide +kernel
theorem dX5_loss_26 : decode cX5_loss 26 = .ok (.invokevirtual 94, 3) := by decide +kernel
theorem dX5_loss_29 : decode cX5_loss 29 = .ok (.ifCond .ne 6, 3) := by decide +kernel
theorem dX5_loss_32 : decode cX5_loss 32 = .ok (.ldc 104, 2) := by decide +kernel
theorem dX5_loss_34 : decode cX5_loss 34 = .ok (.ireturn, 1) := by decide +kernel
theorem dX5_loss_35 : decode cX5_loss 35 = .ok (.aload_n 0, 1) := by decide +kernel
theorem dX5_loss_36 : decode cX5_loss 36 = .ok (.getfield 26, 3) := by decide +kernel
theorem dX5_loss_39 : decode cX5_loss 39 = .ok (.aload_n 0, 1) := by decide +kernel
theorem dX5_loss_40 : decode cX5_loss 40 = .ok (.getfield 10, 3) := by decide +kernel
theorem dX5_loss_43 : decode cX5_loss 43 = .ok (.iload_n 1, 1) := by decide +kernel
theorem dX5_loss_44 : decode cX5_loss 44 = .ok (.invokevirtual 152, 3) := by decide +kernel
theorem dX5_loss_47 : decode cX5_loss 47 = .ok (.aload_n 0, 1) := by decide +kernel
theorem dX5_loss_48 : decode cX5_loss 48 = .ok (.getfield 26, 3) := by decide +kernel
theorem dX5_loss_51 : decode cX5_loss 51 = .ok (.aload_n 0, 1) := by decide +kernel
theorem dX5_loss_52 : decode cX5_loss 52 = .ok (.getfield 10, 3) := by decide +kernel
theorem dX5_loss_55 : decode cX5_loss 55 = .ok (.iload_n 1, 1) := by decide +kernel
theorem dX5_loss_56 : decode cX5_loss 56 = .ok (.iload_n 2, 1) := by decide +kernel
theorem dX5_loss_57 : decode cX5_loss 57 = .ok (.invokevirtual 155, 3) := by decide +kernel
theorem dX5_loss_60 : decode cX5_loss 60 = .ok (.ireturn, 1) := by decide +kernel
abbrev rm_X5_loss : Room := { frames := 5, cells := 0, slots := 0, locals := 119 }
theorem hy_X5_loss : yX5_loss.cls ≠ "java/lang/invoke/MethodHandle" ∧ yX5_loss.cls ≠ "java/lang/invoke/VarHandle" ∧ (parseMethodDescriptor yX5_loss.desc).map (fun d => d.parameters.length) = some 2 := by decide +kernel
def w_X5_loss (a1 : Int32) (a2 : Int32) (σ : z_S) (Q : Int32 → z_S → Prop) : Prop :=
  w_X4_has a1 σ (fun r1 σ2 => if r1 = 0 then (Q (-2000000001 : Int32) σ2) else (w_X5_isInterval a2 σ2 (fun r4 σ5 => if r4 = 0 then (Q (-2000000001 : Int32) σ5) else (w_X4_countChildren a1 σ5 (fun r7 σ8 => if r7 = 0 then (Q (-2000000000 : Int32) σ8) else (w_X1_measureFamily a1 σ8 (fun σ11 => w_X1_lossIn a1 a2 σ11 (fun r12 σ13 => Q r12 σ13))))))))
set_option maxHeartbeats 4000000 in
set_option maxRecDepth 100000 in
theorem c_X5_loss {l : Launch} {D : va_G} {cI cJ cM cS : ClassId} {n0 : Nat} {a1 : Int32} {a2 : Int32} {σ : z_S} {Q : Int32 → z_S → Prop} (hf : w_X5_loss a1 a2 σ Q) : z_ci l D cI cJ cM cS n0 yX5_loss cX5_loss 3 .int rm_X5_loss 0 0 [.ref (n0 + 0), .int a1, .int a2] σ Q := by
  refine z_ofi (by decide +kernel) (Nat.le_of_ble_eq_true rfl) (fun p e s m args below meth c hX hY => ?_)
  unfold w_X5_loss at hf
  refine zt_L (L' := [(0, .ref (n0 + 0)), (1, .int a1), (2, .int a2)]) rfl ?_
  refine zt_aload_n hX 0 dX5_loss_0 rfl rfl ?_
  refine zt_get_X5 hX (by decide) (zE_0 _ _) 0 (by decide) kw_234 rfl rfl dX5_loss_1 ?_
  refine zt_iload_n hX 1 dX5_loss_4 rfl rfl ?_
  refine zt_calliV hX hY (av := [.int a1]) (c_X4_has hf) dX5_loss_5 rfl kw_254 kw_255 kw_256 kw_62 kw_257 ⟨rfl, rfl⟩ hy_X4_has ⟨by decide, by decide⟩ ⟨by decide, by decide⟩ (Nat.le_of_ble_eq_true rfl) (by decide) (zE_1 _ _) rfl rfl (fun r1 σ2 hf => ?_)
  refine zt_if_eq hX dX5_loss_8 (tgt := 18) (by decide) (fun c3 => ?_) (fun c3 => ?_)
  · replace hf := z_pos hf c3
    refine zt_ldc hX dX5_loss_18 kw_258 ?_
    exact zt_iret hX hY dX5_loss_20 hf
  · replace hf := z_neg hf c3
    refine zt_iload_n hX 2 dX5_loss_11 rfl rfl ?_
    refine zt_calliS hX hY (av := [.int a2]) (c_X5_isInterval hf) dX5_loss_12 rfl kw_359 kw_360 kw_61 kw_361 ⟨rfl, rfl⟩ hy_X5_isInterval ⟨by decide, by decide⟩ ⟨by decide, by decide⟩ (Nat.le_of_ble_eq_true rfl) (fun r4 σ5 hf => ?_)
    refine zt_if_ne hX dX5_loss_15 (tgt := 21) (by decide) (fun c6 => ?_) (fun c6 => ?_)
    · replace hf := z_neg hf c6
      refine zt_aload_n hX 0 dX5_loss_21 rfl rfl ?_
      refine zt_get_X5 hX (by decide) (zE_0 _ _) 0 (by decide) kw_234 rfl rfl dX5_loss_22 ?_
      refine zt_iload_n hX 1 dX5_loss_25 rfl rfl ?_
      refine zt_calliV hX hY (av := [.int a1]) (c_X4_countChildren hf) dX5_loss_26 rfl kw_312 kw_313 kw_314 kw_62 kw_315 ⟨rfl, rfl⟩ hy_X4_countChildren ⟨by decide, by decide⟩ ⟨by decide, by decide⟩ (Nat.le_of_ble_eq_true rfl) (by decide) (zE_1 _ _) rfl rfl (fun r7 σ8 hf => ?_)
      refine zt_if_ne hX dX5_loss_29 (tgt := 35) (by decide) (fun c9 => ?_) (fun c9 => ?_)
      · replace hf := z_neg hf c9
        refine zt_aload_n hX 0 dX5_loss_35 rfl rfl ?_
        refine zt_get_X5 hX (by decide) (zE_0 _ _) 2 (by decide) kw_236 rfl rfl dX5_loss_36 ?_
        refine zt_aload_n hX 0 dX5_loss_39 rfl rfl ?_
        refine zt_get_X5 hX (by decide) (zE_0 _ _) 0 (by decide) kw_234 rfl rfl dX5_loss_40 ?_
        refine zt_iload_n hX 1 dX5_loss_43 rfl rfl ?_
        refine zt_callvV hX hY (av := [.ref (n0 + 1), .int a1]) (c_X1_measureFamily hf) dX5_loss_44 rfl kw_425 kw_426 kw_427 kw_64 kw_428 ⟨rfl, rfl⟩ hy_X1_measureFamily ⟨by decide, by decide⟩ ⟨by decide, by decide⟩ (Nat.le_of_ble_eq_true rfl) (by decide) (zE_29 _ _) rfl rfl (fun σ11 hf => ?_)
        refine zt_aload_n hX 0 dX5_loss_47 rfl rfl ?_
        refine zt_get_X5 hX (by decide) (zE_0 _ _) 2 (by decide) kw_236 rfl rfl dX5_loss_48 ?_
        refine zt_aload_n hX 0 dX5_loss_51 rfl rfl ?_
        refine zt_get_X5 hX (by decide) (zE_0 _ _) 0 (by decide) kw_234 rfl rfl dX5_loss_52 ?_
        refine zt_iload_n hX 1 dX5_loss_55 rfl rfl ?_
        refine zt_iload_n hX 2 dX5_loss_56 rfl rfl ?_
        refine zt_calliV hX hY (av := [.ref (n0 + 1), .int a1, .int a2]) (c_X1_lossIn hf) dX5_loss_57 rfl kw_430 kw_431 kw_432 kw_64 kw_433 ⟨rfl, rfl⟩ hy_X1_lossIn ⟨by decide, by decide⟩ ⟨by decide, by decide⟩ (Nat.le_of_ble_eq_true rfl) (by decide) (zE_29 _ _) rfl rfl (fun r12 σ13 hf => ?_)
        exact zt_iret hX hY dX5_loss_60 hf
      · replace hf := z_pos hf c9
        refine zt_ldc hX dX5_loss_32 kw_329 ?_
        exact zt_iret hX hY dX5_loss_34 hf
    · replace hf := z_pos hf c6
      refine zt_ldc hX dX5_loss_18 kw_258 ?_
      exact zt_iret hX hY dX5_loss_20 hf

theorem dX5_balance_0 : decode cX5_balance 0 = .ok (.aload_n 0, 1) := by decide +kernel
theorem dX5_balance_1 : decode cX5_balance 1 = .ok (.getfield 10, 3) := by decide +kernel
theorem dX5_balance_4 : decode cX5_balance 4 = .ok (.iload_n 1, 1) := by decide +kernel
theorem dX5_balance_5 : decode cX5_balance 5 = .ok (.invokevirtual 48, 3) := by decide +kernel
theorem dX5_balance_8 : decode cX5_balance 8 = .ok (.ifCond .eq 10, 3) := by decide +kernel
theorem dX5_balance_11 : decode cX5_balance 11 = .ok (.iload_n 2, 1) := by decide +kernel
theorem dX5_balance_12 : decode cX5_balance 12 = .ok (.invokestatic 115, 3) := by decide +kernel
theorem dX5_balance_15 : decode cX5_balance 15 = .ok (.ifCond .ne 6, 3) := by decide +kernel
theorem dX5_balance_18 : decode cX5_balance 18 = .ok (.ldc 52, 2) := by decide +kernel
theorem dX5_balance_20 : decode cX5_balance 20 = .ok (.ireturn, 1) := by decide +kernel
theorem dX5_balance_21 : decode cX5_balance 21 = .ok (.aload_n 0, 1) := by decide +kernel
theorem dX5_balance_22 : decode cX5_balance 22 = .ok (.getfield 10, 3) := by decide +kernel
theorem dX5_balance_25 : decode cX5_balance 25 = .ok (.iload_n 1, 1) := by decide +kernel
theorem dX5_balance_26 : decode cX5_balance 26 = .ok (.invokevirtual 94, 3) := by decide +kernel
theorem dX5_balance_29 : decode cX5_balance 29 = .ok (.ifCond .ne 6, 3) := by decide +kernel
theorem dX5_balance_32 : decode cX5_balance 32 = .ok (.ldc 104, 2) := by decide +kernel
theorem dX5_balance_34 : decode cX5_balance 34 = .ok (.ireturn, 1) := by decide +kernel
theorem dX5_balance_35 : decode cX5_balance 35 = .ok (.aload_n 0, 1) := by decide +kernel
theorem dX5_balance_36 : decode cX5_balance 36 = .ok (.getfield 26, 3) := by decide +kernel
theorem dX5_balance_39 : decode cX5_balance 39 = .ok (.aload_n 0, 1) := by decide +kernel
theorem dX5_balance_40 : decode cX5_balance 40 = .ok (.getfield 10, 3) := by decide +kernel
theorem dX5_balance_43 : decode cX5_balance 43 = .ok (.iload_n 1, 1) := by decide +kernel
theorem dX5_balance_44 : decode cX5_balance 44 = .ok (.invokevirtual 152, 3) := by decide +kernel
theorem dX5_balance_47 : decode cX5_balance 47 = .ok (.aload_n 0, 1) := by decide +kernel
theorem dX5_balance_48 : decode cX5_balance 48 = .ok (.getfield 26, 3) := by decide +kernel
theorem dX5_balance_51 : decode cX5_balance 51 = .ok (.aload_n 0, 1) := by decide +kernel
theorem dX5_balance_52 : decode cX5_balance 52 = .ok (.getfield 10, 3) := by decide +kernel
theorem dX5_balance_55 : decode cX5_balance 55 = .ok (.iload_n 1, 1) := by decide +kernel
theorem dX5_balance_56 : decode cX5_balance 56 = .ok (.iload_n 2, 1) := by decide +kernel
theorem dX5_balance_57 : decode cX5_balance 57 = .ok (.invokevirtual 159, 3) := by decide +kernel
theorem dX5_balance_60 : decode cX5_balance 60 = .ok (.ireturn, 1) := by decide +kernel
abbrev rm_X5_balance : Room := { frames := 5, cells := 0, slots := 0, locals := 119 }
theorem hy_X5_balance : yX5_balance.cls ≠ "java/lang/invoke/MethodHandle" ∧ yX5_balance.cls ≠ "java/lang/invoke/VarHandle" ∧ (parseMethodDescriptor yX5_balance.desc).map (fun d => d.parameters.length) = some 2 := by decide +kernel
def w_X5_balance (a1 : Int32) (a2 : Int32) (σ : z_S) (Q : Int32 → z_S → Prop) : Prop :=
  w_X4_has a1 σ (fun r1 σ2 => if r1 = 0 then (Q (-2000000001 : Int32) σ2) else (w_X5_isInterval a2 σ2 (fun r4 σ5 => if r4 = 0 then (Q (-2000000001 : Int32) σ5) else (w_X4_countChildren a1 σ5 (fun r7 σ8 => if r7 = 0 then (Q (-2000000000 : Int32) σ8) else (w_X1_measureFamily a1 σ8 (fun σ11 => w_X1_balanceIn a1 a2 σ11 (fun r12 σ13 => Q r12 σ13))))))))
set_option maxHeartbeats 4000000 in
set_option maxRecDepth 100000 in
theorem c_X5_balance {l : Launch} {D : va_G} {cI cJ cM cS : ClassId} {n0 : Nat} {a1 : Int32} {a2 : Int32} {σ : z_S} {Q : Int32 → z_S → Prop} (hf : w_X5_balance a1 a2 σ Q) : z_ci l D cI cJ cM cS n0 yX5_balance cX5_balance 3 .int rm_X5_balance 0 0 [.ref (n0 + 0), .int a1, .int a2] σ Q := by
  refine z_ofi (by decide +kernel) (Nat.le_of_ble_eq_true rfl) (fun p e s m args below meth c hX hY => ?_)
  unfold w_X5_balance at hf
  refine zt_L (L' := [(0, .ref (n0 + 0)), (1, .int a1), (2, .int a2)]) rfl ?_
  refine zt_aload_n hX 0 dX5_balance_0 rfl rfl ?_
  refine zt_get_X5 hX (by decide) (zE_0 _ _) 0 (by decide) kw_234 rfl rfl dX5_balance_1 ?_
  refine zt_iload_n hX 1 dX5_balance_4 rfl rfl ?_
  refine zt_calliV hX hY (av := [.int a1]) (c_X4_has hf) dX5_balance_5 rfl kw_254 kw_255 kw_256 kw_62 kw_257 ⟨rfl, rfl⟩ hy_X4_has ⟨by decide, by decide⟩ ⟨by decide, by decide⟩ (Nat.le_of_ble_eq_true rfl) (by decide) (zE_1 _ _) rfl rfl (fun r1 σ2 hf => ?_)
  refine zt_if_eq hX dX5_balance_8 (tgt := 18) (by decide) (fun c3 => ?_) (fun c3 => ?_)
  · replace hf := z_pos hf c3
    refine zt_ldc hX dX5_balance_18 kw_258 ?_
    exact zt_iret hX hY dX5_balance_20 hf
  · replace hf := z_neg hf c3
    refine zt_iload_n hX 2 dX5_balance_11 rfl rfl ?_
    refine zt_calliS hX hY (av := [.int a2]) (c_X5_isInterval hf) dX5_balance_12 rfl kw_359 kw_360 kw_61 kw_361 ⟨rfl, rfl⟩ hy_X5_isInterval ⟨by decide, by decide⟩ ⟨by decide, by decide⟩ (Nat.le_of_ble_eq_true rfl) (fun r4 σ5 hf => ?_)
    refine zt_if_ne hX dX5_balance_15 (tgt := 21) (by decide) (fun c6 => ?_) (fun c6 => ?_)
    · replace hf := z_neg hf c6
      refine zt_aload_n hX 0 dX5_balance_21 rfl rfl ?_
      refine zt_get_X5 hX (by decide) (zE_0 _ _) 0 (by decide) kw_234 rfl rfl dX5_balance_22 ?_
      refine zt_iload_n hX 1 dX5_balance_25 rfl rfl ?_
      refine zt_calliV hX hY (av := [.int a1]) (c_X4_countChildren hf) dX5_balance_26 rfl kw_312 kw_313 kw_314 kw_62 kw_315 ⟨rfl, rfl⟩ hy_X4_countChildren ⟨by decide, by decide⟩ ⟨by decide, by decide⟩ (Nat.le_of_ble_eq_true rfl) (by decide) (zE_1 _ _) rfl rfl (fun r7 σ8 hf => ?_)
      refine zt_if_ne hX dX5_balance_29 (tgt := 35) (by decide) (fun c9 => ?_) (fun c9 => ?_)
      · replace hf := z_neg hf c9
        refine zt_aload_n hX 0 dX5_balance_35 rfl rfl ?_
        refine zt_get_X5 hX (by decide) (zE_0 _ _) 2 (by decide) kw_236 rfl rfl dX5_balance_36 ?_
        refine zt_aload_n hX 0 dX5_balance_39 rfl rfl ?_
        refine zt_get_X5 hX (by decide) (zE_0 _ _) 0 (by decide) kw_234 rfl rfl dX5_balance_40 ?_
        refine zt_iload_n hX 1 dX5_balance_43 rfl rfl ?_
        refine zt_callvV hX hY (av := [.ref (n0 + 1), .int a1]) (c_X1_measureFamily hf) dX5_balance_44 rfl kw_425 kw_426 kw_427 kw_64 kw_428 ⟨rfl, rfl⟩ hy_X1_measureFamily ⟨by decide, by decide⟩ ⟨by decide, by decide⟩ (Nat.le_of_ble_eq_true rfl) (by decide) (zE_29 _ _) rfl rfl (fun σ11 hf => ?_)
        refine zt_aload_n hX 0 dX5_balance_47 rfl rfl ?_
        refine zt_get_X5 hX (by decide) (zE_0 _ _) 2 (by decide) kw_236 rfl rfl dX5_balance_48 ?_
        refine zt_aload_n hX 0 dX5_balance_51 rfl rfl ?_
        refine zt_get_X5 hX (by decide) (zE_0 _ _) 0 (by decide) kw_234 rfl rfl dX5_balance_52 ?_
        refine zt_iload_n hX 1 dX5_balance_55 rfl rfl ?_
        refine zt_iload_n hX 2 dX5_balance_56 rfl rfl ?_
        refine zt_calliV hX hY (av := [.ref (n0 + 1), .int a1, .int a2]) (c_X1_balanceIn hf) dX5_balance_57 rfl kw_478 kw_479 kw_480 kw_64 kw_481 ⟨rfl, rfl⟩ hy_X1_balanceIn ⟨by decide, by decide⟩ ⟨by decide, by decide⟩ (Nat.le_of_ble_eq_true rfl) (by decide) (zE_29 _ _) rfl rfl (fun r12 σ13 hf => ?_)
        exact zt_iret hX hY dX5_balance_60 hf
      · replace hf := z_pos hf c9
        refine zt_ldc hX dX5_balance_32 kw_329 ?_
        exact zt_iret hX hY dX5_balance_34 hf
    · replace hf := z_pos hf c6
      refine zt_ldc hX dX5_balance_18 kw_258 ?_
      exact zt_iret hX hY dX5_balance_20 hf

theorem dX5_nextFault_0 : decode cX5_nextFault 0 = .ok (.aload_n 0, 1) := by decide +kernel
theorem dX5_nextFault_1 : decode cX5_nextFault 1 = .ok (.getfield 10, 3) := by decide +kernel
theorem dX5_nextFault_4 : decode cX5_nextFault 4 = .ok (.iload_n 1, 1) := by decide +kernel
theorem dX5_nextFault_5 : decode cX5_nextFault 5 = .ok (.invokevirtual 48, 3) := by decide +kernel
theorem dX5_nextFault_8 : decode cX5_nextFault 8 = .ok (.ifCond .ne 6, 3) := by decide +kernel
theorem dX5_nextFault_11 : decode cX5_nextFault 11 = .ok (.ldc 52, 2) := by decide +kernel
theorem dX5_nextFault_13 : decode cX5_nextFault 13 = .ok (.ireturn, 1) := by decide +kernel
theorem dX5_nextFault_14 : decode cX5_nextFault 14 = .ok (.iload_n 2, 1) := by decide +kernel
theorem dX5_nextFault_15 : decode cX5_nextFault 15 = .ok (.iconst (-1), 1) := by decide +kernel
theorem dX5_nextFault_16 : decode cX5_nextFault 16 = .ok (.bipush 11, 2) := by decide +kernel
theorem dX5_nextFault_18 : decode cX5_nextFault 18 = .ok (.invokestatic 62, 3) := by decide +kernel
theorem dX5_nextFault_21 : decode cX5_nextFault 21 = .ok (.ifCond .ne 6, 3) := by decide +kernel
theorem dX5_nextFault_24 : decode cX5_nextFault 24 = .ok (.ldc 66, 2) := by decide +kernel
theorem dX5_nextFault_26 : decode cX5_nextFault 26 = .ok (.ireturn, 1) := by decide +kernel
theorem dX5_nextFault_27 : decode cX5_nextFault 27 = .ok (.aload_n 0, 1) := by decide +kernel
theorem dX5_nextFault_28 : decode cX5_nextFault 28 = .ok (.getfield 10, 3) := by decide +kernel
theorem dX5_nextFault_31 : decode cX5_nextFault 31 = .ok (.iload_n 1, 1) := by decide +kernel
theorem dX5_nextFault_32 : decode cX5_nextFault 32 = .ok (.invokevirtual 94, 3) := by decide +kernel
theorem dX5_nextFault_35 : decode cX5_nextFault 35 = .ok (.ifCond .ne 6, 3) := by decide +kernel
theorem dX5_nextFault_38 : decode cX5_nextFault 38 = .ok (.ldc 104, 2) := by decide +kernel
theorem dX5_nextFault_40 : decode cX5_nextFault 40 = .ok (.ireturn, 1) := by decide +kernel
theorem dX5_nextFault_41 : decode cX5_nextFault 41 = .ok (.aload_n 0, 1) := by decide +kernel
theorem dX5_nextFault_42 : decode cX5_nextFault 42 = .ok (.getfield 26, 3) := by decide +kernel
theorem dX5_nextFault_45 : decode cX5_nextFault 45 = .ok (.aload_n 0, 1) := by decide +kernel
theorem dX5_nextFault_46 : decode cX5_nextFault 46 = .ok (.getfield 10, 3) := by decide +kernel
theorem dX5_nextFault_49 : decode cX5_nextFault 49 = .ok (.iload_n 1, 1) := by decide +kernel
theorem dX5_nextFault_50 : decode cX5_nextFault 50 = .ok (.invokevirtual 152, 3) := by decide +kernel
theorem dX5_nextFault_53 : decode cX5_nextFault 53 = .ok (.iload_n 2, 1) := by decide +kernel
theorem dX5_nextFault_54 : decode cX5_nextFault 54 = .ok (.iconst 1, 1) := by decide +kernel
theorem dX5_nextFault_55 : decode cX5_nextFault 55 = .ok (.iadd, 1) := by decide +kernel
theorem dX5_nextFault_56 : decode cX5_nextFault 56 = .ok (.istore_n 3, 1) := by decide +kernel
theorem dX5_nextFault_57 : decode cX5_nextFault 57 = .ok (.iload_n 3, 1) := by decide +kernel
theorem dX5_nextFault_58 : decode cX5_nextFault 58 = .ok (.bipush 12, 2) := by decide +kernel
theorem dX5_nextFault_60 : decode cX5_nextFault 60 = .ok (.if_icmp .ge 27, 3) := by decide +kernel
theorem dX5_nextFault_63 : decode cX5_nextFault 63 = .ok (.aload_n 0, 1) := by decide +kernel
theorem dX5_nextFault_64 : decode cX5_nextFault 64 = .ok (.getfield 26, 3) := by decide +kernel
theorem dX5_nextFault_67 : decode cX5_nextFault 67 = .ok (.aload_n 0, 1) := by decide +kernel
theorem dX5_nextFault_68 : decode cX5_nextFault 68 = .ok (.getfield 10, 3) := by decide +kernel
theorem dX5_nextFault_71 : decode cX5_nextFault 71 = .ok (.iload_n 1, 1) := by decide +kernel
theorem dX5_nextFault_72 : decode cX5_nextFault 72 = .ok (.iload_n 3, 1) := by decide +kernel
theorem dX5_nextFault_73 : decode cX5_nextFault 73 = .ok (.invokevirtual 159, 3) := by decide +kernel
theorem dX5_nextFault_76 : decode cX5_nextFault 76 = .ok (.ifCond .eq 5, 3) := by decide +kernel
theorem dX5_nextFault_79 : decode cX5_nextFault 79 = .ok (.iload_n 3, 1) := by decide +kernel
theorem dX5_nextFault_80 : decode cX5_nextFault 80 = .ok (.ireturn, 1) := by decide +kernel
theorem dX5_nextFault_81 : decode cX5_nextFault 81 = .ok (.iinc 3 1, 3) := by decide +kernel
theorem dX5_nextFault_84 : decode cX5_nextFault 84 = .ok (.goto (-27), 3) := by decide +kernel
theorem dX5_nextFault_87 : decode cX5_nextFault 87 = .ok (.ldc 104, 2) := by decide +kernel
theorem dX5_nextFault_89 : decode cX5_nextFault 89 = .ok (.ireturn, 1) := by decide +kernel
abbrev rm_X5_nextFault : Room := { frames := 5, cells := 0, slots := 0, locals := 119 }
theorem hy_X5_nextFault : yX5_nextFault.cls ≠ "java/lang/invoke/MethodHandle" ∧ yX5_nextFault.cls ≠ "java/lang/invoke/VarHandle" ∧ (parseMethodDescriptor yX5_nextFault.desc).map (fun d => d.parameters.length) = some 2 := by decide +kernel
def wb_X5_nextFault_57  (Q : Int32 → z_S → Prop) (k57 : Int32 → Int32 → z_S → Prop) (x1 : Int32) (x3 : Int32) (σ : z_S) : Prop :=
  if (12 : Int32) ≤ x3 then (Q (-2000000000 : Int32) σ) else (w_X1_balanceIn x1 x3 σ (fun r14 σ15 => if r14 = 0 then (∀ y17 : Int32, y17 = (x3 + (1 : Int32)) → k57 x1 y17 σ15) else (Q x3 σ15)))
def w_X5_nextFault_57  (Q : Int32 → z_S → Prop) : Nat → Int32 → Int32 → z_S → Prop
  | 0 => fun _ _ _ => False
  | n + 1 => wb_X5_nextFault_57  Q (w_X5_nextFault_57  Q n)
def w_X5_nextFault (a1 : Int32) (a2 : Int32) (σ : z_S) (Q : Int32 → z_S → Prop) : Prop :=
  w_X4_has a1 σ (fun r1 σ2 => if r1 = 0 then (Q (-2000000001 : Int32) σ2) else (w_X5_within a2 (-1 : Int32) (11 : Int32) σ2 (fun r4 σ5 => if r4 = 0 then (Q (-2000000002 : Int32) σ5) else (w_X4_countChildren a1 σ5 (fun r7 σ8 => if r7 = 0 then (Q (-2000000000 : Int32) σ8) else (w_X1_measureFamily a1 σ8 (fun σ11 => ∀ y12 : Int32, y12 = (a2 + (1 : Int32)) → w_X5_nextFault_57 Q 400 a1 y12 σ11)))))))
set_option maxHeartbeats 4000000 in
set_option maxRecDepth 100000 in
theorem t_X5_nextFault_57 {l : Launch} {D : va_G} {cI cJ cM cS : ClassId} {n0 : Nat} {p : Program} {e : Env} {s : State} {m : MethodId} {args : Array Value} {below : List Frame} {meth : Method} {c : Code}  {Q : Int32 → z_S → Prop} (hX : z_X D cI cJ cM cS p s m args c cX5_nextFault 4 yX5_nextFault.cls) (hY : z_Y s meth (some .int))  : ∀ (n : Nat) (x1 : Int32) (x3 : Int32) (σ : z_S), w_X5_nextFault_57  Q n x1 x3 σ → z_t D cI cJ cM cS n0 p l e rm_X5_nextFault s m args below meth c 4 (MQ below (va_Qi Q (fun u t => z_Bq D cI cJ cM cS n0 u t) (z_Ab n0)) args s 0 0 (z_Ab n0)) 0 0 57 [(0, .ref (n0 + 0)), (1, .int x1), (3, .int x3)] [] σ := by
  intro n
  induction n with
  | zero => intro _ _ _ hf; exact hf.elim
  | succ n ih57 =>
    intro x1 x3 σ hf
    have hf : wb_X5_nextFault_57  Q (w_X5_nextFault_57  Q n) x1 x3 σ := hf
    unfold wb_X5_nextFault_57 at hf
    refine zt_iload_n hX 2 dX5_nextFault_57 rfl rfl ?_
    refine zt_bipush hX dX5_nextFault_58 (v := (12 : Int32)) (by decide) ?_
    refine zt_icmp_ge hX dX5_nextFault_60 (tgt := 87) (by decide) (fun c13 => ?_) (fun c13 => ?_)
    · replace hf := z_pos hf c13
      refine zt_ldc hX dX5_nextFault_87 kw_329 ?_
      exact zt_iret hX hY dX5_nextFault_89 hf
    · replace hf := z_neg hf c13
      refine zt_aload_n hX 0 dX5_nextFault_63 rfl rfl ?_
      refine zt_get_X5 hX (by decide) (zE_0 _ _) 2 (by decide) kw_236 rfl rfl dX5_nextFault_64 ?_
      refine zt_aload_n hX 0 dX5_nextFault_67 rfl rfl ?_
      refine zt_get_X5 hX (by decide) (zE_0 _ _) 0 (by decide) kw_234 rfl rfl dX5_nextFault_68 ?_
      refine zt_iload_n hX 1 dX5_nextFault_71 rfl rfl ?_
      refine zt_iload_n hX 2 dX5_nextFault_72 rfl rfl ?_
      refine zt_calliV hX hY (av := [.ref (n0 + 1), .int x1, .int x3]) (c_X1_balanceIn hf) dX5_nextFault_73 rfl kw_478 kw_479 kw_480 kw_64 kw_481 ⟨rfl, rfl⟩ hy_X1_balanceIn ⟨by decide, by decide⟩ ⟨by decide, by decide⟩ (Nat.le_of_ble_eq_true rfl) (by decide) (zE_29 _ _) rfl rfl (fun r14 σ15 hf => ?_)
      refine zt_if_eq hX dX5_nextFault_76 (tgt := 81) (by decide) (fun c16 => ?_) (fun c16 => ?_)
      · replace hf := z_pos hf c16
        obtain ⟨y17, e17⟩ : ∃ y : Int32, y = (x3 + (1 : Int32)) := ⟨_, rfl⟩
        replace hf := hf y17 e17
        refine zt_iinc (L' := [(3, .int y17), (0, .ref (n0 + 0)), (1, .int x1)]) hX 2 dX5_nextFault_81 rfl (v := y17) (by rw [e17]; rfl) (by decide) rfl ?_
        refine zt_goto hX dX5_nextFault_84 (tgt := 57) (by decide) ?_
        exact zt_sub [1, 2, 0] rfl (ih57 _ _ _ hf)
      · replace hf := z_neg hf c16
        refine zt_iload_n hX 2 dX5_nextFault_79 rfl rfl ?_
        exact zt_iret hX hY dX5_nextFault_80 hf
set_option maxHeartbeats 4000000 in
set_option maxRecDepth 100000 in
theorem c_X5_nextFault {l : Launch} {D : va_G} {cI cJ cM cS : ClassId} {n0 : Nat} {a1 : Int32} {a2 : Int32} {σ : z_S} {Q : Int32 → z_S → Prop} (hf : w_X5_nextFault a1 a2 σ Q) : z_ci l D cI cJ cM cS n0 yX5_nextFault cX5_nextFault 4 .int rm_X5_nextFault 0 0 [.ref (n0 + 0), .int a1, .int a2] σ Q := by
  refine z_ofi (by decide +kernel) (Nat.le_of_ble_eq_true rfl) (fun p e s m args below meth c hX hY => ?_)
  unfold w_X5_nextFault at hf
  refine zt_L (L' := [(0, .ref (n0 + 0)), (1, .int a1), (2, .int a2)]) rfl ?_
  refine zt_aload_n hX 0 dX5_nextFault_0 rfl rfl ?_
  refine zt_get_X5 hX (by decide) (zE_0 _ _) 0 (by decide) kw_234 rfl rfl dX5_nextFault_1 ?_
  refine zt_iload_n hX 1 dX5_nextFault_4 rfl rfl ?_
  refine zt_calliV hX hY (av := [.int a1]) (c_X4_has hf) dX5_nextFault_5 rfl kw_254 kw_255 kw_256 kw_62 kw_257 ⟨rfl, rfl⟩ hy_X4_has ⟨by decide, by decide⟩ ⟨by decide, by decide⟩ (Nat.le_of_ble_eq_true rfl) (by decide) (zE_1 _ _) rfl rfl (fun r1 σ2 hf => ?_)
  refine zt_if_ne hX dX5_nextFault_8 (tgt := 14) (by decide) (fun c3 => ?_) (fun c3 => ?_)
  · replace hf := z_neg hf c3
    refine zt_iload_n hX 2 dX5_nextFault_14 rfl rfl ?_
    refine zt_iconst hX dX5_nextFault_15 (v := (-1 : Int32)) (by decide) ?_
    refine zt_bipush hX dX5_nextFault_16 (v := (11 : Int32)) (by decide) ?_
    refine zt_calliS hX hY (av := [.int a2, .int (-1 : Int32), .int (11 : Int32)]) (c_X5_within hf) dX5_nextFault_18 rfl kw_290 kw_291 kw_61 kw_292 ⟨rfl, rfl⟩ hy_X5_within ⟨by decide, by decide⟩ ⟨by decide, by decide⟩ (Nat.le_of_ble_eq_true rfl) (fun r4 σ5 hf => ?_)
    refine zt_if_ne hX dX5_nextFault_21 (tgt := 27) (by decide) (fun c6 => ?_) (fun c6 => ?_)
    · replace hf := z_neg hf c6
      refine zt_aload_n hX 0 dX5_nextFault_27 rfl rfl ?_
      refine zt_get_X5 hX (by decide) (zE_0 _ _) 0 (by decide) kw_234 rfl rfl dX5_nextFault_28 ?_
      refine zt_iload_n hX 1 dX5_nextFault_31 rfl rfl ?_
      refine zt_calliV hX hY (av := [.int a1]) (c_X4_countChildren hf) dX5_nextFault_32 rfl kw_312 kw_313 kw_314 kw_62 kw_315 ⟨rfl, rfl⟩ hy_X4_countChildren ⟨by decide, by decide⟩ ⟨by decide, by decide⟩ (Nat.le_of_ble_eq_true rfl) (by decide) (zE_1 _ _) rfl rfl (fun r7 σ8 hf => ?_)
      refine zt_if_ne hX dX5_nextFault_35 (tgt := 41) (by decide) (fun c9 => ?_) (fun c9 => ?_)
      · replace hf := z_neg hf c9
        refine zt_aload_n hX 0 dX5_nextFault_41 rfl rfl ?_
        refine zt_get_X5 hX (by decide) (zE_0 _ _) 2 (by decide) kw_236 rfl rfl dX5_nextFault_42 ?_
        refine zt_aload_n hX 0 dX5_nextFault_45 rfl rfl ?_
        refine zt_get_X5 hX (by decide) (zE_0 _ _) 0 (by decide) kw_234 rfl rfl dX5_nextFault_46 ?_
        refine zt_iload_n hX 1 dX5_nextFault_49 rfl rfl ?_
        refine zt_callvV hX hY (av := [.ref (n0 + 1), .int a1]) (c_X1_measureFamily hf) dX5_nextFault_50 rfl kw_425 kw_426 kw_427 kw_64 kw_428 ⟨rfl, rfl⟩ hy_X1_measureFamily ⟨by decide, by decide⟩ ⟨by decide, by decide⟩ (Nat.le_of_ble_eq_true rfl) (by decide) (zE_29 _ _) rfl rfl (fun σ11 hf => ?_)
        refine zt_iload_n hX 2 dX5_nextFault_53 rfl rfl ?_
        refine zt_iconst hX dX5_nextFault_54 (v := (1 : Int32)) (by decide) ?_
        refine zt_iadd hX dX5_nextFault_55 ?_
        refine zt_nmi (fun y12 e12 => ?_)
        replace hf := hf y12 e12
        refine zt_istore_n (L' := [(3, .int y12), (0, .ref (n0 + 0)), (1, .int a1), (2, .int a2)]) hX dX5_nextFault_56 rfl (by decide) rfl ?_
        exact zt_sub [1, 2, 0] rfl (t_X5_nextFault_57 hX hY 400 _ _ _ hf)
      · replace hf := z_pos hf c9
        refine zt_ldc hX dX5_nextFault_38 kw_329 ?_
        exact zt_iret hX hY dX5_nextFault_40 hf
    · replace hf := z_pos hf c6
      refine zt_ldc hX dX5_nextFault_24 kw_293 ?_
      exact zt_iret hX hY dX5_nextFault_26 hf
  · replace hf := z_pos hf c3
    refine zt_ldc hX dX5_nextFault_11 kw_258 ?_
    exact zt_iret hX hY dX5_nextFault_13 hf

theorem dX5_billed_0 : decode cX5_billed 0 = .ok (.aload_n 0, 1) := by decide +kernel
theorem dX5_billed_1 : decode cX5_billed 1 = .ok (.getfield 10, 3) := by decide +kernel
theorem dX5_billed_4 : decode cX5_billed 4 = .ok (.iload_n 1, 1) := by decide +kernel
theorem dX5_billed_5 : decode cX5_billed 5 = .ok (.invokevirtual 48, 3) := by decide +kernel
theorem dX5_billed_8 : decode cX5_billed 8 = .ok (.ifCond .eq 10, 3) := by decide +kernel
theorem dX5_billed_11 : decode cX5_billed 11 = .ok (.iload_n 2, 1) := by decide +kernel
theorem dX5_billed_12 : decode cX5_billed 12 = .ok (.invokestatic 115, 3) := by decide +kernel
theorem dX5_billed_15 : decode cX5_billed 15 = .ok (.ifCond .ne 6, 3) := by decide +kernel
theorem dX5_billed_18 : decode cX5_billed 18 = .ok (.ldc 52, 2) := by decide +kernel
theorem dX5_billed_20 : decode cX5_billed 20 = .ok (.ireturn, 1) := by decide +kernel
theorem dX5_billed_21 : decode cX5_billed 21 = .ok (.aload_n 0, 1) := by decide +kernel
theorem dX5_billed_22 : decode cX5_billed 22 = .ok (.getfield 33, 3) := by decide +kernel
theorem dX5_billed_25 : decode cX5_billed 25 = .ok (.aload_n 0, 1) := by decide +kernel
theorem dX5_billed_26 : decode cX5_billed 26 = .ok (.getfield 10, 3) := by decide +kernel
theorem dX5_billed_29 : decode cX5_billed 29 = .ok (.aload_n 0, 1) := by decide +kernel
theorem dX5_billed_30 : decode cX5_billed 30 = .ok (.getfield 26, 3) := by decide +kernel
theorem dX5_billed_33 : decode cX5_billed 33 = .ok (.invokevirtual 142, 3) := by decide +kernel
theorem dX5_billed_36 : decode cX5_billed 36 = .ok (.aload_n 0, 1) := by decide +kernel
theorem dX5_billed_37 : decode cX5_billed 37 = .ok (.getfield 33, 3) := by decide +kernel
theorem dX5_billed_40 : decode cX5_billed 40 = .ok (.getfield 146, 3) := by decide +kernel
theorem dX5_billed_43 : decode cX5_billed 43 = .ok (.iload_n 1, 1) := by decide +kernel
theorem dX5_billed_44 : decode cX5_billed 44 = .ok (.aaload, 1) := by decide +kernel
theorem dX5_billed_45 : decode cX5_billed 45 = .ok (.iload_n 2, 1) := by decide +kernel
theorem dX5_billed_46 : decode cX5_billed 46 = .ok (.iaload, 1) := by decide +kernel
theorem dX5_billed_47 : decode cX5_billed 47 = .ok (.ireturn, 1) := by decide +kernel
abbrev rm_X5_billed : Room := { frames := 5, cells := 0, slots := 0, locals := 120 }
theorem hy_X5_billed : yX5_billed.cls ≠ "java/lang/invoke/MethodHandle" ∧ yX5_billed.cls ≠ "java/lang/invoke/VarHandle" ∧ (parseMethodDescriptor yX5_billed.desc).map (fun d => d.parameters.length) = some 2 := by decide +kernel
def w_X5_billed (a1 : Int32) (a2 : Int32) (σ : z_S) (Q : Int32 → z_S → Prop) : Prop :=
  w_X4_has a1 σ (fun r1 σ2 => if r1 = 0 then (Q (-2000000001 : Int32) σ2) else (w_X5_isInterval a2 σ2 (fun r4 σ5 => if r4 = 0 then (Q (-2000000001 : Int32) σ5) else (w_X0_fill σ5 (fun σ8 => vp_in a1 10 ∧ vp_in a2 12 ∧ Q (zg_i σ8 (55 + a1.toNatClampNeg) a2.toNatClampNeg) σ8)))))
set_option maxHeartbeats 4000000 in
set_option maxRecDepth 100000 in
theorem c_X5_billed {l : Launch} {D : va_G} {cI cJ cM cS : ClassId} {n0 : Nat} {a1 : Int32} {a2 : Int32} {σ : z_S} {Q : Int32 → z_S → Prop} (hf : w_X5_billed a1 a2 σ Q) : z_ci l D cI cJ cM cS n0 yX5_billed cX5_billed 3 .int rm_X5_billed 0 0 [.ref (n0 + 0), .int a1, .int a2] σ Q := by
  refine z_ofi (by decide +kernel) (Nat.le_of_ble_eq_true rfl) (fun p e s m args below meth c hX hY => ?_)
  unfold w_X5_billed at hf
  refine zt_L (L' := [(0, .ref (n0 + 0)), (1, .int a1), (2, .int a2)]) rfl ?_
  refine zt_aload_n hX 0 dX5_billed_0 rfl rfl ?_
  refine zt_get_X5 hX (by decide) (zE_0 _ _) 0 (by decide) kw_234 rfl rfl dX5_billed_1 ?_
  refine zt_iload_n hX 1 dX5_billed_4 rfl rfl ?_
  refine zt_calliV hX hY (av := [.int a1]) (c_X4_has hf) dX5_billed_5 rfl kw_254 kw_255 kw_256 kw_62 kw_257 ⟨rfl, rfl⟩ hy_X4_has ⟨by decide, by decide⟩ ⟨by decide, by decide⟩ (Nat.le_of_ble_eq_true rfl) (by decide) (zE_1 _ _) rfl rfl (fun r1 σ2 hf => ?_)
  refine zt_if_eq hX dX5_billed_8 (tgt := 18) (by decide) (fun c3 => ?_) (fun c3 => ?_)
  · replace hf := z_pos hf c3
    refine zt_ldc hX dX5_billed_18 kw_258 ?_
    exact zt_iret hX hY dX5_billed_20 hf
  · replace hf := z_neg hf c3
    refine zt_iload_n hX 2 dX5_billed_11 rfl rfl ?_
    refine zt_calliS hX hY (av := [.int a2]) (c_X5_isInterval hf) dX5_billed_12 rfl kw_359 kw_360 kw_61 kw_361 ⟨rfl, rfl⟩ hy_X5_isInterval ⟨by decide, by decide⟩ ⟨by decide, by decide⟩ (Nat.le_of_ble_eq_true rfl) (fun r4 σ5 hf => ?_)
    refine zt_if_ne hX dX5_billed_15 (tgt := 21) (by decide) (fun c6 => ?_) (fun c6 => ?_)
    · replace hf := z_neg hf c6
      refine zt_aload_n hX 0 dX5_billed_21 rfl rfl ?_
      refine zt_get_X5 hX (by decide) (zE_0 _ _) 3 (by decide) kw_237 rfl rfl dX5_billed_22 ?_
      refine zt_aload_n hX 0 dX5_billed_25 rfl rfl ?_
      refine zt_get_X5 hX (by decide) (zE_0 _ _) 0 (by decide) kw_234 rfl rfl dX5_billed_26 ?_
      refine zt_aload_n hX 0 dX5_billed_29 rfl rfl ?_
      refine zt_get_X5 hX (by decide) (zE_0 _ _) 2 (by decide) kw_236 rfl rfl dX5_billed_30 ?_
      refine zt_callvV hX hY (av := [.ref (n0 + 1), .ref (n0 + 29)]) (c_X0_fill hf) dX5_billed_33 rfl kw_434 kw_435 kw_436 kw_65 kw_437 ⟨rfl, rfl⟩ hy_X0_fill ⟨by decide, by decide⟩ ⟨by decide, by decide⟩ (Nat.le_of_ble_eq_true rfl) (by decide) (zE_53 _ _) rfl rfl (fun σ8 hf => ?_)
      refine zt_aload_n hX 0 dX5_billed_36 rfl rfl ?_
      refine zt_get_X5 hX (by decide) (zE_0 _ _) 3 (by decide) kw_237 rfl rfl dX5_billed_37 ?_
      refine zt_get_X0 hX (by decide) (zE_53 _ _) 0 (by decide) kw_187 rfl rfl dX5_billed_40 ?_
      refine zt_iload_n hX 1 dX5_billed_43 rfl rfl ?_
      obtain ⟨h9, hf⟩ := hf
      refine zt_aaloadM hX dX5_billed_44 (by decide) rfl (k1 := 55) rfl h9 ?_
      refine zt_iload_n hX 2 dX5_billed_45 rfl rfl ?_
      obtain ⟨h10, hf⟩ := hf
      refine zt_iaload hX dX5_billed_46 (z_row55 (z_lt h9)) (z_sh55 (z_lt h9)) h10 ?_
      exact zt_iret hX hY dX5_billed_47 hf
    · replace hf := z_pos hf c6
      refine zt_ldc hX dX5_billed_18 kw_258 ?_
      exact zt_iret hX hY dX5_billed_20 hf

theorem dX5_part_0 : decode cX5_part 0 = .ok (.aload_n 0, 1) := by decide +kernel
theorem dX5_part_1 : decode cX5_part 1 = .ok (.getfield 10, 3) := by decide +kernel
theorem dX5_part_4 : decode cX5_part 4 = .ok (.iload_n 1, 1) := by decide +kernel
theorem dX5_part_5 : decode cX5_part 5 = .ok (.invokevirtual 48, 3) := by decide +kernel
theorem dX5_part_8 : decode cX5_part 8 = .ok (.ifCond .eq 10, 3) := by decide +kernel
theorem dX5_part_11 : decode cX5_part 11 = .ok (.iload_n 2, 1) := by decide +kernel
theorem dX5_part_12 : decode cX5_part 12 = .ok (.invokestatic 115, 3) := by decide +kernel
theorem dX5_part_15 : decode cX5_part 15 = .ok (.ifCond .ne 6, 3) := by decide +kernel
theorem dX5_part_18 : decode cX5_part 18 = .ok (.ldc 52, 2) := by decide +kernel
theorem dX5_part_20 : decode cX5_part 20 = .ok (.ireturn, 1) := by decide +kernel
theorem dX5_part_21 : decode cX5_part 21 = .ok (.aload_n 0, 1) := by decide +kernel
theorem dX5_part_22 : decode cX5_part 22 = .ok (.getfield 33, 3) := by decide +kernel
theorem dX5_part_25 : decode cX5_part 25 = .ok (.aload_n 0, 1) := by decide +kernel
theorem dX5_part_26 : decode cX5_part 26 = .ok (.getfield 10, 3) := by decide +kernel
theorem dX5_part_29 : decode cX5_part 29 = .ok (.aload_n 0, 1) := by decide +kernel
theorem dX5_part_30 : decode cX5_part 30 = .ok (.getfield 26, 3) := by decide +kernel
theorem dX5_part_33 : decode cX5_part 33 = .ok (.invokevirtual 142, 3) := by decide +kernel
theorem dX5_part_36 : decode cX5_part 36 = .ok (.aload_n 0, 1) := by decide +kernel
theorem dX5_part_37 : decode cX5_part 37 = .ok (.getfield 33, 3) := by decide +kernel
theorem dX5_part_40 : decode cX5_part 40 = .ok (.getfield 146, 3) := by decide +kernel
theorem dX5_part_43 : decode cX5_part 43 = .ok (.iload_n 1, 1) := by decide +kernel
theorem dX5_part_44 : decode cX5_part 44 = .ok (.aaload, 1) := by decide +kernel
theorem dX5_part_45 : decode cX5_part 45 = .ok (.iload_n 2, 1) := by decide +kernel
theorem dX5_part_46 : decode cX5_part 46 = .ok (.iaload, 1) := by decide +kernel
theorem dX5_part_47 : decode cX5_part 47 = .ok (.aload_n 0, 1) := by decide +kernel
theorem dX5_part_48 : decode cX5_part 48 = .ok (.getfield 26, 3) := by decide +kernel
theorem dX5_part_51 : decode cX5_part 51 = .ok (.getfield 129, 3) := by decide +kernel
theorem dX5_part_54 : decode cX5_part 54 = .ok (.iload_n 1, 1) := by decide +kernel
theorem dX5_part_55 : decode cX5_part 55 = .ok (.aaload, 1) := by decide +kernel
theorem dX5_part_56 : decode cX5_part 56 = .ok (.iload_n 2, 1) := by decide +kernel
theorem dX5_part_57 : decode cX5_part 57 = .ok (.iaload, 1) := by decide +kernel
theorem dX5_part_58 : decode cX5_part 58 = .ok (.isub, 1) := by decide +kernel
theorem dX5_part_59 : decode cX5_part 59 = .ok (.ireturn, 1) := by decide +kernel
abbrev rm_X5_part : Room := { frames := 5, cells := 0, slots := 0, locals := 120 }
theorem hy_X5_part : yX5_part.cls ≠ "java/lang/invoke/MethodHandle" ∧ yX5_part.cls ≠ "java/lang/invoke/VarHandle" ∧ (parseMethodDescriptor yX5_part.desc).map (fun d => d.parameters.length) = some 2 := by decide +kernel
def w_X5_part (a1 : Int32) (a2 : Int32) (σ : z_S) (Q : Int32 → z_S → Prop) : Prop :=
  w_X4_has a1 σ (fun r1 σ2 => if r1 = 0 then (Q (-2000000001 : Int32) σ2) else (w_X5_isInterval a2 σ2 (fun r4 σ5 => if r4 = 0 then (Q (-2000000001 : Int32) σ5) else (w_X0_fill σ5 (fun σ8 => vp_in a1 10 ∧ vp_in a2 12 ∧ vp_in a1 10 ∧ vp_in a2 12 ∧ Q ((zg_i σ8 (55 + a1.toNatClampNeg) a2.toNatClampNeg) - (zg_i σ8 (31 + a1.toNatClampNeg) a2.toNatClampNeg)) σ8)))))
set_option maxHeartbeats 4000000 in
set_option maxRecDepth 100000 in
theorem c_X5_part {l : Launch} {D : va_G} {cI cJ cM cS : ClassId} {n0 : Nat} {a1 : Int32} {a2 : Int32} {σ : z_S} {Q : Int32 → z_S → Prop} (hf : w_X5_part a1 a2 σ Q) : z_ci l D cI cJ cM cS n0 yX5_part cX5_part 3 .int rm_X5_part 0 0 [.ref (n0 + 0), .int a1, .int a2] σ Q := by
  refine z_ofi (by decide +kernel) (Nat.le_of_ble_eq_true rfl) (fun p e s m args below meth c hX hY => ?_)
  unfold w_X5_part at hf
  refine zt_L (L' := [(0, .ref (n0 + 0)), (1, .int a1), (2, .int a2)]) rfl ?_
  refine zt_aload_n hX 0 dX5_part_0 rfl rfl ?_
  refine zt_get_X5 hX (by decide) (zE_0 _ _) 0 (by decide) kw_234 rfl rfl dX5_part_1 ?_
  refine zt_iload_n hX 1 dX5_part_4 rfl rfl ?_
  refine zt_calliV hX hY (av := [.int a1]) (c_X4_has hf) dX5_part_5 rfl kw_254 kw_255 kw_256 kw_62 kw_257 ⟨rfl, rfl⟩ hy_X4_has ⟨by decide, by decide⟩ ⟨by decide, by decide⟩ (Nat.le_of_ble_eq_true rfl) (by decide) (zE_1 _ _) rfl rfl (fun r1 σ2 hf => ?_)
  refine zt_if_eq hX dX5_part_8 (tgt := 18) (by decide) (fun c3 => ?_) (fun c3 => ?_)
  · replace hf := z_pos hf c3
    refine zt_ldc hX dX5_part_18 kw_258 ?_
    exact zt_iret hX hY dX5_part_20 hf
  · replace hf := z_neg hf c3
    refine zt_iload_n hX 2 dX5_part_11 rfl rfl ?_
    refine zt_calliS hX hY (av := [.int a2]) (c_X5_isInterval hf) dX5_part_12 rfl kw_359 kw_360 kw_61 kw_361 ⟨rfl, rfl⟩ hy_X5_isInterval ⟨by decide, by decide⟩ ⟨by decide, by decide⟩ (Nat.le_of_ble_eq_true rfl) (fun r4 σ5 hf => ?_)
    refine zt_if_ne hX dX5_part_15 (tgt := 21) (by decide) (fun c6 => ?_) (fun c6 => ?_)
    · replace hf := z_neg hf c6
      refine zt_aload_n hX 0 dX5_part_21 rfl rfl ?_
      refine zt_get_X5 hX (by decide) (zE_0 _ _) 3 (by decide) kw_237 rfl rfl dX5_part_22 ?_
      refine zt_aload_n hX 0 dX5_part_25 rfl rfl ?_
      refine zt_get_X5 hX (by decide) (zE_0 _ _) 0 (by decide) kw_234 rfl rfl dX5_part_26 ?_
      refine zt_aload_n hX 0 dX5_part_29 rfl rfl ?_
      refine zt_get_X5 hX (by decide) (zE_0 _ _) 2 (by decide) kw_236 rfl rfl dX5_part_30 ?_
      refine zt_callvV hX hY (av := [.ref (n0 + 1), .ref (n0 + 29)]) (c_X0_fill hf) dX5_part_33 rfl kw_434 kw_435 kw_436 kw_65 kw_437 ⟨rfl, rfl⟩ hy_X0_fill ⟨by decide, by decide⟩ ⟨by decide, by decide⟩ (Nat.le_of_ble_eq_true rfl) (by decide) (zE_53 _ _) rfl rfl (fun σ8 hf => ?_)
      refine zt_aload_n hX 0 dX5_part_36 rfl rfl ?_
      refine zt_get_X5 hX (by decide) (zE_0 _ _) 3 (by decide) kw_237 rfl rfl dX5_part_37 ?_
      refine zt_get_X0 hX (by decide) (zE_53 _ _) 0 (by decide) kw_187 rfl rfl dX5_part_40 ?_
      refine zt_iload_n hX 1 dX5_part_43 rfl rfl ?_
      obtain ⟨h9, hf⟩ := hf
      refine zt_aaloadM hX dX5_part_44 (by decide) rfl (k1 := 55) rfl h9 ?_
      refine zt_iload_n hX 2 dX5_part_45 rfl rfl ?_
      obtain ⟨h10, hf⟩ := hf
      refine zt_iaload hX dX5_part_46 (z_row55 (z_lt h9)) (z_sh55 (z_lt h9)) h10 ?_
      refine zt_aload_n hX 0 dX5_part_47 rfl rfl ?_
      refine zt_get_X5 hX (by decide) (zE_0 _ _) 2 (by decide) kw_236 rfl rfl dX5_part_48 ?_
      refine zt_get_X1 hX (by decide) (zE_29 _ _) 0 (by decide) kw_168 rfl rfl dX5_part_51 ?_
      refine zt_iload_n hX 1 dX5_part_54 rfl rfl ?_
      obtain ⟨h11, hf⟩ := hf
      refine zt_aaloadM hX dX5_part_55 (by decide) rfl (k1 := 31) rfl h11 ?_
      refine zt_iload_n hX 2 dX5_part_56 rfl rfl ?_
      obtain ⟨h12, hf⟩ := hf
      refine zt_iaload hX dX5_part_57 (z_row31 (z_lt h11)) (z_sh31 (z_lt h11)) h12 ?_
      refine zt_isub hX dX5_part_58 ?_
      exact zt_iret hX hY dX5_part_59 hf
    · replace hf := z_pos hf c6
      refine zt_ldc hX dX5_part_18 kw_258 ?_
      exact zt_iret hX hY dX5_part_20 hf

theorem dX5_bitsOf_0 : decode cX5_bitsOf 0 = .ok (.fload_n 0, 1) := by decide +kernel
theorem dX5_bitsOf_1 : decode cX5_bitsOf 1 = .ok (.fconst 0, 1) := by decide +kernel
theorem dX5_bitsOf_2 : decode cX5_bitsOf 2 = .ok (.fcmp .l, 1) := by decide +kernel
theorem dX5_bitsOf_3 : decode cX5_bitsOf 3 = .ok (.ifCond .ne 5, 3) := by decide +kernel
theorem dX5_bitsOf_6 : decode cX5_bitsOf 6 = .ok (.iconst 0, 1) := by decide +kernel
theorem dX5_bitsOf_7 : decode cX5_bitsOf 7 = .ok (.ireturn, 1) := by decide +kernel
theorem dX5_bitsOf_8 : decode cX5_bitsOf 8 = .ok (.fload_n 0, 1) := by decide +kernel
theorem dX5_bitsOf_9 : decode cX5_bitsOf 9 = .ok (.fconst 0, 1) := by decide +kernel
theorem dX5_bitsOf_10 : decode cX5_bitsOf 10 = .ok (.fcmp .g, 1) := by decide +kernel
theorem dX5_bitsOf_11 : decode cX5_bitsOf 11 = .ok (.ifCond .ge 8, 3) := by decide +kernel
theorem dX5_bitsOf_14 : decode cX5_bitsOf 14 = .ok (.fload_n 0, 1) := by decide +kernel
theorem dX5_bitsOf_15 : decode cX5_bitsOf 15 = .ok (.fneg, 1) := by decide +kernel
theorem dX5_bitsOf_16 : decode cX5_bitsOf 16 = .ok (.goto 4, 3) := by decide +kernel
theorem dX5_bitsOf_19 : decode cX5_bitsOf 19 = .ok (.fload_n 0, 1) := by decide +kernel
theorem dX5_bitsOf_20 : decode cX5_bitsOf 20 = .ok (.fstore_n 1, 1) := by decide +kernel
theorem dX5_bitsOf_21 : decode cX5_bitsOf 21 = .ok (.bipush 127, 2) := by decide +kernel
theorem dX5_bitsOf_23 : decode cX5_bitsOf 23 = .ok (.istore_n 2, 1) := by decide +kernel
theorem dX5_bitsOf_24 : decode cX5_bitsOf 24 = .ok (.iconst 0, 1) := by decide +kernel
theorem dX5_bitsOf_25 : decode cX5_bitsOf 25 = .ok (.istore_n 3, 1) := by decide +kernel
theorem dX5_bitsOf_26 : decode cX5_bitsOf 26 = .ok (.iload_n 3, 1) := by decide +kernel
theorem dX5_bitsOf_27 : decode cX5_bitsOf 27 = .ok (.bipush 126, 2) := by decide +kernel
theorem dX5_bitsOf_29 : decode cX5_bitsOf 29 = .ok (.if_icmp .ge 23, 3) := by decide +kernel
theorem dX5_bitsOf_32 : decode cX5_bitsOf 32 = .ok (.fload_n 1, 1) := by decide +kernel
theorem dX5_bitsOf_33 : decode cX5_bitsOf 33 = .ok (.fconst 2, 1) := by decide +kernel
theorem dX5_bitsOf_34 : decode cX5_bitsOf 34 = .ok (.fcmp .l, 1) := by decide +kernel
theorem dX5_bitsOf_35 : decode cX5_bitsOf 35 = .ok (.ifCond .lt 17, 3) := by decide +kernel
theorem dX5_bitsOf_38 : decode cX5_bitsOf 38 = .ok (.fload_n 1, 1) := by decide +kernel
theorem dX5_bitsOf_39 : decode cX5_bitsOf 39 = .ok (.ldc 222, 2) := by decide +kernel
theorem dX5_bitsOf_41 : decode cX5_bitsOf 41 = .ok (.fmul, 1) := by decide +kernel
theorem dX5_bitsOf_42 : decode cX5_bitsOf 42 = .ok (.fstore_n 1, 1) := by decide +kernel
theorem dX5_bitsOf_43 : decode cX5_bitsOf 43 = .ok (.iinc 2 1, 3) := by decide +kernel
theorem dX5_bitsOf_46 : decode cX5_bitsOf 46 = .ok (.iinc 3 1, 3) := by decide +kernel
theorem dX5_bitsOf_49 : decode cX5_bitsOf 49 = .ok (.goto (-23), 3) := by decide +kernel
theorem dX5_bitsOf_52 : decode cX5_bitsOf 52 = .ok (.iconst 0, 1) := by decide +kernel
theorem dX5_bitsOf_53 : decode cX5_bitsOf 53 = .ok (.istore_n 3, 1) := by decide +kernel
theorem dX5_bitsOf_54 : decode cX5_bitsOf 54 = .ok (.iload_n 3, 1) := by decide +kernel
theorem dX5_bitsOf_55 : decode cX5_bitsOf 55 = .ok (.bipush 126, 2) := by decide +kernel
theorem dX5_bitsOf_57 : decode cX5_bitsOf 57 = .ok (.if_icmp .ge 22, 3) := by decide +kernel
theorem dX5_bitsOf_60 : decode cX5_bitsOf 60 = .ok (.fload_n 1, 1) := by decide +kernel
theorem dX5_bitsOf_61 : decode cX5_bitsOf 61 = .ok (.fconst 1, 1) := by decide +kernel
theorem dX5_bitsOf_62 : decode cX5_bitsOf 62 = .ok (.fcmp .g, 1) := by decide +kernel
theorem dX5_bitsOf_63 : decode cX5_bitsOf 63 = .ok (.ifCond .ge 16, 3) := by decide +kernel
theorem dX5_bitsOf_66 : decode cX5_bitsOf 66 = .ok (.fload_n 1, 1) := by decide +kernel
theorem dX5_bitsOf_67 : decode cX5_bitsOf 67 = .ok (.fconst 2, 1) := by decide +kernel
theorem dX5_bitsOf_68 : decode cX5_bitsOf 68 = .ok (.fmul, 1) := by decide +kernel
theorem dX5_bitsOf_69 : decode cX5_bitsOf 69 = .ok (.fstore_n 1, 1) := by decide +kernel
theorem dX5_bitsOf_70 : decode cX5_bitsOf 70 = .ok (.iinc 2 (-1), 3) := by decide +kernel
theorem dX5_bitsOf_73 : decode cX5_bitsOf 73 = .ok (.iinc 3 1, 3) := by decide +kernel
theorem dX5_bitsOf_76 : decode cX5_bitsOf 76 = .ok (.goto (-22), 3) := by decide +kernel
theorem dX5_bitsOf_79 : decode cX5_bitsOf 79 = .ok (.iload_n 2, 1) := by decide +kernel
theorem dX5_bitsOf_80 : decode cX5_bitsOf 80 = .ok (.bipush 23, 2) := by decide +kernel
theorem dX5_bitsOf_82 : decode cX5_bitsOf 82 = .ok (.ishl, 1) := by decide +kernel
theorem dX5_bitsOf_83 : decode cX5_bitsOf 83 = .ok (.fload_n 1, 1) := by decide +kernel
theorem dX5_bitsOf_84 : decode cX5_bitsOf 84 = .ok (.fconst 1, 1) := by decide +kernel
theorem dX5_bitsOf_85 : decode cX5_bitsOf 85 = .ok (.fsub, 1) := by decide +kernel
theorem dX5_bitsOf_86 : decode cX5_bitsOf 86 = .ok (.ldc 223, 2) := by decide +kernel
theorem dX5_bitsOf_88 : decode cX5_bitsOf 88 = .ok (.fmul, 1) := by decide +kernel
theorem dX5_bitsOf_89 : decode cX5_bitsOf 89 = .ok (.f2i, 1) := by decide +kernel
theorem dX5_bitsOf_90 : decode cX5_bitsOf 90 = .ok (.iadd, 1) := by decide +kernel
theorem dX5_bitsOf_91 : decode cX5_bitsOf 91 = .ok (.istore_n 3, 1) := by decide +kernel
theorem dX5_bitsOf_92 : decode cX5_bitsOf 92 = .ok (.fload_n 0, 1) := by decide +kernel
theorem dX5_bitsOf_93 : decode cX5_bitsOf 93 = .ok (.fconst 0, 1) := by decide +kernel
theorem dX5_bitsOf_94 : decode cX5_bitsOf 94 = .ok (.fcmp .g, 1) := by decide +kernel
theorem dX5_bitsOf_95 : decode cX5_bitsOf 95 = .ok (.ifCond .ge 10, 3) := by decide +kernel
theorem dX5_bitsOf_98 : decode cX5_bitsOf 98 = .ok (.iload_n 3, 1) := by decide +kernel
theorem dX5_bitsOf_99 : decode cX5_bitsOf 99 = .ok (.ldc 224, 2) := by decide +kernel
theorem dX5_bitsOf_101 : decode cX5_bitsOf 101 = .ok (.ior, 1) := by decide +kernel
theorem dX5_bitsOf_102 : decode cX5_bitsOf 102 = .ok (.goto 4, 3) := by decide +kernel
theorem dX5_bitsOf_105 : decode cX5_bitsOf 105 = .ok (.iload_n 3, 1) := by decide +kernel
theorem dX5_bitsOf_106 : decode cX5_bitsOf 106 = .ok (.ireturn, 1) := by decide +kernel
abbrev rm_X5_bitsOf : Room := { frames := 0, cells := 0, slots := 0, locals := 0 }
theorem hy_X5_bitsOf : yX5_bitsOf.cls ≠ "java/lang/invoke/MethodHandle" ∧ yX5_bitsOf.cls ≠ "java/lang/invoke/VarHandle" ∧ (parseMethodDescriptor yX5_bitsOf.desc).map (fun d => d.parameters.length) = some 1 := by decide +kernel
def w_X5_bitsOf_79  (Q : Int32 → z_S → Prop) (x0 : UInt32) (x1 : UInt32) (x2 : Int32) (σ : z_S) : Prop :=
  vf_n32 (FP.fsub x1 FP.fconst1) ∧ vf_n32 (FP.fmul (FP.fsub x1 FP.fconst1) (1258291200 : UInt32)) ∧ ∀ y7 : Int32, y7 = ((x2 <<< ((23 : Int32) &&& 31)) + (FP.f2i (FP.fmul (FP.fsub x1 FP.fconst1) (1258291200 : UInt32)))) → if 0 ≤ (Op.cmpValue (FP.fcmp x0 FP.fconst0) .g) then (Q y7 σ) else (Q (y7 ||| (-2147483648 : Int32)) σ)
def wb_X5_bitsOf_54  (Q : Int32 → z_S → Prop) (k54 : UInt32 → UInt32 → Int32 → Int32 → z_S → Prop) (x0 : UInt32) (x1 : UInt32) (x2 : Int32) (x3 : Int32) (σ : z_S) : Prop :=
  if (126 : Int32) ≤ x3 then (w_X5_bitsOf_79 Q x0 x1 x2 σ) else (if 0 ≤ (Op.cmpValue (FP.fcmp x1 FP.fconst1) .g) then (w_X5_bitsOf_79 Q x0 x1 x2 σ) else (vf_n32 (FP.fmul x1 FP.fconst2) ∧ ∀ y11 : UInt32, y11 = (FP.fmul x1 FP.fconst2) → ∀ y12 : Int32, y12 = (x2 + (-1 : Int32)) → ∀ y13 : Int32, y13 = (x3 + (1 : Int32)) → k54 x0 y11 y12 y13 σ))
def w_X5_bitsOf_54  (Q : Int32 → z_S → Prop) : Nat → UInt32 → UInt32 → Int32 → Int32 → z_S → Prop
  | 0 => fun _ _ _ _ _ => False
  | n + 1 => wb_X5_bitsOf_54  Q (w_X5_bitsOf_54  Q n)
def w_X5_bitsOf_52  (Q : Int32 → z_S → Prop) (x0 : UInt32) (x1 : UInt32) (x2 : Int32) (σ : z_S) : Prop :=
  w_X5_bitsOf_54 Q 400 x0 x1 x2 (0 : Int32) σ
def wb_X5_bitsOf_26  (Q : Int32 → z_S → Prop) (k26 : UInt32 → UInt32 → Int32 → Int32 → z_S → Prop) (x0 : UInt32) (x1 : UInt32) (x2 : Int32) (x3 : Int32) (σ : z_S) : Prop :=
  if (126 : Int32) ≤ x3 then (w_X5_bitsOf_52 Q x0 x1 x2 σ) else (if (Op.cmpValue (FP.fcmp x1 FP.fconst2) .l) < 0 then (w_X5_bitsOf_52 Q x0 x1 x2 σ) else (vf_n32 (FP.fmul x1 (1056964608 : UInt32)) ∧ ∀ y16 : UInt32, y16 = (FP.fmul x1 (1056964608 : UInt32)) → ∀ y17 : Int32, y17 = (x2 + (1 : Int32)) → ∀ y18 : Int32, y18 = (x3 + (1 : Int32)) → k26 x0 y16 y17 y18 σ))
def w_X5_bitsOf_26  (Q : Int32 → z_S → Prop) : Nat → UInt32 → UInt32 → Int32 → Int32 → z_S → Prop
  | 0 => fun _ _ _ _ _ => False
  | n + 1 => wb_X5_bitsOf_26  Q (w_X5_bitsOf_26  Q n)
def w_X5_bitsOf_20  (Q : Int32 → z_S → Prop) (x0 : UInt32) (s0 : UInt32) (σ : z_S) : Prop :=
  w_X5_bitsOf_26 Q 400 x0 s0 (127 : Int32) (0 : Int32) σ
def w_X5_bitsOf (a0 : UInt32) (σ : z_S) (Q : Int32 → z_S → Prop) : Prop :=
  if (Op.cmpValue (FP.fcmp a0 FP.fconst0) .l) = 0 then (Q (0 : Int32) σ) else (if 0 ≤ (Op.cmpValue (FP.fcmp a0 FP.fconst0) .g) then (w_X5_bitsOf_20 Q a0 a0 σ) else (w_X5_bitsOf_20 Q a0 (FP.fneg a0) σ))
set_option maxHeartbeats 4000000 in
set_option maxRecDepth 100000 in
theorem t_X5_bitsOf_79 {l : Launch} {D : va_G} {cI cJ cM cS : ClassId} {n0 : Nat} {p : Program} {e : Env} {s : State} {m : MethodId} {args : Array Value} {below : List Frame} {meth : Method} {c : Code}  {Q : Int32 → z_S → Prop} (hX : z_X D cI cJ cM cS p s m args c cX5_bitsOf 4 yX5_bitsOf.cls) (hY : z_Y s meth (some .int))  (x0 : UInt32) (x1 : UInt32) (x2 : Int32) (σ : z_S) (hf : w_X5_bitsOf_79  Q x0 x1 x2 σ) : z_t D cI cJ cM cS n0 p l e rm_X5_bitsOf s m args below meth c 4 (MQ below (va_Qi Q (fun u t => z_Bq D cI cJ cM cS n0 u t) (z_Ab n0)) args s 0 0 (z_Ab n0)) 0 0 79 [(0, .float x0), (1, .float x1), (2, .int x2)] [] σ := by
  unfold w_X5_bitsOf_79 at hf
  refine zt_iload_n hX 2 dX5_bitsOf_79 rfl rfl ?_
  refine zt_bipush hX dX5_bitsOf_80 (v := (23 : Int32)) (by decide) ?_
  refine zt_ishl hX dX5_bitsOf_82 ?_
  refine zt_fload_n hX 1 dX5_bitsOf_83 rfl rfl ?_
  refine zt_fconst1 hX dX5_bitsOf_84 ?_
  obtain ⟨h5, hf⟩ := hf
  refine zt_fsub hX dX5_bitsOf_85 h5 ?_
  refine zt_ldcf hX dX5_bitsOf_86 kw_508 ?_
  obtain ⟨h6, hf⟩ := hf
  refine zt_fmul hX dX5_bitsOf_88 h6 ?_
  refine zt_f2i hX dX5_bitsOf_89 ?_
  refine zt_iadd hX dX5_bitsOf_90 ?_
  refine zt_nmi (fun y7 e7 => ?_)
  replace hf := hf y7 e7
  refine zt_istore_n (L' := [(3, .int y7), (0, .float x0), (1, .float x1), (2, .int x2)]) hX dX5_bitsOf_91 rfl (by decide) rfl ?_
  refine zt_fload_n hX 1 dX5_bitsOf_92 rfl rfl ?_
  refine zt_fconst0 hX dX5_bitsOf_93 ?_
  refine zt_fcmp hX dX5_bitsOf_94 ?_
  refine zt_if_ge hX dX5_bitsOf_95 (tgt := 105) (by decide) (fun c8 => ?_) (fun c8 => ?_)
  · replace hf := z_pos hf c8
    refine zt_iload_n hX 0 dX5_bitsOf_105 rfl rfl ?_
    exact zt_iret hX hY dX5_bitsOf_106 hf
  · replace hf := z_neg hf c8
    refine zt_iload_n hX 0 dX5_bitsOf_98 rfl rfl ?_
    refine zt_ldc hX dX5_bitsOf_99 kw_509 ?_
    refine zt_ior hX dX5_bitsOf_101 ?_
    refine zt_goto hX dX5_bitsOf_102 (tgt := 106) (by decide) ?_
    exact zt_iret hX hY dX5_bitsOf_106 hf
set_option maxHeartbeats 4000000 in
set_option maxRecDepth 100000 in
theorem t_X5_bitsOf_54 {l : Launch} {D : va_G} {cI cJ cM cS : ClassId} {n0 : Nat} {p : Program} {e : Env} {s : State} {m : MethodId} {args : Array Value} {below : List Frame} {meth : Method} {c : Code}  {Q : Int32 → z_S → Prop} (hX : z_X D cI cJ cM cS p s m args c cX5_bitsOf 4 yX5_bitsOf.cls) (hY : z_Y s meth (some .int))  : ∀ (n : Nat) (x0 : UInt32) (x1 : UInt32) (x2 : Int32) (x3 : Int32) (σ : z_S), w_X5_bitsOf_54  Q n x0 x1 x2 x3 σ → z_t D cI cJ cM cS n0 p l e rm_X5_bitsOf s m args below meth c 4 (MQ below (va_Qi Q (fun u t => z_Bq D cI cJ cM cS n0 u t) (z_Ab n0)) args s 0 0 (z_Ab n0)) 0 0 54 [(0, .float x0), (1, .float x1), (2, .int x2), (3, .int x3)] [] σ := by
  intro n
  induction n with
  | zero => intro _ _ _ _ _ hf; exact hf.elim
  | succ n ih54 =>
    intro x0 x1 x2 x3 σ hf
    have hf : wb_X5_bitsOf_54  Q (w_X5_bitsOf_54  Q n) x0 x1 x2 x3 σ := hf
    unfold wb_X5_bitsOf_54 at hf
    refine zt_iload_n hX 3 dX5_bitsOf_54 rfl rfl ?_
    refine zt_bipush hX dX5_bitsOf_55 (v := (126 : Int32)) (by decide) ?_
    refine zt_icmp_ge hX dX5_bitsOf_57 (tgt := 79) (by decide) (fun c4 => ?_) (fun c4 => ?_)
    · replace hf := z_pos hf c4
      exact zt_sub [0, 1, 2] rfl (t_X5_bitsOf_79 hX hY _ _ _ _ hf)
    · replace hf := z_neg hf c4
      refine zt_fload_n hX 1 dX5_bitsOf_60 rfl rfl ?_
      refine zt_fconst1 hX dX5_bitsOf_61 ?_
      refine zt_fcmp hX dX5_bitsOf_62 ?_
      refine zt_if_ge hX dX5_bitsOf_63 (tgt := 79) (by decide) (fun c9 => ?_) (fun c9 => ?_)
      · replace hf := z_pos hf c9
        exact zt_sub [0, 1, 2] rfl (t_X5_bitsOf_79 hX hY _ _ _ _ hf)
      · replace hf := z_neg hf c9
        refine zt_fload_n hX 1 dX5_bitsOf_66 rfl rfl ?_
        refine zt_fconst2 hX dX5_bitsOf_67 ?_
        obtain ⟨h10, hf⟩ := hf
        refine zt_fmul hX dX5_bitsOf_68 h10 ?_
        refine zt_nmf (fun y11 e11 => ?_)
        replace hf := hf y11 e11
        refine zt_fstore_n (L' := [(1, .float y11), (0, .float x0), (2, .int x2), (3, .int x3)]) hX dX5_bitsOf_69 rfl (by decide) rfl ?_
        obtain ⟨y12, e12⟩ : ∃ y : Int32, y = (x2 + (-1 : Int32)) := ⟨_, rfl⟩
        replace hf := hf y12 e12
        refine zt_iinc (L' := [(2, .int y12), (1, .float y11), (0, .float x0), (3, .int x3)]) hX 2 dX5_bitsOf_70 rfl (v := y12) (by rw [e12]; rfl) (by decide) rfl ?_
        obtain ⟨y13, e13⟩ : ∃ y : Int32, y = (x3 + (1 : Int32)) := ⟨_, rfl⟩
        replace hf := hf y13 e13
        refine zt_iinc (L' := [(3, .int y13), (2, .int y12), (1, .float y11), (0, .float x0)]) hX 3 dX5_bitsOf_73 rfl (v := y13) (by rw [e13]; rfl) (by decide) rfl ?_
        refine zt_goto hX dX5_bitsOf_76 (tgt := 54) (by decide) ?_
        exact zt_sub [3, 2, 1, 0] rfl (ih54 _ _ _ _ _ hf)
set_option maxHeartbeats 4000000 in
set_option maxRecDepth 100000 in
theorem t_X5_bitsOf_52 {l : Launch} {D : va_G} {cI cJ cM cS : ClassId} {n0 : Nat} {p : Program} {e : Env} {s : State} {m : MethodId} {args : Array Value} {below : List Frame} {meth : Method} {c : Code}  {Q : Int32 → z_S → Prop} (hX : z_X D cI cJ cM cS p s m args c cX5_bitsOf 4 yX5_bitsOf.cls) (hY : z_Y s meth (some .int))  (x0 : UInt32) (x1 : UInt32) (x2 : Int32) (σ : z_S) (hf : w_X5_bitsOf_52  Q x0 x1 x2 σ) : z_t D cI cJ cM cS n0 p l e rm_X5_bitsOf s m args below meth c 4 (MQ below (va_Qi Q (fun u t => z_Bq D cI cJ cM cS n0 u t) (z_Ab n0)) args s 0 0 (z_Ab n0)) 0 0 52 [(0, .float x0), (1, .float x1), (2, .int x2)] [] σ := by
  unfold w_X5_bitsOf_52 at hf
  refine zt_iconst hX dX5_bitsOf_52 (v := (0 : Int32)) (by decide) ?_
  refine zt_istore_n (L' := [(3, .int (0 : Int32)), (0, .float x0), (1, .float x1), (2, .int x2)]) hX dX5_bitsOf_53 rfl (by decide) rfl ?_
  exact zt_sub [1, 2, 3, 0] rfl (t_X5_bitsOf_54 hX hY 400 _ _ _ _ _ hf)
set_option maxHeartbeats 4000000 in
set_option maxRecDepth 100000 in
theorem t_X5_bitsOf_26 {l : Launch} {D : va_G} {cI cJ cM cS : ClassId} {n0 : Nat} {p : Program} {e : Env} {s : State} {m : MethodId} {args : Array Value} {below : List Frame} {meth : Method} {c : Code}  {Q : Int32 → z_S → Prop} (hX : z_X D cI cJ cM cS p s m args c cX5_bitsOf 4 yX5_bitsOf.cls) (hY : z_Y s meth (some .int))  : ∀ (n : Nat) (x0 : UInt32) (x1 : UInt32) (x2 : Int32) (x3 : Int32) (σ : z_S), w_X5_bitsOf_26  Q n x0 x1 x2 x3 σ → z_t D cI cJ cM cS n0 p l e rm_X5_bitsOf s m args below meth c 4 (MQ below (va_Qi Q (fun u t => z_Bq D cI cJ cM cS n0 u t) (z_Ab n0)) args s 0 0 (z_Ab n0)) 0 0 26 [(0, .float x0), (1, .float x1), (2, .int x2), (3, .int x3)] [] σ := by
  intro n
  induction n with
  | zero => intro _ _ _ _ _ hf; exact hf.elim
  | succ n ih26 =>
    intro x0 x1 x2 x3 σ hf
    have hf : wb_X5_bitsOf_26  Q (w_X5_bitsOf_26  Q n) x0 x1 x2 x3 σ := hf
    unfold wb_X5_bitsOf_26 at hf
    refine zt_iload_n hX 3 dX5_bitsOf_26 rfl rfl ?_
    refine zt_bipush hX dX5_bitsOf_27 (v := (126 : Int32)) (by decide) ?_
    refine zt_icmp_ge hX dX5_bitsOf_29 (tgt := 52) (by decide) (fun c3 => ?_) (fun c3 => ?_)
    · replace hf := z_pos hf c3
      exact zt_sub [0, 1, 2] rfl (t_X5_bitsOf_52 hX hY _ _ _ _ hf)
    · replace hf := z_neg hf c3
      refine zt_fload_n hX 1 dX5_bitsOf_32 rfl rfl ?_
      refine zt_fconst2 hX dX5_bitsOf_33 ?_
      refine zt_fcmp hX dX5_bitsOf_34 ?_
      refine zt_if_lt hX dX5_bitsOf_35 (tgt := 52) (by decide) (fun c14 => ?_) (fun c14 => ?_)
      · replace hf := z_pos hf c14
        exact zt_sub [0, 1, 2] rfl (t_X5_bitsOf_52 hX hY _ _ _ _ hf)
      · replace hf := z_neg hf c14
        refine zt_fload_n hX 1 dX5_bitsOf_38 rfl rfl ?_
        refine zt_ldcf hX dX5_bitsOf_39 kw_507 ?_
        obtain ⟨h15, hf⟩ := hf
        refine zt_fmul hX dX5_bitsOf_41 h15 ?_
        refine zt_nmf (fun y16 e16 => ?_)
        replace hf := hf y16 e16
        refine zt_fstore_n (L' := [(1, .float y16), (0, .float x0), (2, .int x2), (3, .int x3)]) hX dX5_bitsOf_42 rfl (by decide) rfl ?_
        obtain ⟨y17, e17⟩ : ∃ y : Int32, y = (x2 + (1 : Int32)) := ⟨_, rfl⟩
        replace hf := hf y17 e17
        refine zt_iinc (L' := [(2, .int y17), (1, .float y16), (0, .float x0), (3, .int x3)]) hX 2 dX5_bitsOf_43 rfl (v := y17) (by rw [e17]; rfl) (by decide) rfl ?_
        obtain ⟨y18, e18⟩ : ∃ y : Int32, y = (x3 + (1 : Int32)) := ⟨_, rfl⟩
        replace hf := hf y18 e18
        refine zt_iinc (L' := [(3, .int y18), (2, .int y17), (1, .float y16), (0, .float x0)]) hX 3 dX5_bitsOf_46 rfl (v := y18) (by rw [e18]; rfl) (by decide) rfl ?_
        refine zt_goto hX dX5_bitsOf_49 (tgt := 26) (by decide) ?_
        exact zt_sub [3, 2, 1, 0] rfl (ih26 _ _ _ _ _ hf)
set_option maxHeartbeats 4000000 in
set_option maxRecDepth 100000 in
theorem t_X5_bitsOf_20 {l : Launch} {D : va_G} {cI cJ cM cS : ClassId} {n0 : Nat} {p : Program} {e : Env} {s : State} {m : MethodId} {args : Array Value} {below : List Frame} {meth : Method} {c : Code}  {Q : Int32 → z_S → Prop} (hX : z_X D cI cJ cM cS p s m args c cX5_bitsOf 4 yX5_bitsOf.cls) (hY : z_Y s meth (some .int))  (x0 : UInt32) (s0 : UInt32) (σ : z_S) (hf : w_X5_bitsOf_20  Q x0 s0 σ) : z_t D cI cJ cM cS n0 p l e rm_X5_bitsOf s m args below meth c 4 (MQ below (va_Qi Q (fun u t => z_Bq D cI cJ cM cS n0 u t) (z_Ab n0)) args s 0 0 (z_Ab n0)) 0 0 20 [(0, .float x0)] [.float s0] σ := by
  unfold w_X5_bitsOf_20 at hf
  refine zt_fstore_n (L' := [(1, .float s0), (0, .float x0)]) hX dX5_bitsOf_20 rfl (by decide) rfl ?_
  refine zt_bipush hX dX5_bitsOf_21 (v := (127 : Int32)) (by decide) ?_
  refine zt_istore_n (L' := [(2, .int (127 : Int32)), (1, .float s0), (0, .float x0)]) hX dX5_bitsOf_23 rfl (by decide) rfl ?_
  refine zt_iconst hX dX5_bitsOf_24 (v := (0 : Int32)) (by decide) ?_
  refine zt_istore_n (L' := [(3, .int (0 : Int32)), (2, .int (127 : Int32)), (1, .float s0), (0, .float x0)]) hX dX5_bitsOf_25 rfl (by decide) rfl ?_
  exact zt_sub [3, 2, 1, 0] rfl (t_X5_bitsOf_26 hX hY 400 _ _ _ _ _ hf)
set_option maxHeartbeats 4000000 in
set_option maxRecDepth 100000 in
theorem c_X5_bitsOf {l : Launch} {D : va_G} {cI cJ cM cS : ClassId} {n0 : Nat} {a0 : UInt32} {σ : z_S} {Q : Int32 → z_S → Prop} (hf : w_X5_bitsOf a0 σ Q) : z_ci l D cI cJ cM cS n0 yX5_bitsOf cX5_bitsOf 4 .int rm_X5_bitsOf 0 0 [.float a0] σ Q := by
  refine z_ofi (by decide +kernel) (Nat.le_of_ble_eq_true rfl) (fun p e s m args below meth c hX hY => ?_)
  unfold w_X5_bitsOf at hf
  refine zt_L (L' := [(0, .float a0)]) rfl ?_
  refine zt_fload_n hX 0 dX5_bitsOf_0 rfl rfl ?_
  refine zt_fconst0 hX dX5_bitsOf_1 ?_
  refine zt_fcmp hX dX5_bitsOf_2 ?_
  refine zt_if_ne hX dX5_bitsOf_3 (tgt := 8) (by decide) (fun c1 => ?_) (fun c1 => ?_)
  · replace hf := z_neg hf c1
    refine zt_fload_n hX 0 dX5_bitsOf_8 rfl rfl ?_
    refine zt_fconst0 hX dX5_bitsOf_9 ?_
    refine zt_fcmp hX dX5_bitsOf_10 ?_
    refine zt_if_ge hX dX5_bitsOf_11 (tgt := 19) (by decide) (fun c2 => ?_) (fun c2 => ?_)
    · replace hf := z_pos hf c2
      refine zt_fload_n hX 0 dX5_bitsOf_19 rfl rfl ?_
      exact zt_sub [0] rfl (t_X5_bitsOf_20 hX hY _ _ _ hf)
    · replace hf := z_neg hf c2
      refine zt_fload_n hX 0 dX5_bitsOf_14 rfl rfl ?_
      refine zt_fneg hX dX5_bitsOf_15 ?_
      refine zt_goto hX dX5_bitsOf_16 (tgt := 20) (by decide) ?_
      exact zt_sub [0] rfl (t_X5_bitsOf_20 hX hY _ _ _ hf)
  · replace hf := z_pos hf c1
    refine zt_iconst hX dX5_bitsOf_6 (v := (0 : Int32)) (by decide) ?_
    exact zt_iret hX hY dX5_bitsOf_7 hf

theorem dX5_shareOf_0 : decode cX5_shareOf 0 = .ok (.aload_n 0, 1) := by decide +kernel
theorem dX5_shareOf_1 : decode cX5_shareOf 1 = .ok (.getfield 33, 3) := by decide +kernel
theorem dX5_shareOf_4 : decode cX5_shareOf 4 = .ok (.aload_n 0, 1) := by decide +kernel
theorem dX5_shareOf_5 : decode cX5_shareOf 5 = .ok (.getfield 10, 3) := by decide +kernel
theorem dX5_shareOf_8 : decode cX5_shareOf 8 = .ok (.aload_n 0, 1) := by decide +kernel
theorem dX5_shareOf_9 : decode cX5_shareOf 9 = .ok (.getfield 26, 3) := by decide +kernel
theorem dX5_shareOf_12 : decode cX5_shareOf 12 = .ok (.invokevirtual 142, 3) := by decide +kernel
theorem dX5_shareOf_15 : decode cX5_shareOf 15 = .ok (.aload_n 0, 1) := by decide +kernel
theorem dX5_shareOf_16 : decode cX5_shareOf 16 = .ok (.getfield 33, 3) := by decide +kernel
theorem dX5_shareOf_19 : decode cX5_shareOf 19 = .ok (.getfield 146, 3) := by decide +kernel
theorem dX5_shareOf_22 : decode cX5_shareOf 22 = .ok (.iconst 0, 1) := by decide +kernel
theorem dX5_shareOf_23 : decode cX5_shareOf 23 = .ok (.aaload, 1) := by decide +kernel
theorem dX5_shareOf_24 : decode cX5_shareOf 24 = .ok (.invokestatic 135, 3) := by decide +kernel
theorem dX5_shareOf_27 : decode cX5_shareOf 27 = .ok (.istore_n 2, 1) := by decide +kernel
theorem dX5_shareOf_28 : decode cX5_shareOf 28 = .ok (.iload_n 2, 1) := by decide +kernel
theorem dX5_shareOf_29 : decode cX5_shareOf 29 = .ok (.ifCond .ne 5, 3) := by decide +kernel
theorem dX5_shareOf_32 : decode cX5_shareOf 32 = .ok (.fconst 0, 1) := by decide +kernel
theorem dX5_shareOf_33 : decode cX5_shareOf 33 = .ok (.freturn, 1) := by decide +kernel
theorem dX5_shareOf_34 : decode cX5_shareOf 34 = .ok (.aload_n 0, 1) := by decide +kernel
theorem dX5_shareOf_35 : decode cX5_shareOf 35 = .ok (.getfield 33, 3) := by decide +kernel
theorem dX5_shareOf_38 : decode cX5_shareOf 38 = .ok (.getfield 146, 3) := by decide +kernel
theorem dX5_shareOf_41 : decode cX5_shareOf 41 = .ok (.iload_n 1, 1) := by decide +kernel
theorem dX5_shareOf_42 : decode cX5_shareOf 42 = .ok (.aaload, 1) := by decide +kernel
theorem dX5_shareOf_43 : decode cX5_shareOf 43 = .ok (.invokestatic 135, 3) := by decide +kernel
theorem dX5_shareOf_46 : decode cX5_shareOf 46 = .ok (.i2f, 1) := by decide +kernel
theorem dX5_shareOf_47 : decode cX5_shareOf 47 = .ok (.iload_n 2, 1) := by decide +kernel
theorem dX5_shareOf_48 : decode cX5_shareOf 48 = .ok (.i2f, 1) := by decide +kernel
theorem dX5_shareOf_49 : decode cX5_shareOf 49 = .ok (.fdiv, 1) := by decide +kernel
theorem dX5_shareOf_50 : decode cX5_shareOf 50 = .ok (.freturn, 1) := by decide +kernel
abbrev rm_X5_shareOf : Room := { frames := 5, cells := 0, slots := 0, locals := 120 }
theorem hy_X5_shareOf : yX5_shareOf.cls ≠ "java/lang/invoke/MethodHandle" ∧ yX5_shareOf.cls ≠ "java/lang/invoke/VarHandle" ∧ (parseMethodDescriptor yX5_shareOf.desc).map (fun d => d.parameters.length) = some 1 := by decide +kernel
def w_X5_shareOf (a1 : Int32) (σ : z_S) (Q : UInt32 → z_S → Prop) : Prop :=
  w_X0_fill σ (fun σ2 => vp_in (0 : Int32) 10 ∧ w_X5_sumOf (55 + (0 : Int32).toNatClampNeg) σ2 (fun r4 σ5 => if r4 = 0 then (Q FP.fconst0 σ5) else (vp_in a1 10 ∧ w_X5_sumOf (55 + a1.toNatClampNeg) σ5 (fun r8 σ9 => vf_n32 (FP.fdiv (FP.i2f r8) (FP.i2f r4)) ∧ Q (FP.fdiv (FP.i2f r8) (FP.i2f r4)) σ9))))
set_option maxHeartbeats 4000000 in
set_option maxRecDepth 100000 in
theorem c_X5_shareOf {l : Launch} {D : va_G} {cI cJ cM cS : ClassId} {n0 : Nat} {a1 : Int32} {σ : z_S} {Q : UInt32 → z_S → Prop} (hf : w_X5_shareOf a1 σ Q) : z_cf l D cI cJ cM cS n0 yX5_shareOf cX5_shareOf 3 .float rm_X5_shareOf 0 0 [.ref (n0 + 0), .int a1] σ Q := by
  refine z_off (by decide +kernel) (Nat.le_of_ble_eq_true rfl) (fun p e s m args below meth c hX hY => ?_)
  unfold w_X5_shareOf at hf
  refine zt_L (L' := [(0, .ref (n0 + 0)), (1, .int a1)]) rfl ?_
  refine zt_aload_n hX 0 dX5_shareOf_0 rfl rfl ?_
  refine zt_get_X5 hX (by decide) (zE_0 _ _) 3 (by decide) kw_237 rfl rfl dX5_shareOf_1 ?_
  refine zt_aload_n hX 0 dX5_shareOf_4 rfl rfl ?_
  refine zt_get_X5 hX (by decide) (zE_0 _ _) 0 (by decide) kw_234 rfl rfl dX5_shareOf_5 ?_
  refine zt_aload_n hX 0 dX5_shareOf_8 rfl rfl ?_
  refine zt_get_X5 hX (by decide) (zE_0 _ _) 2 (by decide) kw_236 rfl rfl dX5_shareOf_9 ?_
  refine zt_callvV hX hY (av := [.ref (n0 + 1), .ref (n0 + 29)]) (c_X0_fill hf) dX5_shareOf_12 rfl kw_434 kw_435 kw_436 kw_65 kw_437 ⟨rfl, rfl⟩ hy_X0_fill ⟨by decide, by decide⟩ ⟨by decide, by decide⟩ (Nat.le_of_ble_eq_true rfl) (by decide) (zE_53 _ _) rfl rfl (fun σ2 hf => ?_)
  refine zt_aload_n hX 0 dX5_shareOf_15 rfl rfl ?_
  refine zt_get_X5 hX (by decide) (zE_0 _ _) 3 (by decide) kw_237 rfl rfl dX5_shareOf_16 ?_
  refine zt_get_X0 hX (by decide) (zE_53 _ _) 0 (by decide) kw_187 rfl rfl dX5_shareOf_19 ?_
  refine zt_iconst hX dX5_shareOf_22 (v := (0 : Int32)) (by decide) ?_
  obtain ⟨h3, hf⟩ := hf
  refine zt_aaloadM hX dX5_shareOf_23 (by decide) rfl (k1 := 55) rfl h3 ?_
  refine zt_calliS hX hY (av := [.ref (n0 + (55 + (0 : Int32).toNatClampNeg))]) (c_X5_sumOf hf) dX5_shareOf_24 rfl kw_418 kw_419 kw_61 kw_420 ⟨rfl, rfl⟩ hy_X5_sumOf ⟨by decide, by decide⟩ ⟨by decide, by decide⟩ (Nat.le_of_ble_eq_true rfl) (fun r4 σ5 hf => ?_)
  refine zt_istore_n (L' := [(2, .int r4), (0, .ref (n0 + 0)), (1, .int a1)]) hX dX5_shareOf_27 rfl (by decide) rfl ?_
  refine zt_iload_n hX 0 dX5_shareOf_28 rfl rfl ?_
  refine zt_if_ne hX dX5_shareOf_29 (tgt := 34) (by decide) (fun c6 => ?_) (fun c6 => ?_)
  · replace hf := z_neg hf c6
    refine zt_aload_n hX 1 dX5_shareOf_34 rfl rfl ?_
    refine zt_get_X5 hX (by decide) (zE_0 _ _) 3 (by decide) kw_237 rfl rfl dX5_shareOf_35 ?_
    refine zt_get_X0 hX (by decide) (zE_53 _ _) 0 (by decide) kw_187 rfl rfl dX5_shareOf_38 ?_
    refine zt_iload_n hX 2 dX5_shareOf_41 rfl rfl ?_
    obtain ⟨h7, hf⟩ := hf
    refine zt_aaloadM hX dX5_shareOf_42 (by decide) rfl (k1 := 55) rfl h7 ?_
    refine zt_calliS hX hY (av := [.ref (n0 + (55 + a1.toNatClampNeg))]) (c_X5_sumOf hf) dX5_shareOf_43 rfl kw_418 kw_419 kw_61 kw_420 ⟨rfl, rfl⟩ hy_X5_sumOf ⟨by decide, by decide⟩ ⟨by decide, by decide⟩ (Nat.le_of_ble_eq_true rfl) (fun r8 σ9 hf => ?_)
    refine zt_i2f hX dX5_shareOf_46 ?_
    refine zt_iload_n hX 0 dX5_shareOf_47 rfl rfl ?_
    refine zt_i2f hX dX5_shareOf_48 ?_
    obtain ⟨h10, hf⟩ := hf
    refine zt_fdiv hX dX5_shareOf_49 h10 ?_
    exact zt_fret hX hY dX5_shareOf_50 hf
  · replace hf := z_pos hf c6
    refine zt_fconst0 hX dX5_shareOf_32 ?_
    exact zt_fret hX hY dX5_shareOf_33 hf

theorem dX5_shareBits_0 : decode cX5_shareBits 0 = .ok (.aload_n 0, 1) := by decide +kernel
theorem dX5_shareBits_1 : decode cX5_shareBits 1 = .ok (.getfield 10, 3) := by decide +kernel
theorem dX5_shareBits_4 : decode cX5_shareBits 4 = .ok (.iload_n 1, 1) := by decide +kernel
theorem dX5_shareBits_5 : decode cX5_shareBits 5 = .ok (.invokevirtual 48, 3) := by decide +kernel
theorem dX5_shareBits_8 : decode cX5_shareBits 8 = .ok (.ifCond .ne 6, 3) := by decide +kernel
theorem dX5_shareBits_11 : decode cX5_shareBits 11 = .ok (.ldc 52, 2) := by decide +kernel
theorem dX5_shareBits_13 : decode cX5_shareBits 13 = .ok (.ireturn, 1) := by decide +kernel
theorem dX5_shareBits_14 : decode cX5_shareBits 14 = .ok (.aload_n 0, 1) := by decide +kernel
theorem dX5_shareBits_15 : decode cX5_shareBits 15 = .ok (.iload_n 1, 1) := by decide +kernel
theorem dX5_shareBits_16 : decode cX5_shareBits 16 = .ok (.invokevirtual 162, 3) := by decide +kernel
theorem dX5_shareBits_19 : decode cX5_shareBits 19 = .ok (.invokestatic 166, 3) := by decide +kernel
theorem dX5_shareBits_22 : decode cX5_shareBits 22 = .ok (.ireturn, 1) := by decide +kernel
abbrev rm_X5_shareBits : Room := { frames := 6, cells := 0, slots := 0, locals := 142 }
theorem hy_X5_shareBits : yX5_shareBits.cls ≠ "java/lang/invoke/MethodHandle" ∧ yX5_shareBits.cls ≠ "java/lang/invoke/VarHandle" ∧ (parseMethodDescriptor yX5_shareBits.desc).map (fun d => d.parameters.length) = some 1 := by decide +kernel
def w_X5_shareBits (a1 : Int32) (σ : z_S) (Q : Int32 → z_S → Prop) : Prop :=
  w_X4_has a1 σ (fun r1 σ2 => if r1 = 0 then (Q (-2000000001 : Int32) σ2) else (w_X5_shareOf a1 σ2 (fun r4 σ5 => w_X5_bitsOf r4 σ5 (fun r6 σ7 => Q r6 σ7))))
set_option maxHeartbeats 4000000 in
set_option maxRecDepth 100000 in
theorem c_X5_shareBits {l : Launch} {D : va_G} {cI cJ cM cS : ClassId} {n0 : Nat} {a1 : Int32} {σ : z_S} {Q : Int32 → z_S → Prop} (hf : w_X5_shareBits a1 σ Q) : z_ci l D cI cJ cM cS n0 yX5_shareBits cX5_shareBits 2 .int rm_X5_shareBits 0 0 [.ref (n0 + 0), .int a1] σ Q := by
  refine z_ofi (by decide +kernel) (Nat.le_of_ble_eq_true rfl) (fun p e s m args below meth c hX hY => ?_)
  unfold w_X5_shareBits at hf
  refine zt_L (L' := [(0, .ref (n0 + 0)), (1, .int a1)]) rfl ?_
  refine zt_aload_n hX 0 dX5_shareBits_0 rfl rfl ?_
  refine zt_get_X5 hX (by decide) (zE_0 _ _) 0 (by decide) kw_234 rfl rfl dX5_shareBits_1 ?_
  refine zt_iload_n hX 1 dX5_shareBits_4 rfl rfl ?_
  refine zt_calliV hX hY (av := [.int a1]) (c_X4_has hf) dX5_shareBits_5 rfl kw_254 kw_255 kw_256 kw_62 kw_257 ⟨rfl, rfl⟩ hy_X4_has ⟨by decide, by decide⟩ ⟨by decide, by decide⟩ (Nat.le_of_ble_eq_true rfl) (by decide) (zE_1 _ _) rfl rfl (fun r1 σ2 hf => ?_)
  refine zt_if_ne hX dX5_shareBits_8 (tgt := 14) (by decide) (fun c3 => ?_) (fun c3 => ?_)
  · replace hf := z_neg hf c3
    refine zt_aload_n hX 0 dX5_shareBits_14 rfl rfl ?_
    refine zt_iload_n hX 1 dX5_shareBits_15 rfl rfl ?_
    refine zt_callfV hX hY (av := [.int a1]) (c_X5_shareOf hf) dX5_shareBits_16 rfl kw_500 kw_502 kw_13 kw_61 kw_503 ⟨rfl, rfl⟩ hy_X5_shareOf ⟨by decide, by decide⟩ ⟨by decide, by decide⟩ (Nat.le_of_ble_eq_true rfl) (by decide) (zE_0 _ _) rfl rfl (fun r4 σ5 hf => ?_)
    refine zt_calliS hX hY (av := [.float r4]) (c_X5_bitsOf hf) dX5_shareBits_19 rfl kw_504 kw_505 kw_61 kw_506 ⟨rfl, rfl⟩ hy_X5_bitsOf ⟨by decide, by decide⟩ ⟨by decide, by decide⟩ (Nat.le_of_ble_eq_true rfl) (fun r6 σ7 hf => ?_)
    exact zt_iret hX hY dX5_shareBits_22 hf
  · replace hf := z_pos hf c3
    refine zt_ldc hX dX5_shareBits_11 kw_258 ?_
    exact zt_iret hX hY dX5_shareBits_13 hf

theorem dX5_share_0 : decode cX5_share 0 = .ok (.aload_n 0, 1) := by decide +kernel
theorem dX5_share_1 : decode cX5_share 1 = .ok (.getfield 10, 3) := by decide +kernel
theorem dX5_share_4 : decode cX5_share 4 = .ok (.iload_n 1, 1) := by decide +kernel
theorem dX5_share_5 : decode cX5_share 5 = .ok (.invokevirtual 48, 3) := by decide +kernel
theorem dX5_share_8 : decode cX5_share 8 = .ok (.ifCond .ne 6, 3) := by decide +kernel
theorem dX5_share_11 : decode cX5_share 11 = .ok (.ldc 52, 2) := by decide +kernel
theorem dX5_share_13 : decode cX5_share 13 = .ok (.ireturn, 1) := by decide +kernel
theorem dX5_share_14 : decode cX5_share 14 = .ok (.aload_n 0, 1) := by decide +kernel
theorem dX5_share_15 : decode cX5_share 15 = .ok (.iload_n 1, 1) := by decide +kernel
theorem dX5_share_16 : decode cX5_share 16 = .ok (.invokevirtual 162, 3) := by decide +kernel
theorem dX5_share_19 : decode cX5_share 19 = .ok (.ldc 170, 2) := by decide +kernel
theorem dX5_share_21 : decode cX5_share 21 = .ok (.fmul, 1) := by decide +kernel
theorem dX5_share_22 : decode cX5_share 22 = .ok (.f2i, 1) := by decide +kernel
theorem dX5_share_23 : decode cX5_share 23 = .ok (.ireturn, 1) := by decide +kernel
abbrev rm_X5_share : Room := { frames := 6, cells := 0, slots := 0, locals := 142 }
theorem hy_X5_share : yX5_share.cls ≠ "java/lang/invoke/MethodHandle" ∧ yX5_share.cls ≠ "java/lang/invoke/VarHandle" ∧ (parseMethodDescriptor yX5_share.desc).map (fun d => d.parameters.length) = some 1 := by decide +kernel
def w_X5_share (a1 : Int32) (σ : z_S) (Q : Int32 → z_S → Prop) : Prop :=
  w_X4_has a1 σ (fun r1 σ2 => if r1 = 0 then (Q (-2000000001 : Int32) σ2) else (w_X5_shareOf a1 σ2 (fun r4 σ5 => vf_n32 (FP.fmul r4 (1148846080 : UInt32)) ∧ Q (FP.f2i (FP.fmul r4 (1148846080 : UInt32))) σ5)))
set_option maxHeartbeats 4000000 in
set_option maxRecDepth 100000 in
theorem c_X5_share {l : Launch} {D : va_G} {cI cJ cM cS : ClassId} {n0 : Nat} {a1 : Int32} {σ : z_S} {Q : Int32 → z_S → Prop} (hf : w_X5_share a1 σ Q) : z_ci l D cI cJ cM cS n0 yX5_share cX5_share 2 .int rm_X5_share 0 0 [.ref (n0 + 0), .int a1] σ Q := by
  refine z_ofi (by decide +kernel) (Nat.le_of_ble_eq_true rfl) (fun p e s m args below meth c hX hY => ?_)
  unfold w_X5_share at hf
  refine zt_L (L' := [(0, .ref (n0 + 0)), (1, .int a1)]) rfl ?_
  refine zt_aload_n hX 0 dX5_share_0 rfl rfl ?_
  refine zt_get_X5 hX (by decide) (zE_0 _ _) 0 (by decide) kw_234 rfl rfl dX5_share_1 ?_
  refine zt_iload_n hX 1 dX5_share_4 rfl rfl ?_
  refine zt_calliV hX hY (av := [.int a1]) (c_X4_has hf) dX5_share_5 rfl kw_254 kw_255 kw_256 kw_62 kw_257 ⟨rfl, rfl⟩ hy_X4_has ⟨by decide, by decide⟩ ⟨by decide, by decide⟩ (Nat.le_of_ble_eq_true rfl) (by decide) (zE_1 _ _) rfl rfl (fun r1 σ2 hf => ?_)
  refine zt_if_ne hX dX5_share_8 (tgt := 14) (by decide) (fun c3 => ?_) (fun c3 => ?_)
  · replace hf := z_neg hf c3
    refine zt_aload_n hX 0 dX5_share_14 rfl rfl ?_
    refine zt_iload_n hX 1 dX5_share_15 rfl rfl ?_
    refine zt_callfV hX hY (av := [.int a1]) (c_X5_shareOf hf) dX5_share_16 rfl kw_500 kw_502 kw_13 kw_61 kw_503 ⟨rfl, rfl⟩ hy_X5_shareOf ⟨by decide, by decide⟩ ⟨by decide, by decide⟩ (Nat.le_of_ble_eq_true rfl) (by decide) (zE_0 _ _) rfl rfl (fun r4 σ5 hf => ?_)
    refine zt_ldcf hX dX5_share_19 kw_514 ?_
    obtain ⟨h6, hf⟩ := hf
    refine zt_fmul hX dX5_share_21 h6 ?_
    refine zt_f2i hX dX5_share_22 ?_
    exact zt_iret hX hY dX5_share_23 hf
  · replace hf := z_pos hf c3
    refine zt_ldc hX dX5_share_11 kw_258 ?_
    exact zt_iret hX hY dX5_share_13 hf

theorem dX5_imbalance_0 : decode cX5_imbalance 0 = .ok (.aload_n 0, 1) := by decide +kernel
theorem dX5_imbalance_1 : decode cX5_imbalance 1 = .ok (.getfield 10, 3) := by decide +kernel
theorem dX5_imbalance_4 : decode cX5_imbalance 4 = .ok (.iload_n 1, 1) := by decide +kernel
theorem dX5_imbalance_5 : decode cX5_imbalance 5 = .ok (.invokevirtual 48, 3) := by decide +kernel
theorem dX5_imbalance_8 : decode cX5_imbalance 8 = .ok (.ifCond .ne 6, 3) := by decide +kernel
theorem dX5_imbalance_11 : decode cX5_imbalance 11 = .ok (.ldc 52, 2) := by decide +kernel
theorem dX5_imbalance_13 : decode cX5_imbalance 13 = .ok (.ireturn, 1) := by decide +kernel
theorem dX5_imbalance_14 : decode cX5_imbalance 14 = .ok (.aload_n 0, 1) := by decide +kernel
theorem dX5_imbalance_15 : decode cX5_imbalance 15 = .ok (.getfield 10, 3) := by decide +kernel
theorem dX5_imbalance_18 : decode cX5_imbalance 18 = .ok (.iload_n 1, 1) := by decide +kernel
theorem dX5_imbalance_19 : decode cX5_imbalance 19 = .ok (.invokevirtual 94, 3) := by decide +kernel
theorem dX5_imbalance_22 : decode cX5_imbalance 22 = .ok (.ifCond .ne 6, 3) := by decide +kernel
theorem dX5_imbalance_25 : decode cX5_imbalance 25 = .ok (.ldc 104, 2) := by decide +kernel
theorem dX5_imbalance_27 : decode cX5_imbalance 27 = .ok (.ireturn, 1) := by decide +kernel
theorem dX5_imbalance_28 : decode cX5_imbalance 28 = .ok (.aload_n 0, 1) := by decide +kernel
theorem dX5_imbalance_29 : decode cX5_imbalance 29 = .ok (.getfield 26, 3) := by decide +kernel
theorem dX5_imbalance_32 : decode cX5_imbalance 32 = .ok (.aload_n 0, 1) := by decide +kernel
theorem dX5_imbalance_33 : decode cX5_imbalance 33 = .ok (.getfield 10, 3) := by decide +kernel
theorem dX5_imbalance_36 : decode cX5_imbalance 36 = .ok (.iload_n 1, 1) := by decide +kernel
theorem dX5_imbalance_37 : decode cX5_imbalance 37 = .ok (.invokevirtual 152, 3) := by decide +kernel
theorem dX5_imbalance_40 : decode cX5_imbalance 40 = .ok (.aload_n 0, 1) := by decide +kernel
theorem dX5_imbalance_41 : decode cX5_imbalance 41 = .ok (.getfield 26, 3) := by decide +kernel
theorem dX5_imbalance_44 : decode cX5_imbalance 44 = .ok (.aload_n 0, 1) := by decide +kernel
theorem dX5_imbalance_45 : decode cX5_imbalance 45 = .ok (.getfield 10, 3) := by decide +kernel
theorem dX5_imbalance_48 : decode cX5_imbalance 48 = .ok (.iload_n 1, 1) := by decide +kernel
theorem dX5_imbalance_49 : decode cX5_imbalance 49 = .ok (.invokevirtual 171, 3) := by decide +kernel
theorem dX5_imbalance_52 : decode cX5_imbalance 52 = .ok (.ireturn, 1) := by decide +kernel
abbrev rm_X5_imbalance : Room := { frames := 5, cells := 0, slots := 0, locals := 119 }
theorem hy_X5_imbalance : yX5_imbalance.cls ≠ "java/lang/invoke/MethodHandle" ∧ yX5_imbalance.cls ≠ "java/lang/invoke/VarHandle" ∧ (parseMethodDescriptor yX5_imbalance.desc).map (fun d => d.parameters.length) = some 1 := by decide +kernel
def w_X5_imbalance (a1 : Int32) (σ : z_S) (Q : Int32 → z_S → Prop) : Prop :=
  w_X4_has a1 σ (fun r1 σ2 => if r1 = 0 then (Q (-2000000001 : Int32) σ2) else (w_X4_countChildren a1 σ2 (fun r4 σ5 => if r4 = 0 then (Q (-2000000000 : Int32) σ5) else (w_X1_measureFamily a1 σ5 (fun σ8 => w_X1_sumImbalance a1 σ8 (fun r9 σ10 => Q r9 σ10))))))
set_option maxHeartbeats 4000000 in
set_option maxRecDepth 100000 in
theorem c_X5_imbalance {l : Launch} {D : va_G} {cI cJ cM cS : ClassId} {n0 : Nat} {a1 : Int32} {σ : z_S} {Q : Int32 → z_S → Prop} (hf : w_X5_imbalance a1 σ Q) : z_ci l D cI cJ cM cS n0 yX5_imbalance cX5_imbalance 2 .int rm_X5_imbalance 0 0 [.ref (n0 + 0), .int a1] σ Q := by
  refine z_ofi (by decide +kernel) (Nat.le_of_ble_eq_true rfl) (fun p e s m args below meth c hX hY => ?_)
  unfold w_X5_imbalance at hf
  refine zt_L (L' := [(0, .ref (n0 + 0)), (1, .int a1)]) rfl ?_
  refine zt_aload_n hX 0 dX5_imbalance_0 rfl rfl ?_
  refine zt_get_X5 hX (by decide) (zE_0 _ _) 0 (by decide) kw_234 rfl rfl dX5_imbalance_1 ?_
  refine zt_iload_n hX 1 dX5_imbalance_4 rfl rfl ?_
  refine zt_calliV hX hY (av := [.int a1]) (c_X4_has hf) dX5_imbalance_5 rfl kw_254 kw_255 kw_256 kw_62 kw_257 ⟨rfl, rfl⟩ hy_X4_has ⟨by decide, by decide⟩ ⟨by decide, by decide⟩ (Nat.le_of_ble_eq_true rfl) (by decide) (zE_1 _ _) rfl rfl (fun r1 σ2 hf => ?_)
  refine zt_if_ne hX dX5_imbalance_8 (tgt := 14) (by decide) (fun c3 => ?_) (fun c3 => ?_)
  · replace hf := z_neg hf c3
    refine zt_aload_n hX 0 dX5_imbalance_14 rfl rfl ?_
    refine zt_get_X5 hX (by decide) (zE_0 _ _) 0 (by decide) kw_234 rfl rfl dX5_imbalance_15 ?_
    refine zt_iload_n hX 1 dX5_imbalance_18 rfl rfl ?_
    refine zt_calliV hX hY (av := [.int a1]) (c_X4_countChildren hf) dX5_imbalance_19 rfl kw_312 kw_313 kw_314 kw_62 kw_315 ⟨rfl, rfl⟩ hy_X4_countChildren ⟨by decide, by decide⟩ ⟨by decide, by decide⟩ (Nat.le_of_ble_eq_true rfl) (by decide) (zE_1 _ _) rfl rfl (fun r4 σ5 hf => ?_)
    refine zt_if_ne hX dX5_imbalance_22 (tgt := 28) (by decide) (fun c6 => ?_) (fun c6 => ?_)
    · replace hf := z_neg hf c6
      refine zt_aload_n hX 0 dX5_imbalance_28 rfl rfl ?_
      refine zt_get_X5 hX (by decide) (zE_0 _ _) 2 (by decide) kw_236 rfl rfl dX5_imbalance_29 ?_
      refine zt_aload_n hX 0 dX5_imbalance_32 rfl rfl ?_
      refine zt_get_X5 hX (by decide) (zE_0 _ _) 0 (by decide) kw_234 rfl rfl dX5_imbalance_33 ?_
      refine zt_iload_n hX 1 dX5_imbalance_36 rfl rfl ?_
      refine zt_callvV hX hY (av := [.ref (n0 + 1), .int a1]) (c_X1_measureFamily hf) dX5_imbalance_37 rfl kw_425 kw_426 kw_427 kw_64 kw_428 ⟨rfl, rfl⟩ hy_X1_measureFamily ⟨by decide, by decide⟩ ⟨by decide, by decide⟩ (Nat.le_of_ble_eq_true rfl) (by decide) (zE_29 _ _) rfl rfl (fun σ8 hf => ?_)
      refine zt_aload_n hX 0 dX5_imbalance_40 rfl rfl ?_
      refine zt_get_X5 hX (by decide) (zE_0 _ _) 2 (by decide) kw_236 rfl rfl dX5_imbalance_41 ?_
      refine zt_aload_n hX 0 dX5_imbalance_44 rfl rfl ?_
      refine zt_get_X5 hX (by decide) (zE_0 _ _) 0 (by decide) kw_234 rfl rfl dX5_imbalance_45 ?_
      refine zt_iload_n hX 1 dX5_imbalance_48 rfl rfl ?_
      refine zt_calliV hX hY (av := [.ref (n0 + 1), .int a1]) (c_X1_sumImbalance hf) dX5_imbalance_49 rfl kw_519 kw_520 kw_521 kw_64 kw_522 ⟨rfl, rfl⟩ hy_X1_sumImbalance ⟨by decide, by decide⟩ ⟨by decide, by decide⟩ (Nat.le_of_ble_eq_true rfl) (by decide) (zE_29 _ _) rfl rfl (fun r9 σ10 hf => ?_)
      exact zt_iret hX hY dX5_imbalance_52 hf
    · replace hf := z_pos hf c6
      refine zt_ldc hX dX5_imbalance_25 kw_329 ?_
      exact zt_iret hX hY dX5_imbalance_27 hf
  · replace hf := z_pos hf c3
    refine zt_ldc hX dX5_imbalance_11 kw_258 ?_
    exact zt_iret hX hY dX5_imbalance_13 hf

theorem dX5_imbalanceWith_0 : decode cX5_imbalanceWith 0 = .ok (.aload_n 0, 1) := by decide +kernel
theorem dX5_imbalanceWith_1 : decode cX5_imbalanceWith 1 = .ok (.getfield 10, 3) := by decide +kernel
theorem dX5_imbalanceWith_4 : decode cX5_imbalanceWith 4 = .ok (.iload_n 1, 1) := by decide +kernel
theorem dX5_imbalanceWith_5 : decode cX5_imbalanceWith 5 = .ok (.invokevirtual 48, 3) := by decide +kernel
theorem dX5_imbalanceWith_8 : decode cX5_imbalanceWith 8 = .ok (.ifCond .ne 6, 3) := by decide +kernel
theorem dX5_imbalanceWith_11 : decode cX5_imbalanceWith 11 = .ok (.ldc 52, 2) := by decide +kernel
theorem dX5_imbalanceWith_13 : decode cX5_imbalanceWith 13 = .ok (.ireturn, 1) := by decide +kernel
theorem dX5_imbalanceWith_14 : decode cX5_imbalanceWith 14 = .ok (.aload_n 0, 1) := by decide +kernel
theorem dX5_imbalanceWith_15 : decode cX5_imbalanceWith 15 = .ok (.getfield 10, 3) := by decide +kernel
theorem dX5_imbalanceWith_18 : decode cX5_imbalanceWith 18 = .ok (.iload_n 1, 1) := by decide +kernel
theorem dX5_imbalanceWith_19 : decode cX5_imbalanceWith 19 = .ok (.iload_n 2, 1) := by decide +kernel
theorem dX5_imbalanceWith_20 : decode cX5_imbalanceWith 20 = .ok (.invokevirtual 100, 3) := by decide +kernel
theorem dX5_imbalanceWith_23 : decode cX5_imbalanceWith 23 = .ok (.istore 4, 2) := by decide +kernel
theorem dX5_imbalanceWith_25 : decode cX5_imbalanceWith 25 = .ok (.aload_n 0, 1) := by decide +kernel
theorem dX5_imbalanceWith_26 : decode cX5_imbalanceWith 26 = .ok (.getfield 10, 3) := by decide +kernel
theorem dX5_imbalanceWith_29 : decode cX5_imbalanceWith 29 = .ok (.iload 4, 2) := by decide +kernel
theorem dX5_imbalanceWith_31 : decode cX5_imbalanceWith 31 = .ok (.invokevirtual 48, 3) := by decide +kernel
theorem dX5_imbalanceWith_34 : decode cX5_imbalanceWith 34 = .ok (.ifCond .ne 6, 3) := by decide +kernel
theorem dX5_imbalanceWith_37 : decode cX5_imbalanceWith 37 = .ok (.ldc 52, 2) := by decide +kernel
theorem dX5_imbalanceWith_39 : decode cX5_imbalanceWith 39 = .ok (.ireturn, 1) := by decide +kernel
theorem dX5_imbalanceWith_40 : decode cX5_imbalanceWith 40 = .ok (.iload_n 3, 1) := by decide +kernel
theorem dX5_imbalanceWith_41 : decode cX5_imbalanceWith 41 = .ok (.iconst 0, 1) := by decide +kernel
theorem dX5_imbalanceWith_42 : decode cX5_imbalanceWith 42 = .ok (.bipush 7, 2) := by decide +kernel
theorem dX5_imbalanceWith_44 : decode cX5_imbalanceWith 44 = .ok (.invokestatic 62, 3) := by decide +kernel
theorem dX5_imbalanceWith_47 : decode cX5_imbalanceWith 47 = .ok (.ifCond .ne 6, 3) := by decide +kernel
theorem dX5_imbalanceWith_50 : decode cX5_imbalanceWith 50 = .ok (.ldc 66, 2) := by decide +kernel
theorem dX5_imbalanceWith_52 : decode cX5_imbalanceWith 52 = .ok (.ireturn, 1) := by decide +kernel
theorem dX5_imbalanceWith_53 : decode cX5_imbalanceWith 53 = .ok (.aload_n 0, 1) := by decide +kernel
theorem dX5_imbalanceWith_54 : decode cX5_imbalanceWith 54 = .ok (.getfield 26, 3) := by decide +kernel
theorem dX5_imbalanceWith_57 : decode cX5_imbalanceWith 57 = .ok (.aload_n 0, 1) := by decide +kernel
theorem dX5_imbalanceWith_58 : decode cX5_imbalanceWith 58 = .ok (.getfield 10, 3) := by decide +kernel
theorem dX5_imbalanceWith_61 : decode cX5_imbalanceWith 61 = .ok (.iload_n 1, 1) := by decide +kernel
theorem dX5_imbalanceWith_62 : decode cX5_imbalanceWith 62 = .ok (.invokevirtual 152, 3) := by decide +kernel
theorem dX5_imbalanceWith_65 : decode cX5_imbalanceWith 65 = .ok (.aload_n 0, 1) := by decide +kernel
theorem dX5_imbalanceWith_66 : decode cX5_imbalanceWith 66 = .ok (.getfield 26, 3) := by decide +kernel
theorem dX5_imbalanceWith_69 : decode cX5_imbalanceWith 69 = .ok (.aload_n 0, 1) := by decide +kernel
theorem dX5_imbalanceWith_70 : decode cX5_imbalanceWith 70 = .ok (.getfield 10, 3) := by decide +kernel
theorem dX5_imbalanceWith_73 : decode cX5_imbalanceWith 73 = .ok (.iload_n 1, 1) := by decide +kernel
theorem dX5_imbalanceWith_74 : decode cX5_imbalanceWith 74 = .ok (.iload 4, 2) := by decide +kernel
theorem dX5_imbalanceWith_76 : decode cX5_imbalanceWith 76 = .ok (.iload_n 3, 1) := by decide +kernel
theorem dX5_imbalanceWith_77 : decode cX5_imbalanceWith 77 = .ok (.invokevirtual 175, 3) := by decide +kernel
theorem dX5_imbalanceWith_80 : decode cX5_imbalanceWith 80 = .ok (.ireturn, 1) := by decide +kernel
abbrev rm_X5_imbalanceWith : Room := { frames := 5, cells := 0, slots := 0, locals := 119 }
theorem hy_X5_imbalanceWith : yX5_imbalanceWith.cls ≠ "java/lang/invoke/MethodHandle" ∧ yX5_imbalanceWith.cls ≠ "java/lang/invoke/VarHandle" ∧ (parseMethodDescriptor yX5_imbalanceWith.desc).map (fun d => d.parameters.length) = some 3 := by decide +kernel
def w_X5_imbalanceWith (a1 : Int32) (a2 : Int32) (a3 : Int32) (σ : z_S) (Q : Int32 → z_S → Prop) : Prop :=
  w_X4_has a1 σ (fun r1 σ2 => if r1 = 0 then (Q (-2000000001 : Int32) σ2) else (w_X4_findChild a1 a2 σ2 (fun r4 σ5 => w_X4_has r4 σ5 (fun r6 σ7 => if r6 = 0 then (Q (-2000000001 : Int32) σ7) else (w_X5_within a3 (0 : Int32) (7 : Int32) σ7 (fun r9 σ10 => if r9 = 0 then (Q (-2000000002 : Int32) σ10) else (w_X1_measureFamily a1 σ10 (fun σ13 => w_X1_sumImbalanceScaled a1 r4 a3 σ13 (fun r14 σ15 => Q r14 σ15)))))))))
set_option maxHeartbeats 4000000 in
set_option maxRecDepth 100000 in
theorem c_X5_imbalanceWith {l : Launch} {D : va_G} {cI cJ cM cS : ClassId} {n0 : Nat} {a1 : Int32} {a2 : Int32} {a3 : Int32} {σ : z_S} {Q : Int32 → z_S → Prop} (hf : w_X5_imbalanceWith a1 a2 a3 σ Q) : z_ci l D cI cJ cM cS n0 yX5_imbalanceWith cX5_imbalanceWith 5 .int rm_X5_imbalanceWith 0 0 [.ref (n0 + 0), .int a1, .int a2, .int a3] σ Q := by
  refine z_ofi (by decide +kernel) (Nat.le_of_ble_eq_true rfl) (fun p e s m args below meth c hX hY => ?_)
  unfold w_X5_imbalanceWith at hf
  refine zt_L (L' := [(0, .ref (n0 + 0)), (1, .int a1), (2, .int a2), (3, .int a3)]) rfl ?_
  refine zt_aload_n hX 0 dX5_imbalanceWith_0 rfl rfl ?_
  refine zt_get_X5 hX (by decide) (zE_0 _ _) 0 (by decide) kw_234 rfl rfl dX5_imbalanceWith_1 ?_
  refine zt_iload_n hX 1 dX5_imbalanceWith_4 rfl rfl ?_
  refine zt_calliV hX hY (av := [.int a1]) (c_X4_has hf) dX5_imbalanceWith_5 rfl kw_254 kw_255 kw_256 kw_62 kw_257 ⟨rfl, rfl⟩ hy_X4_has ⟨by decide, by decide⟩ ⟨by decide, by decide⟩ (Nat.le_of_ble_eq_true rfl) (by decide) (zE_1 _ _) rfl rfl (fun r1 σ2 hf => ?_)
  refine zt_if_ne hX dX5_imbalanceWith_8 (tgt := 14) (by decide) (fun c3 => ?_) (fun c3 => ?_)
  · replace hf := z_neg hf c3
    refine zt_aload_n hX 0 dX5_imbalanceWith_14 rfl rfl ?_
    refine zt_get_X5 hX (by decide) (zE_0 _ _) 0 (by decide) kw_234 rfl rfl dX5_imbalanceWith_15 ?_
    refine zt_iload_n hX 1 dX5_imbalanceWith_18 rfl rfl ?_
    refine zt_iload_n hX 2 dX5_imbalanceWith_19 rfl rfl ?_
    refine zt_calliV hX hY (av := [.int a1, .int a2]) (c_X4_findChild hf) dX5_imbalanceWith_20 rfl kw_325 kw_326 kw_327 kw_62 kw_328 ⟨rfl, rfl⟩ hy_X4_findChild ⟨by decide, by decide⟩ ⟨by decide, by decide⟩ (Nat.le_of_ble_eq_true rfl) (by decide) (zE_1 _ _) rfl rfl (fun r4 σ5 hf => ?_)
    refine zt_istore (L' := [(4, .int r4), (0, .ref (n0 + 0)), (1, .int a1), (2, .int a2), (3, .int a3)]) hX dX5_imbalanceWith_23 (by decide) rfl ?_
    refine zt_aload_n hX 1 dX5_imbalanceWith_25 rfl rfl ?_
    refine zt_get_X5 hX (by decide) (zE_0 _ _) 0 (by decide) kw_234 rfl rfl dX5_imbalanceWith_26 ?_
    refine zt_iload hX 0 dX5_imbalanceWith_29 rfl ?_
    refine zt_calliV hX hY (av := [.int r4]) (c_X4_has hf) dX5_imbalanceWith_31 rfl kw_254 kw_255 kw_256 kw_62 kw_257 ⟨rfl, rfl⟩ hy_X4_has ⟨by decide, by decide⟩ ⟨by decide, by decide⟩ (Nat.le_of_ble_eq_true rfl) (by decide) (zE_1 _ _) rfl rfl (fun r6 σ7 hf => ?_)
    refine zt_if_ne hX dX5_imbalanceWith_34 (tgt := 40) (by decide) (fun c8 => ?_) (fun c8 => ?_)
    · replace hf := z_neg hf c8
      refine zt_iload_n hX 4 dX5_imbalanceWith_40 rfl rfl ?_
      refine zt_iconst hX dX5_imbalanceWith_41 (v := (0 : Int32)) (by decide) ?_
      refine zt_bipush hX dX5_imbalanceWith_42 (v := (7 : Int32)) (by decide) ?_
      refine zt_calliS hX hY (av := [.int a3, .int (0 : Int32), .int (7 : Int32)]) (c_X5_within hf) dX5_imbalanceWith_44 rfl kw_290 kw_291 kw_61 kw_292 ⟨rfl, rfl⟩ hy_X5_within ⟨by decide, by decide⟩ ⟨by decide, by decide⟩ (Nat.le_of_ble_eq_true rfl) (fun r9 σ10 hf => ?_)
      refine zt_if_ne hX dX5_imbalanceWith_47 (tgt := 53) (by decide) (fun c11 => ?_) (fun c11 => ?_)
      · replace hf := z_neg hf c11
        refine zt_aload_n hX 1 dX5_imbalanceWith_53 rfl rfl ?_
        refine zt_get_X5 hX (by decide) (zE_0 _ _) 2 (by decide) kw_236 rfl rfl dX5_imbalanceWith_54 ?_
        refine zt_aload_n hX 1 dX5_imbalanceWith_57 rfl rfl ?_
        refine zt_get_X5 hX (by decide) (zE_0 _ _) 0 (by decide) kw_234 rfl rfl dX5_imbalanceWith_58 ?_
        refine zt_iload_n hX 2 dX5_imbalanceWith_61 rfl rfl ?_
        refine zt_callvV hX hY (av := [.ref (n0 + 1), .int a1]) (c_X1_measureFamily hf) dX5_imbalanceWith_62 rfl kw_425 kw_426 kw_427 kw_64 kw_428 ⟨rfl, rfl⟩ hy_X1_measureFamily ⟨by decide, by decide⟩ ⟨by decide, by decide⟩ (Nat.le_of_ble_eq_true rfl) (by decide) (zE_29 _ _) rfl rfl (fun σ13 hf => ?_)
        refine zt_aload_n hX 1 dX5_imbalanceWith_65 rfl rfl ?_
        refine zt_get_X5 hX (by decide) (zE_0 _ _) 2 (by decide) kw_236 rfl rfl dX5_imbalanceWith_66 ?_
        refine zt_aload_n hX 1 dX5_imbalanceWith_69 rfl rfl ?_
        refine zt_get_X5 hX (by decide) (zE_0 _ _) 0 (by decide) kw_234 rfl rfl dX5_imbalanceWith_70 ?_
        refine zt_iload_n hX 2 dX5_imbalanceWith_73 rfl rfl ?_
        refine zt_iload hX 0 dX5_imbalanceWith_74 rfl ?_
        refine zt_iload_n hX 4 dX5_imbalanceWith_76 rfl rfl ?_
        refine zt_calliV hX hY (av := [.ref (n0 + 1), .int a1, .int r4, .int a3]) (c_X1_sumImbalanceScaled hf) dX5_imbalanceWith_77 rfl kw_530 kw_531 kw_532 kw_64 kw_533 ⟨rfl, rfl⟩ hy_X1_sumImbalanceScaled ⟨by decide, by decide⟩ ⟨by decide, by decide⟩ (Nat.le_of_ble_eq_true rfl) (by decide) (zE_29 _ _) rfl rfl (fun r14 σ15 hf => ?_)
        exact zt_iret hX hY dX5_imbalanceWith_80 hf
      · replace hf := z_pos hf c11
        refine zt_ldc hX dX5_imbalanceWith_50 kw_293 ?_
        exact zt_iret hX hY dX5_imbalanceWith_52 hf
    · replace hf := z_pos hf c8
      refine zt_ldc hX dX5_imbalanceWith_37 kw_258 ?_
      exact zt_iret hX hY dX5_imbalanceWith_39 hf
  · replace hf := z_pos hf c3
    refine zt_ldc hX dX5_imbalanceWith_11 kw_258 ?_
    exact zt_iret hX hY dX5_imbalanceWith_13 hf

theorem dX5_suspect_0 : decode cX5_suspect 0 = .ok (.aload_n 0, 1) := by decide +kernel
theorem dX5_suspect_1 : decode cX5_suspect 1 = .ok (.getfield 10, 3) := by decide +kernel
theorem dX5_suspect_4 : decode cX5_suspect 4 = .ok (.iload_n 1, 1) := by decide +kernel
theorem dX5_suspect_5 : decode cX5_suspect 5 = .ok (.invokevirtual 48, 3) := by decide +kernel
theorem dX5_suspect_8 : decode cX5_suspect 8 = .ok (.ifCond .ne 6, 3) := by decide +kernel
theorem dX5_suspect_11 : decode cX5_suspect 11 = .ok (.ldc 52, 2) := by decide +kernel
theorem dX5_suspect_13 : decode cX5_suspect 13 = .ok (.ireturn, 1) := by decide +kernel
theorem dX5_suspect_14 : decode cX5_suspect 14 = .ok (.aload_n 0, 1) := by decide +kernel
theorem dX5_suspect_15 : decode cX5_suspect 15 = .ok (.getfield 10, 3) := by decide +kernel
theorem dX5_suspect_18 : decode cX5_suspect 18 = .ok (.iload_n 1, 1) := by decide +kernel
theorem dX5_suspect_19 : decode cX5_suspect 19 = .ok (.invokevirtual 94, 3) := by decide +kernel
theorem dX5_suspect_22 : decode cX5_suspect 22 = .ok (.ifCond .ne 6, 3) := by decide +kernel
theorem dX5_suspect_25 : decode cX5_suspect 25 = .ok (.ldc 104, 2) := by decide +kernel
theorem dX5_suspect_27 : decode cX5_suspect 27 = .ok (.ireturn, 1) := by decide +kernel
theorem dX5_suspect_28 : decode cX5_suspect 28 = .ok (.aload_n 0, 1) := by decide +kernel
theorem dX5_suspect_29 : decode cX5_suspect 29 = .ok (.getfield 26, 3) := by decide +kernel
theorem dX5_suspect_32 : decode cX5_suspect 32 = .ok (.aload_n 0, 1) := by decide +kernel
theorem dX5_suspect_33 : decode cX5_suspect 33 = .ok (.getfield 10, 3) := by decide +kernel
theorem dX5_suspect_36 : decode cX5_suspect 36 = .ok (.iload_n 1, 1) := by decide +kernel
theorem dX5_suspect_37 : decode cX5_suspect 37 = .ok (.invokevirtual 152, 3) := by decide +kernel
theorem dX5_suspect_40 : decode cX5_suspect 40 = .ok (.aload_n 0, 1) := by decide +kernel
theorem dX5_suspect_41 : decode cX5_suspect 41 = .ok (.getfield 26, 3) := by decide +kernel
theorem dX5_suspect_44 : decode cX5_suspect 44 = .ok (.aload_n 0, 1) := by decide +kernel
theorem dX5_suspect_45 : decode cX5_suspect 45 = .ok (.getfield 10, 3) := by decide +kernel
theorem dX5_suspect_48 : decode cX5_suspect 48 = .ok (.iload_n 1, 1) := by decide +kernel
theorem dX5_suspect_49 : decode cX5_suspect 49 = .ok (.invokevirtual 179, 3) := by decide +kernel
theorem dX5_suspect_52 : decode cX5_suspect 52 = .ok (.ireturn, 1) := by decide +kernel
abbrev rm_X5_suspect : Room := { frames := 5, cells := 0, slots := 0, locals := 119 }
theorem hy_X5_suspect : yX5_suspect.cls ≠ "java/lang/invoke/MethodHandle" ∧ yX5_suspect.cls ≠ "java/lang/invoke/VarHandle" ∧ (parseMethodDescriptor yX5_suspect.desc).map (fun d => d.parameters.length) = some 1 := by decide +kernel
def w_X5_suspect (a1 : Int32) (σ : z_S) (Q : Int32 → z_S → Prop) : Prop :=
  w_X4_has a1 σ (fun r1 σ2 => if r1 = 0 then (Q (-2000000001 : Int32) σ2) else (w_X4_countChildren a1 σ2 (fun r4 σ5 => if r4 = 0 then (Q (-2000000000 : Int32) σ5) else (w_X1_measureFamily a1 σ5 (fun σ8 => w_X1_findSuspect a1 σ8 (fun r9 σ10 => Q r9 σ10))))))
set_option maxHeartbeats 4000000 in
set_option maxRecDepth 100000 in
theorem c_X5_suspect {l : Launch} {D : va_G} {cI cJ cM cS : ClassId} {n0 : Nat} {a1 : Int32} {σ : z_S} {Q : Int32 → z_S → Prop} (hf : w_X5_suspect a1 σ Q) : z_ci l D cI cJ cM cS n0 yX5_suspect cX5_suspect 2 .int rm_X5_suspect 0 0 [.ref (n0 + 0), .int a1] σ Q := by
  refine z_ofi (by decide +kernel) (Nat.le_of_ble_eq_true rfl) (fun p e s m args below meth c hX hY => ?_)
  unfold w_X5_suspect at hf
  refine zt_L (L' := [(0, .ref (n0 + 0)), (1, .int a1)]) rfl ?_
  refine zt_aload_n hX 0 dX5_suspect_0 rfl rfl ?_
  refine zt_get_X5 hX (by decide) (zE_0 _ _) 0 (by decide) kw_234 rfl rfl dX5_suspect_1 ?_
  refine zt_iload_n hX 1 dX5_suspect_4 rfl rfl ?_
  refine zt_calliV hX hY (av := [.int a1]) (c_X4_has hf) dX5_suspect_5 rfl kw_254 kw_255 kw_256 kw_62 kw_257 ⟨rfl, rfl⟩ hy_X4_has ⟨by decide, by decide⟩ ⟨by decide, by decide⟩ (Nat.le_of_ble_eq_true rfl) (by decide) (zE_1 _ _) rfl rfl (fun r1 σ2 hf => ?_)
  refine zt_if_ne hX dX5_suspect_8 (tgt := 14) (by decide) (fun c3 => ?_) (fun c3 => ?_)
  · replace hf := z_neg hf c3
    refine zt_aload_n hX 0 dX5_suspect_14 rfl rfl ?_
    refine zt_get_X5 hX (by decide) (zE_0 _ _) 0 (by decide) kw_234 rfl rfl dX5_suspect_15 ?_
    refine zt_iload_n hX 1 dX5_suspect_18 rfl rfl ?_
    refine zt_calliV hX hY (av := [.int a1]) (c_X4_countChildren hf) dX5_suspect_19 rfl kw_312 kw_313 kw_314 kw_62 kw_315 ⟨rfl, rfl⟩ hy_X4_countChildren ⟨by decide, by decide⟩ ⟨by decide, by decide⟩ (Nat.le_of_ble_eq_true rfl) (by decide) (zE_1 _ _) rfl rfl (fun r4 σ5 hf => ?_)
    refine zt_if_ne hX dX5_suspect_22 (tgt := 28) (by decide) (fun c6 => ?_) (fun c6 => ?_)
    · replace hf := z_neg hf c6
      refine zt_aload_n hX 0 dX5_suspect_28 rfl rfl ?_
      refine zt_get_X5 hX (by decide) (zE_0 _ _) 2 (by decide) kw_236 rfl rfl dX5_suspect_29 ?_
      refine zt_aload_n hX 0 dX5_suspect_32 rfl rfl ?_
      refine zt_get_X5 hX (by decide) (zE_0 _ _) 0 (by decide) kw_234 rfl rfl dX5_suspect_33 ?_
      refine zt_iload_n hX 1 dX5_suspect_36 rfl rfl ?_
      refine zt_callvV hX hY (av := [.ref (n0 + 1), .int a1]) (c_X1_measureFamily hf) dX5_suspect_37 rfl kw_425 kw_426 kw_427 kw_64 kw_428 ⟨rfl, rfl⟩ hy_X1_measureFamily ⟨by decide, by decide⟩ ⟨by decide, by decide⟩ (Nat.le_of_ble_eq_true rfl) (by decide) (zE_29 _ _) rfl rfl (fun σ8 hf => ?_)
      refine zt_aload_n hX 0 dX5_suspect_40 rfl rfl ?_
      refine zt_get_X5 hX (by decide) (zE_0 _ _) 2 (by decide) kw_236 rfl rfl dX5_suspect_41 ?_
      refine zt_aload_n hX 0 dX5_suspect_44 rfl rfl ?_
      refine zt_get_X5 hX (by decide) (zE_0 _ _) 0 (by decide) kw_234 rfl rfl dX5_suspect_45 ?_
      refine zt_iload_n hX 1 dX5_suspect_48 rfl rfl ?_
      refine zt_calliV hX hY (av := [.ref (n0 + 1), .int a1]) (c_X1_findSuspect hf) dX5_suspect_49 rfl kw_541 kw_542 kw_543 kw_64 kw_544 ⟨rfl, rfl⟩ hy_X1_findSuspect ⟨by decide, by decide⟩ ⟨by decide, by decide⟩ (Nat.le_of_ble_eq_true rfl) (by decide) (zE_29 _ _) rfl rfl (fun r9 σ10 hf => ?_)
      exact zt_iret hX hY dX5_suspect_52 hf
    · replace hf := z_pos hf c6
      refine zt_ldc hX dX5_suspect_25 kw_329 ?_
      exact zt_iret hX hY dX5_suspect_27 hf
  · replace hf := z_pos hf c3
    refine zt_ldc hX dX5_suspect_11 kw_258 ?_
    exact zt_iret hX hY dX5_suspect_13 hf

theorem dX5_revise_0 : decode cX5_revise 0 = .ok (.aload_n 0, 1) := by decide +kernel
theorem dX5_revise_1 : decode cX5_revise 1 = .ok (.getfield 10, 3) := by decide +kernel
theorem dX5_revise_4 : decode cX5_revise 4 = .ok (.getfield 44, 3) := by decide +kernel
theorem dX5_revise_7 : decode cX5_revise 7 = .ok (.ifCond .ne 6, 3) := by decide +kernel
theorem dX5_revise_10 : decode cX5_revise 10 = .ok (.ldc 182, 2) := by decide +kernel
theorem dX5_revise_12 : decode cX5_revise 12 = .ok (.ireturn, 1) := by decide +kernel
theorem dX5_revise_13 : decode cX5_revise 13 = .ok (.aload_n 0, 1) := by decide +kernel
theorem dX5_revise_14 : decode cX5_revise 14 = .ok (.getfield 10, 3) := by decide +kernel
theorem dX5_revise_17 : decode cX5_revise 17 = .ok (.getfield 183, 3) := by decide +kernel
theorem dX5_revise_20 : decode cX5_revise 20 = .ok (.bipush 8, 2) := by decide +kernel
theorem dX5_revise_22 : decode cX5_revise 22 = .ok (.if_icmp .lt 6, 3) := by decide +kernel
theorem dX5_revise_25 : decode cX5_revise 25 = .ok (.ldc 53, 2) := by decide +kernel
theorem dX5_revise_27 : decode cX5_revise 27 = .ok (.ireturn, 1) := by decide +kernel
theorem dX5_revise_28 : decode cX5_revise 28 = .ok (.aload_n 0, 1) := by decide +kernel
theorem dX5_revise_29 : decode cX5_revise 29 = .ok (.getfield 19, 3) := by decide +kernel
theorem dX5_revise_32 : decode cX5_revise 32 = .ok (.aload_n 0, 1) := by decide +kernel
theorem dX5_revise_33 : decode cX5_revise 33 = .ok (.getfield 10, 3) := by decide +kernel
theorem dX5_revise_36 : decode cX5_revise 36 = .ok (.invokevirtual 54, 3) := by decide +kernel
theorem dX5_revise_39 : decode cX5_revise 39 = .ok (.aload_n 0, 1) := by decide +kernel
theorem dX5_revise_40 : decode cX5_revise 40 = .ok (.getfield 33, 3) := by decide +kernel
theorem dX5_revise_43 : decode cX5_revise 43 = .ok (.aload_n 0, 1) := by decide +kernel
theorem dX5_revise_44 : decode cX5_revise 44 = .ok (.getfield 10, 3) := by decide +kernel
theorem dX5_revise_47 : decode cX5_revise 47 = .ok (.aload_n 0, 1) := by decide +kernel
theorem dX5_revise_48 : decode cX5_revise 48 = .ok (.getfield 26, 3) := by decide +kernel
theorem dX5_revise_51 : decode cX5_revise 51 = .ok (.invokevirtual 142, 3) := by decide +kernel
theorem dX5_revise_54 : decode cX5_revise 54 = .ok (.aload_n 0, 1) := by decide +kernel
theorem dX5_revise_55 : decode cX5_revise 55 = .ok (.getfield 10, 3) := by decide +kernel
theorem dX5_revise_58 : decode cX5_revise 58 = .ok (.getfield 183, 3) := by decide +kernel
theorem dX5_revise_61 : decode cX5_revise 61 = .ok (.istore_n 1, 1) := by decide +kernel
theorem dX5_revise_62 : decode cX5_revise 62 = .ok (.iconst 0, 1) := by decide +kernel
theorem dX5_revise_63 : decode cX5_revise 63 = .ok (.istore_n 2, 1) := by decide +kernel
theorem dX5_revise_64 : decode cX5_revise 64 = .ok (.iload_n 2, 1) := by decide +kernel
theorem dX5_revise_65 : decode cX5_revise 65 = .ok (.bipush 10, 2) := by decide +kernel
theorem dX5_revise_67 : decode cX5_revise 67 = .ok (.if_icmp .ge 48, 3) := by decide +kernel
theorem dX5_revise_70 : decode cX5_revise 70 = .ok (.aload_n 0, 1) := by decide +kernel
theorem dX5_revise_71 : decode cX5_revise 71 = .ok (.getfield 10, 3) := by decide +kernel
theorem dX5_revise_74 : decode cX5_revise 74 = .ok (.getfield 186, 3) := by decide +kernel
theorem dX5_revise_77 : decode cX5_revise 77 = .ok (.iload_n 1, 1) := by decide +kernel
theorem dX5_revise_78 : decode cX5_revise 78 = .ok (.aaload, 1) := by decide +kernel
theorem dX5_revise_79 : decode cX5_revise 79 = .ok (.iload_n 2, 1) := by decide +kernel
theorem dX5_revise_80 : decode cX5_revise 80 = .ok (.aload_n 0, 1) := by decide +kernel
theorem dX5_revise_81 : decode cX5_revise 81 = .ok (.getfield 10, 3) := by decide +kernel
theorem dX5_revise_84 : decode cX5_revise 84 = .ok (.iload_n 2, 1) := by decide +kernel
theorem dX5_revise_85 : decode cX5_revise 85 = .ok (.invokevirtual 48, 3) := by decide +kernel
theorem dX5_revise_88 : decode cX5_revise 88 = .ok (.ifCond .eq 18, 3) := by decide +kernel
theorem dX5_revise_91 : decode cX5_revise 91 = .ok (.aload_n 0, 1) := by decide +kernel
theorem dX5_revise_92 : decode cX5_revise 92 = .ok (.getfield 33, 3) := by decide +kernel
theorem dX5_revise_95 : decode cX5_revise 95 = .ok (.getfield 146, 3) := by decide +kernel
theorem dX5_revise_98 : decode cX5_revise 98 = .ok (.iload_n 2, 1) := by decide +kernel
theorem dX5_revise_99 : decode cX5_revise 99 = .ok (.aaload, 1) := by decide +kernel
theorem dX5_revise_100 : decode cX5_revise 100 = .ok (.invokestatic 135, 3) := by decide +kernel
theorem dX5_revise_103 : decode cX5_revise 103 = .ok (.goto 5, 3) := by decide +kernel
theorem dX5_revise_106 : decode cX5_revise 106 = .ok (.ldc 104, 2) := by decide +kernel
theorem dX5_revise_108 : decode cX5_revise 108 = .ok (.iastore, 1) := by decide +kernel
theorem dX5_revise_109 : decode cX5_revise 109 = .ok (.iinc 2 1, 3) := by decide +kernel
theorem dX5_revise_112 : decode cX5_revise 112 = .ok (.goto (-48), 3) := by decide +kernel
theorem dX5_revise_115 : decode cX5_revise 115 = .ok (.aload_n 0, 1) := by decide +kernel
theorem dX5_revise_116 : decode cX5_revise 116 = .ok (.getfield 10, 3) := by decide +kernel
theorem dX5_revise_119 : decode cX5_revise 119 = .ok (.iload_n 1, 1) := by decide +kernel
theorem dX5_revise_120 : decode cX5_revise 120 = .ok (.iconst 1, 1) := by decide +kernel
theorem dX5_revise_121 : decode cX5_revise 121 = .ok (.iadd, 1) := by decide +kernel
theorem dX5_revise_122 : decode cX5_revise 122 = .ok (.putfield 183, 3) := by decide +kernel
theorem dX5_revise_125 : decode cX5_revise 125 = .ok (.iload_n 1, 1) := by decide +kernel
theorem dX5_revise_126 : decode cX5_revise 126 = .ok (.ireturn, 1) := by decide +kernel
abbrev rm_X5_revise : Room := { frames := 5, cells := 26, slots := 289, locals := 120 }
theorem hy_X5_revise : yX5_revise.cls ≠ "java/lang/invoke/MethodHandle" ∧ yX5_revise.cls ≠ "java/lang/invoke/VarHandle" ∧ (parseMethodDescriptor yX5_revise.desc).map (fun d => d.parameters.length) = some 0 := by decide +kernel
def w_X5_revise_108 (k64 : Int32 → Int32 → z_S → Prop) (Q : Int32 → z_S → Prop) (x1 : Int32) (x2 : Int32) (s0 : Int32) (s1 : Int32) (q2 : Nat) (σ : z_S) : Prop :=
  (q2 < 81 ∧ z_sh q2 = (10, 10)) ∧ vp_in s1 10 ∧ ∀ σ16 : z_S, σ16 = zs_i σ q2 s1.toNatClampNeg s0 → ∀ y17 : Int32, y17 = (x2 + (1 : Int32)) → k64 x1 y17 σ16
def wb_X5_revise_64  (Q : Int32 → z_S → Prop) (k64 : Int32 → Int32 → z_S → Prop) (x1 : Int32) (x2 : Int32) (σ : z_S) : Prop :=
  if (10 : Int32) ≤ x2 then (∀ σ9 : z_S, σ9 = zs_i σ 1 3 (x1 + (1 : Int32)) → Q x1 σ9) else (vp_in x1 8 ∧ w_X4_has x2 σ (fun r11 σ12 => if r11 = 0 then (w_X5_revise_108 k64 Q x1 x2 (-2000000000 : Int32) x2 (19 + x1.toNatClampNeg) σ12) else (vp_in x2 10 ∧ w_X5_sumOf (55 + x2.toNatClampNeg) σ12 (fun r19 σ20 => w_X5_revise_108 k64 Q x1 x2 r19 x2 (19 + x1.toNatClampNeg) σ20))))
def w_X5_revise_64  (Q : Int32 → z_S → Prop) : Nat → Int32 → Int32 → z_S → Prop
  | 0 => fun _ _ _ => False
  | n + 1 => wb_X5_revise_64  Q (w_X5_revise_64  Q n)
def w_X5_revise  (σ : z_S) (Q : Int32 → z_S → Prop) : Prop :=
  if (zg_i σ 1 0) = 0 then (Q (-2000000003 : Int32) σ) else (if (zg_i σ 1 3) < (8 : Int32) then (w_X2_push σ (fun σ4 => w_X0_fill σ4 (fun σ6 => ∀ y7 : Int32, y7 = (zg_i σ6 1 3) → w_X5_revise_64 Q 400 y7 (0 : Int32) σ6))) else (Q (-2000000004 : Int32) σ))
set_option maxHeartbeats 4000000 in
set_option maxRecDepth 100000 in
theorem t_X5_revise_108 {l : Launch} {D : va_G} {cI cJ cM cS : ClassId} {n0 : Nat} {p : Program} {e : Env} {s : State} {m : MethodId} {args : Array Value} {below : List Frame} {meth : Method} {c : Code} {k64 : Int32 → Int32 → z_S → Prop} {Q : Int32 → z_S → Prop} (hX : z_X D cI cJ cM cS p s m args c cX5_revise 3 yX5_revise.cls) (hY : z_Y s meth (some .int)) (hk64 : ∀ (x1 : Int32) (x2 : Int32) (σ : z_S), k64 x1 x2 σ → z_t D cI cJ cM cS n0 p l e rm_X5_revise s m args below meth c 3 (MQ below (va_Qi Q (fun u t => z_Bq D cI cJ cM cS n0 u t) (z_Ab n0)) args s 26 289 (z_Ab n0)) 26 289 64 [(0, .ref (n0 + 0)), (1, .int x1), (2, .int x2)] [] σ) (x1 : Int32) (x2 : Int32) (s0 : Int32) (s1 : Int32) (q2 : Nat) (σ : z_S) (hf : w_X5_revise_108 k64 Q x1 x2 s0 s1 q2 σ) : z_t D cI cJ cM cS n0 p l e rm_X5_revise s m args below meth c 3 (MQ below (va_Qi Q (fun u t => z_Bq D cI cJ cM cS n0 u t) (z_Ab n0)) args s 26 289 (z_Ab n0)) 26 289 108 [(0, .ref (n0 + 0)), (1, .int x1), (2, .int x2)] [.int s0, .int s1, .ref (n0 + q2)] σ := by
  unfold w_X5_revise_108 at hf
  obtain ⟨h15, hf⟩ := hf
  obtain ⟨h14, hf⟩ := hf
  refine zt_iastore hX dX5_revise_108 h15.1 h15.2 h14 ?_
  refine zt_nms (fun σ16 d16 => ?_)
  replace hf := hf σ16 d16
  obtain ⟨y17, e17⟩ : ∃ y : Int32, y = (x2 + (1 : Int32)) := ⟨_, rfl⟩
  replace hf := hf y17 e17
  refine zt_iinc (L' := [(2, .int y17), (0, .ref (n0 + 0)), (1, .int x1)]) hX 2 dX5_revise_109 rfl (v := y17) (by rw [e17]; rfl) (by decide) rfl ?_
  refine zt_goto hX dX5_revise_112 (tgt := 64) (by decide) ?_
  exact zt_sub [1, 2, 0] rfl (hk64 _ _ _ hf)
set_option maxHeartbeats 4000000 in
set_option maxRecDepth 100000 in
theorem t_X5_revise_64 {l : Launch} {D : va_G} {cI cJ cM cS : ClassId} {n0 : Nat} {p : Program} {e : Env} {s : State} {m : MethodId} {args : Array Value} {below : List Frame} {meth : Method} {c : Code}  {Q : Int32 → z_S → Prop} (hX : z_X D cI cJ cM cS p s m args c cX5_revise 3 yX5_revise.cls) (hY : z_Y s meth (some .int))  : ∀ (n : Nat) (x1 : Int32) (x2 : Int32) (σ : z_S), w_X5_revise_64  Q n x1 x2 σ → z_t D cI cJ cM cS n0 p l e rm_X5_revise s m args below meth c 3 (MQ below (va_Qi Q (fun u t => z_Bq D cI cJ cM cS n0 u t) (z_Ab n0)) args s 26 289 (z_Ab n0)) 26 289 64 [(0, .ref (n0 + 0)), (1, .int x1), (2, .int x2)] [] σ := by
  intro n
  induction n with
  | zero => intro _ _ _ hf; exact hf.elim
  | succ n ih64 =>
    intro x1 x2 σ hf
    have hf : wb_X5_revise_64  Q (w_X5_revise_64  Q n) x1 x2 σ := hf
    unfold wb_X5_revise_64 at hf
    refine zt_iload_n hX 2 dX5_revise_64 rfl rfl ?_
    refine zt_bipush hX dX5_revise_65 (v := (10 : Int32)) (by decide) ?_
    refine zt_icmp_ge hX dX5_revise_67 (tgt := 115) (by decide) (fun c8 => ?_) (fun c8 => ?_)
    · replace hf := z_pos hf c8
      refine zt_aload_n hX 0 dX5_revise_115 rfl rfl ?_
      refine zt_get_X5 hX (by decide) (zE_0 _ _) 0 (by decide) kw_234 rfl rfl dX5_revise_116 ?_
      refine zt_iload_n hX 1 dX5_revise_119 rfl rfl ?_
      refine zt_iconst hX dX5_revise_120 (v := (1 : Int32)) (by decide) ?_
      refine zt_iadd hX dX5_revise_121 ?_
      refine zt_puti_X4 hX (by decide) (zE_1 _ _) 3 (by decide) kw_98 rfl rfl (Nat.le_of_ble_eq_true rfl) rfl rfl dX5_revise_122 ?_
      refine zt_nms (fun σ9 d9 => ?_)
      replace hf := hf σ9 d9
      refine zt_iload_n hX 1 dX5_revise_125 rfl rfl ?_
      exact zt_iret hX hY dX5_revise_126 hf
    · replace hf := z_neg hf c8
      refine zt_aload_n hX 0 dX5_revise_70 rfl rfl ?_
      refine zt_get_X5 hX (by decide) (zE_0 _ _) 0 (by decide) kw_234 rfl rfl dX5_revise_71 ?_
      refine zt_get_X4 hX (by decide) (zE_1 _ _) 10 (by decide) kw_118 rfl rfl dX5_revise_74 ?_
      refine zt_iload_n hX 1 dX5_revise_77 rfl rfl ?_
      obtain ⟨h10, hf⟩ := hf
      refine zt_aaloadM hX dX5_revise_78 (by decide) rfl (k1 := 19) rfl h10 ?_
      refine zt_iload_n hX 2 dX5_revise_79 rfl rfl ?_
      refine zt_aload_n hX 0 dX5_revise_80 rfl rfl ?_
      refine zt_get_X5 hX (by decide) (zE_0 _ _) 0 (by decide) kw_234 rfl rfl dX5_revise_81 ?_
      refine zt_iload_n hX 2 dX5_revise_84 rfl rfl ?_
      refine zt_calliV hX hY (av := [.int x2]) (c_X4_has hf) dX5_revise_85 rfl kw_254 kw_255 kw_256 kw_62 kw_257 ⟨rfl, rfl⟩ hy_X4_has ⟨by decide, by decide⟩ ⟨by decide, by decide⟩ (Nat.le_of_ble_eq_true rfl) (by decide) (zE_1 _ _) rfl rfl (fun r11 σ12 hf => ?_)
      refine zt_if_eq hX dX5_revise_88 (tgt := 106) (by decide) (fun c13 => ?_) (fun c13 => ?_)
      · replace hf := z_pos hf c13
        refine zt_ldc hX dX5_revise_106 kw_329 ?_
        exact zt_sub [0, 1, 2] rfl (t_X5_revise_108 hX hY ih64 _ _ _ _ _ _ hf)
      · replace hf := z_neg hf c13
        refine zt_aload_n hX 0 dX5_revise_91 rfl rfl ?_
        refine zt_get_X5 hX (by decide) (zE_0 _ _) 3 (by decide) kw_237 rfl rfl dX5_revise_92 ?_
        refine zt_get_X0 hX (by decide) (zE_53 _ _) 0 (by decide) kw_187 rfl rfl dX5_revise_95 ?_
        refine zt_iload_n hX 2 dX5_revise_98 rfl rfl ?_
        obtain ⟨h18, hf⟩ := hf
        refine zt_aaloadM hX dX5_revise_99 (by decide) rfl (k1 := 55) rfl h18 ?_
        refine zt_calliS hX hY (av := [.ref (n0 + (55 + x2.toNatClampNeg))]) (c_X5_sumOf hf) dX5_revise_100 rfl kw_418 kw_419 kw_61 kw_420 ⟨rfl, rfl⟩ hy_X5_sumOf ⟨by decide, by decide⟩ ⟨by decide, by decide⟩ (Nat.le_of_ble_eq_true rfl) (fun r19 σ20 hf => ?_)
        refine zt_goto hX dX5_revise_103 (tgt := 108) (by decide) ?_
        exact zt_sub [0, 1, 2] rfl (t_X5_revise_108 hX hY ih64 _ _ _ _ _ _ hf)
set_option maxHeartbeats 4000000 in
set_option maxRecDepth 100000 in
theorem c_X5_revise {l : Launch} {D : va_G} {cI cJ cM cS : ClassId} {n0 : Nat}  {σ : z_S} {Q : Int32 → z_S → Prop} (hf : w_X5_revise  σ Q) : z_ci l D cI cJ cM cS n0 yX5_revise cX5_revise 3 .int rm_X5_revise 26 289 [.ref (n0 + 0)] σ Q := by
  refine z_ofi (by decide +kernel) (Nat.le_of_ble_eq_true rfl) (fun p e s m args below meth c hX hY => ?_)
  unfold w_X5_revise at hf
  refine zt_L (L' := [(0, .ref (n0 + 0))]) rfl ?_
  refine zt_aload_n hX 0 dX5_revise_0 rfl rfl ?_
  refine zt_get_X5 hX (by decide) (zE_0 _ _) 0 (by decide) kw_234 rfl rfl dX5_revise_1 ?_
  refine zt_get_X4 hX (by decide) (zE_1 _ _) 0 (by decide) kw_88 rfl rfl dX5_revise_4 ?_
  refine zt_if_ne hX dX5_revise_7 (tgt := 13) (by decide) (fun c1 => ?_) (fun c1 => ?_)
  · replace hf := z_neg hf c1
    refine zt_aload_n hX 0 dX5_revise_13 rfl rfl ?_
    refine zt_get_X5 hX (by decide) (zE_0 _ _) 0 (by decide) kw_234 rfl rfl dX5_revise_14 ?_
    refine zt_get_X4 hX (by decide) (zE_1 _ _) 3 (by decide) kw_98 rfl rfl dX5_revise_17 ?_
    refine zt_bipush hX dX5_revise_20 (v := (8 : Int32)) (by decide) ?_
    refine zt_icmp_lt hX dX5_revise_22 (tgt := 28) (by decide) (fun c2 => ?_) (fun c2 => ?_)
    · replace hf := z_pos hf c2
      refine zt_aload_n hX 0 dX5_revise_28 rfl rfl ?_
      refine zt_get_X5 hX (by decide) (zE_0 _ _) 1 (by decide) kw_235 rfl rfl dX5_revise_29 ?_
      refine zt_aload_n hX 0 dX5_revise_32 rfl rfl ?_
      refine zt_get_X5 hX (by decide) (zE_0 _ _) 0 (by decide) kw_234 rfl rfl dX5_revise_33 ?_
      refine zt_callvV hX hY (av := [.ref (n0 + 1)]) (c_X2_push hf) dX5_revise_36 rfl kw_260 kw_261 kw_262 kw_63 kw_263 ⟨rfl, rfl⟩ hy_X2_push ⟨by decide, by decide⟩ ⟨by decide, by decide⟩ (Nat.le_of_ble_eq_true rfl) (by decide) (zE_27 _ _) rfl rfl (fun σ4 hf => ?_)
      refine zt_aload_n hX 0 dX5_revise_39 rfl rfl ?_
      refine zt_get_X5 hX (by decide) (zE_0 _ _) 3 (by decide) kw_237 rfl rfl dX5_revise_40 ?_
      refine zt_aload_n hX 0 dX5_revise_43 rfl rfl ?_
      refine zt_get_X5 hX (by decide) (zE_0 _ _) 0 (by decide) kw_234 rfl rfl dX5_revise_44 ?_
      refine zt_aload_n hX 0 dX5_revise_47 rfl rfl ?_
      refine zt_get_X5 hX (by decide) (zE_0 _ _) 2 (by decide) kw_236 rfl rfl dX5_revise_48 ?_
      refine zt_callvV hX hY (av := [.ref (n0 + 1), .ref (n0 + 29)]) (c_X0_fill hf) dX5_revise_51 rfl kw_434 kw_435 kw_436 kw_65 kw_437 ⟨rfl, rfl⟩ hy_X0_fill ⟨by decide, by decide⟩ ⟨by decide, by decide⟩ (Nat.le_of_ble_eq_true rfl) (by decide) (zE_53 _ _) rfl rfl (fun σ6 hf => ?_)
      refine zt_aload_n hX 0 dX5_revise_54 rfl rfl ?_
      refine zt_get_X5 hX (by decide) (zE_0 _ _) 0 (by decide) kw_234 rfl rfl dX5_revise_55 ?_
      refine zt_get_X4 hX (by decide) (zE_1 _ _) 3 (by decide) kw_98 rfl rfl dX5_revise_58 ?_
      refine zt_nmi (fun y7 e7 => ?_)
      replace hf := hf y7 e7
      refine zt_istore_n (L' := [(1, .int y7), (0, .ref (n0 + 0))]) hX dX5_revise_61 rfl (by decide) rfl ?_
      refine zt_iconst hX dX5_revise_62 (v := (0 : Int32)) (by decide) ?_
      refine zt_istore_n (L' := [(2, .int (0 : Int32)), (1, .int y7), (0, .ref (n0 + 0))]) hX dX5_revise_63 rfl (by decide) rfl ?_
      exact zt_sub [2, 1, 0] rfl (t_X5_revise_64 hX hY 400 _ _ _ hf)
    · replace hf := z_neg hf c2
      refine zt_ldc hX dX5_revise_25 kw_259 ?_
      refine zt_widen (c1 := 26) (s1 := 289) (by decide) (by decide) ?_
      exact zt_iret hX hY dX5_revise_27 hf
  · replace hf := z_pos hf c1
    refine zt_ldc hX dX5_revise_10 kw_552 ?_
    refine zt_widen (c1 := 26) (s1 := 289) (by decide) (by decide) ?_
    exact zt_iret hX hY dX5_revise_12 hf
