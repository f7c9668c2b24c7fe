theorem dX6_statusOf_0 : decode cX6_statusOf 0 = .ok (.aload_n 0, 1) := by decide +kernel
theorem dX6_statusOf_1 : decode cX6_statusOf 1 = .ok (.iload_n 1, 1) := by decide +kernel
theorem dX6_statusOf_2 : decode cX6_statusOf 2 = .ok (.iload_n 2, 1) := by decide +kernel
theorem dX6_statusOf_3 : decode cX6_statusOf 3 = .ok (.invokevirtual 95, 3) := by decide +kernel
theorem dX6_statusOf_6 : decode cX6_statusOf 6 = .ok (.istore_n 3, 1) := by decide +kernel
theorem dX6_statusOf_7 : decode cX6_statusOf 7 = .ok (.iload_n 3, 1) := by decide +kernel
theorem dX6_statusOf_8 : decode cX6_statusOf 8 = .ok (.ldc 48, 2) := by decide +kernel
theorem dX6_statusOf_10 : decode cX6_statusOf 10 = .ok (.if_icmp .ne 5, 3) := by decide +kernel
theorem dX6_statusOf_13 : decode cX6_statusOf 13 = .ok (.iconst 1, 1) := by decide +kernel
theorem dX6_statusOf_14 : decode cX6_statusOf 14 = .ok (.ireturn, 1) := by decide +kernel
theorem dX6_statusOf_15 : decode cX6_statusOf 15 = .ok (.iload_n 3, 1) := by decide +kernel
theorem dX6_statusOf_16 : decode cX6_statusOf 16 = .ok (.aload_n 0, 1) := by decide +kernel
theorem dX6_statusOf_17 : decode cX6_statusOf 17 = .ok (.iload_n 1, 1) := by decide +kernel
theorem dX6_statusOf_18 : decode cX6_statusOf 18 = .ok (.iconst 3, 1) := by decide +kernel
theorem dX6_statusOf_19 : decode cX6_statusOf 19 = .ok (.invokevirtual 44, 3) := by decide +kernel
theorem dX6_statusOf_22 : decode cX6_statusOf 22 = .ok (.if_icmp .le 5, 3) := by decide +kernel
theorem dX6_statusOf_25 : decode cX6_statusOf 25 = .ok (.iconst 2, 1) := by decide +kernel
theorem dX6_statusOf_26 : decode cX6_statusOf 26 = .ok (.ireturn, 1) := by decide +kernel
theorem dX6_statusOf_27 : decode cX6_statusOf 27 = .ok (.aload_n 0, 1) := by decide +kernel
theorem dX6_statusOf_28 : decode cX6_statusOf 28 = .ok (.iload_n 1, 1) := by decide +kernel
theorem dX6_statusOf_29 : decode cX6_statusOf 29 = .ok (.iload_n 2, 1) := by decide +kernel
theorem dX6_statusOf_30 : decode cX6_statusOf 30 = .ok (.iconst 1, 1) := by decide +kernel
theorem dX6_statusOf_31 : decode cX6_statusOf 31 = .ok (.isub, 1) := by decide +kernel
theorem dX6_statusOf_32 : decode cX6_statusOf 32 = .ok (.invokevirtual 98, 3) := by decide +kernel
theorem dX6_statusOf_35 : decode cX6_statusOf 35 = .ok (.ifCond .eq 20, 3) := by decide +kernel
theorem dX6_statusOf_38 : decode cX6_statusOf 38 = .ok (.aload_n 0, 1) := by decide +kernel
theorem dX6_statusOf_39 : decode cX6_statusOf 39 = .ok (.iload_n 1, 1) := by decide +kernel
theorem dX6_statusOf_40 : decode cX6_statusOf 40 = .ok (.iload_n 2, 1) := by decide +kernel
theorem dX6_statusOf_41 : decode cX6_statusOf 41 = .ok (.iconst 1, 1) := by decide +kernel
theorem dX6_statusOf_42 : decode cX6_statusOf 42 = .ok (.iadd, 1) := by decide +kernel
theorem dX6_statusOf_43 : decode cX6_statusOf 43 = .ok (.invokevirtual 98, 3) := by decide +kernel
theorem dX6_statusOf_46 : decode cX6_statusOf 46 = .ok (.ifCond .eq 9, 3) := by decide +kernel
theorem dX6_statusOf_49 : decode cX6_statusOf 49 = .ok (.iload_n 3, 1) := by decide +kernel
theorem dX6_statusOf_50 : decode cX6_statusOf 50 = .ok (.bipush 10, 2) := by decide +kernel
theorem dX6_statusOf_52 : decode cX6_statusOf 52 = .ok (.if_icmp .ge 5, 3) := by decide +kernel
theorem dX6_statusOf_55 : decode cX6_statusOf 55 = .ok (.iconst 0, 1) := by decide +kernel
theorem dX6_statusOf_56 : decode cX6_statusOf 56 = .ok (.ireturn, 1) := by decide +kernel
theorem dX6_statusOf_57 : decode cX6_statusOf 57 = .ok (.iload_n 3, 1) := by decide +kernel
theorem dX6_statusOf_58 : decode cX6_statusOf 58 = .ok (.aload_n 0, 1) := by decide +kernel
theorem dX6_statusOf_59 : decode cX6_statusOf 59 = .ok (.getfield 7, 3) := by decide +kernel
theorem dX6_statusOf_62 : decode cX6_statusOf 62 = .ok (.iconst 1, 1) := by decide +kernel
theorem dX6_statusOf_63 : decode cX6_statusOf 63 = .ok (.iaload, 1) := by decide +kernel
theorem dX6_statusOf_64 : decode cX6_statusOf 64 = .ok (.aload_n 0, 1) := by decide +kernel
theorem dX6_statusOf_65 : decode cX6_statusOf 65 = .ok (.iload_n 1, 1) := by decide +kernel
theorem dX6_statusOf_66 : decode cX6_statusOf 66 = .ok (.iload_n 2, 1) := by decide +kernel
theorem dX6_statusOf_67 : decode cX6_statusOf 67 = .ok (.iconst 1, 1) := by decide +kernel
theorem dX6_statusOf_68 : decode cX6_statusOf 68 = .ok (.isub, 1) := by decide +kernel
theorem dX6_statusOf_69 : decode cX6_statusOf 69 = .ok (.invokevirtual 95, 3) := by decide +kernel
theorem dX6_statusOf_72 : decode cX6_statusOf 72 = .ok (.imul, 1) := by decide +kernel
theorem dX6_statusOf_73 : decode cX6_statusOf 73 = .ok (.if_icmp .le 26, 3) := by decide +kernel
theorem dX6_statusOf_76 : decode cX6_statusOf 76 = .ok (.iload_n 3, 1) := by decide +kernel
theorem dX6_statusOf_77 : decode cX6_statusOf 77 = .ok (.aload_n 0, 1) := by decide +kernel
theorem dX6_statusOf_78 : decode cX6_statusOf 78 = .ok (.getfield 7, 3) := by decide +kernel
theorem dX6_statusOf_81 : decode cX6_statusOf 81 = .ok (.iconst 1, 1) := by decide +kernel
theorem dX6_statusOf_82 : decode cX6_statusOf 82 = .ok (.iaload, 1) := by decide +kernel
theorem dX6_statusOf_83 : decode cX6_statusOf 83 = .ok (.aload_n 0, 1) := by decide +kernel
theorem dX6_statusOf_84 : decode cX6_statusOf 84 = .ok (.iload_n 1, 1) := by decide +kernel
theorem dX6_statusOf_85 : decode cX6_statusOf 85 = .ok (.iload_n 2, 1) := by decide +kernel
theorem dX6_statusOf_86 : decode cX6_statusOf 86 = .ok (.iconst 1, 1) := by decide +kernel
theorem dX6_statusOf_87 : decode cX6_statusOf 87 = .ok (.iadd, 1) := by decide +kernel
theorem dX6_statusOf_88 : decode cX6_statusOf 88 = .ok (.invokevirtual 95, 3) := by decide +kernel
theorem dX6_statusOf_91 : decode cX6_statusOf 91 = .ok (.imul, 1) := by decide +kernel
theorem dX6_statusOf_92 : decode cX6_statusOf 92 = .ok (.if_icmp .le 7, 3) := by decide +kernel
theorem dX6_statusOf_95 : decode cX6_statusOf 95 = .ok (.iconst 3, 1) := by decide +kernel
theorem dX6_statusOf_96 : decode cX6_statusOf 96 = .ok (.goto 4, 3) := by decide +kernel
theorem dX6_statusOf_99 : decode cX6_statusOf 99 = .ok (.iconst 0, 1) := by decide +kernel
theorem dX6_statusOf_100 : decode cX6_statusOf 100 = .ok (.ireturn, 1) := by decide +kernel
abbrev rm_X6_statusOf : Room := { frames := 5, cells := 0, slots := 0, locals := 114 }
theorem hy_X6_statusOf : yX6_statusOf.cls ≠ "java/lang/invoke/MethodHandle" ∧ yX6_statusOf.cls ≠ "java/lang/invoke/VarHandle" ∧ (parseMethodDescriptor yX6_statusOf.desc).map (fun d => d.parameters.length) = some 2 := by decide +kernel
def w_X6_statusOf (a1 : Int32) (a2 : Int32) (σ : z_S) (Q : Int32 → z_S → Prop) : Prop :=
  w_X6_rawOf a1 a2 σ (fun r1 σ2 => if r1 = (-2000000000 : Int32) then (Q (1 : Int32) σ2) else (w_X6_of a1 (3 : Int32) σ2 (fun r4 σ5 => if r1 ≤ r4 then (w_X6_isModest a1 (a2 - (1 : Int32)) σ5 (fun r7 σ8 => if r7 = 0 then (Q (0 : Int32) σ8) else (w_X6_isModest a1 (a2 + (1 : Int32)) σ8 (fun r10 σ11 => if r10 = 0 then (Q (0 : Int32) σ11) else (if (10 : Int32) ≤ r1 then (vp_in (1 : Int32) 1584 ∧ w_X6_rawOf a1 (a2 - (1 : Int32)) σ11 (fun r15 σ16 => if r1 ≤ ((zg_i σ11 74 (1 : Int32).toNatClampNeg) * r15) then (Q (0 : Int32) σ16) else (vp_in (1 : Int32) 1584 ∧ w_X6_rawOf a1 (a2 + (1 : Int32)) σ16 (fun r19 σ20 => if r1 ≤ ((zg_i σ16 74 (1 : Int32).toNatClampNeg) * r19) then (Q (0 : Int32) σ20) else (Q (3 : Int32) σ20))))) else (Q (0 : Int32) σ11)))))) else (Q (2 : Int32) σ5))))
set_option maxHeartbeats 4000000 in
set_option maxRecDepth 100000 in
theorem c_X6_statusOf {l : Launch} {D : va_G} {cI cJ cM cS : ClassId} {n0 : Nat} {a1 : Int32} {a2 : Int32} {σ : z_S} {Q : Int32 → z_S → Prop} (hf : w_X6_statusOf a1 a2 σ Q) : z_ci l D cI cJ cM cS n0 yX6_statusOf cX6_statusOf 4 .int rm_X6_statusOf 0 0 [.ref (n0 + 73), .int a1, .int a2] σ Q := by
  refine z_ofi (by decide +kernel) (Nat.le_of_ble_eq_true rfl) (fun p e s m args below meth c hX hY => ?_)
  unfold w_X6_statusOf at hf
  refine zt_L (L' := [(0, .ref (n0 + 73)), (1, .int a1), (2, .int a2)]) rfl ?_
  refine zt_aload_n hX 0 dX6_statusOf_0 rfl rfl ?_
  refine zt_iload_n hX 1 dX6_statusOf_1 rfl rfl ?_
  refine zt_iload_n hX 2 dX6_statusOf_2 rfl rfl ?_
  refine zt_calliV hX hY (av := [.int a1, .int a2]) (c_X6_rawOf hf) dX6_statusOf_3 rfl kw_806 kw_808 kw_34 kw_67 kw_809 ⟨rfl, rfl⟩ hy_X6_rawOf ⟨by decide, by decide⟩ ⟨by decide, by decide⟩ (Nat.le_of_ble_eq_true rfl) (by decide) (zE_73 _ _) rfl rfl (fun r1 σ2 hf => ?_)
  refine zt_istore_n (L' := [(3, .int r1), (0, .ref (n0 + 73)), (1, .int a1), (2, .int a2)]) hX dX6_statusOf_6 rfl (by decide) rfl ?_
  refine zt_iload_n hX 0 dX6_statusOf_7 rfl rfl ?_
  refine zt_ldc hX dX6_statusOf_8 kw_715 ?_
  refine zt_icmp_ne hX dX6_statusOf_10 (tgt := 15) (by decide) (fun c3 => ?_) (fun c3 => ?_)
  · replace hf := z_neg hf c3
    refine zt_iload_n hX 0 dX6_statusOf_15 rfl rfl ?_
    refine zt_aload_n hX 1 dX6_statusOf_16 rfl rfl ?_
    refine zt_iload_n hX 2 dX6_statusOf_17 rfl rfl ?_
    refine zt_iconst hX dX6_statusOf_18 (v := (3 : Int32)) (by decide) ?_
    refine zt_calliV hX hY (av := [.int a1, .int (3 : Int32)]) (c_X6_of hf) dX6_statusOf_19 rfl kw_729 kw_731 kw_25 kw_67 kw_732 ⟨rfl, rfl⟩ hy_X6_of ⟨by decide, by decide⟩ ⟨by decide, by decide⟩ (Nat.le_of_ble_eq_true rfl) (by decide) (zE_73 _ _) rfl rfl (fun r4 σ5 hf => ?_)
    refine zt_icmp_le hX dX6_statusOf_22 (tgt := 27) (by decide) (fun c6 => ?_) (fun c6 => ?_)
    · replace hf := z_pos hf c6
      refine zt_aload_n hX 1 dX6_statusOf_27 rfl rfl ?_
      refine zt_iload_n hX 2 dX6_statusOf_28 rfl rfl ?_
      refine zt_iload_n hX 3 dX6_statusOf_29 rfl rfl ?_
      refine zt_iconst hX dX6_statusOf_30 (v := (1 : Int32)) (by decide) ?_
      refine zt_isub hX dX6_statusOf_31 ?_
      refine zt_calliV hX hY (av := [.int a1, .int (a2 - (1 : Int32))]) (c_X6_isModest hf) dX6_statusOf_32 rfl kw_822 kw_824 kw_37 kw_67 kw_825 ⟨rfl, rfl⟩ hy_X6_isModest ⟨by decide, by decide⟩ ⟨by decide, by decide⟩ (Nat.le_of_ble_eq_true rfl) (by decide) (zE_73 _ _) rfl rfl (fun r7 σ8 hf => ?_)
      refine zt_if_eq hX dX6_statusOf_35 (tgt := 55) (by decide) (fun c9 => ?_) (fun c9 => ?_)
      · replace hf := z_pos hf c9
        refine zt_iconst hX dX6_statusOf_55 (v := (0 : Int32)) (by decide) ?_
        exact zt_iret hX hY dX6_statusOf_56 hf
      · replace hf := z_neg hf c9
        refine zt_aload_n hX 1 dX6_statusOf_38 rfl rfl ?_
        refine zt_iload_n hX 2 dX6_statusOf_39 rfl rfl ?_
        refine zt_iload_n hX 3 dX6_statusOf_40 rfl rfl ?_
        refine zt_iconst hX dX6_statusOf_41 (v := (1 : Int32)) (by decide) ?_
        refine zt_iadd hX dX6_statusOf_42 ?_
        refine zt_calliV hX hY (av := [.int a1, .int (a2 + (1 : Int32))]) (c_X6_isModest hf) dX6_statusOf_43 rfl kw_822 kw_824 kw_37 kw_67 kw_825 ⟨rfl, rfl⟩ hy_X6_isModest ⟨by decide, by decide⟩ ⟨by decide, by decide⟩ (Nat.le_of_ble_eq_true rfl) (by decide) (zE_73 _ _) rfl rfl (fun r10 σ11 hf => ?_)
        refine zt_if_eq hX dX6_statusOf_46 (tgt := 55) (by decide) (fun c12 => ?_) (fun c12 => ?_)
        · replace hf := z_pos hf c12
          refine zt_iconst hX dX6_statusOf_55 (v := (0 : Int32)) (by decide) ?_
          exact zt_iret hX hY dX6_statusOf_56 hf
        · replace hf := z_neg hf c12
          refine zt_iload_n hX 0 dX6_statusOf_49 rfl rfl ?_
          refine zt_bipush hX dX6_statusOf_50 (v := (10 : Int32)) (by decide) ?_
          refine zt_icmp_ge hX dX6_statusOf_52 (tgt := 57) (by decide) (fun c13 => ?_) (fun c13 => ?_)
          · replace hf := z_pos hf c13
            refine zt_iload_n hX 0 dX6_statusOf_57 rfl rfl ?_
            refine zt_aload_n hX 1 dX6_statusOf_58 rfl rfl ?_
            refine zt_get_X6 hX (by decide) (zE_73 _ _) 0 (by decide) kw_654 rfl rfl dX6_statusOf_59 ?_
            refine zt_iconst hX dX6_statusOf_62 (v := (1 : Int32)) (by decide) ?_
            obtain ⟨h14, hf⟩ := hf
            refine zt_iaload hX dX6_statusOf_63 (by decide) rfl h14 ?_
            refine zt_aload_n hX 1 dX6_statusOf_64 rfl rfl ?_
            refine zt_iload_n hX 2 dX6_statusOf_65 rfl rfl ?_
            refine zt_iload_n hX 3 dX6_statusOf_66 rfl rfl ?_
            refine zt_iconst hX dX6_statusOf_67 (v := (1 : Int32)) (by decide) ?_
            refine zt_isub hX dX6_statusOf_68 ?_
            refine zt_calliV hX hY (av := [.int a1, .int (a2 - (1 : Int32))]) (c_X6_rawOf hf) dX6_statusOf_69 rfl kw_806 kw_808 kw_34 kw_67 kw_809 ⟨rfl, rfl⟩ hy_X6_rawOf ⟨by decide, by decide⟩ ⟨by decide, by decide⟩ (Nat.le_of_ble_eq_true rfl) (by decide) (zE_73 _ _) rfl rfl (fun r15 σ16 hf => ?_)
            refine zt_imul hX dX6_statusOf_72 ?_
            refine zt_icmp_le hX dX6_statusOf_73 (tgt := 99) (by decide) (fun c17 => ?_) (fun c17 => ?_)
            · replace hf := z_pos hf c17
              refine zt_iconst hX dX6_statusOf_99 (v := (0 : Int32)) (by decide) ?_
              exact zt_iret hX hY dX6_statusOf_100 hf
            · replace hf := z_neg hf c17
              refine zt_iload_n hX 0 dX6_statusOf_76 rfl rfl ?_
              refine zt_aload_n hX 1 dX6_statusOf_77 rfl rfl ?_
              refine zt_get_X6 hX (by decide) (zE_73 _ _) 0 (by decide) kw_654 rfl rfl dX6_statusOf_78 ?_
              refine zt_iconst hX dX6_statusOf_81 (v := (1 : Int32)) (by decide) ?_
              obtain ⟨h18, hf⟩ := hf
              refine zt_iaload hX dX6_statusOf_82 (by decide) rfl h18 ?_
              refine zt_aload_n hX 1 dX6_statusOf_83 rfl rfl ?_
              refine zt_iload_n hX 2 dX6_statusOf_84 rfl rfl ?_
              refine zt_iload_n hX 3 dX6_statusOf_85 rfl rfl ?_
              refine zt_iconst hX dX6_statusOf_86 (v := (1 : Int32)) (by decide) ?_
              refine zt_iadd hX dX6_statusOf_87 ?_
              refine zt_calliV hX hY (av := [.int a1, .int (a2 + (1 : Int32))]) (c_X6_rawOf hf) dX6_statusOf_88 rfl kw_806 kw_808 kw_34 kw_67 kw_809 ⟨rfl, rfl⟩ hy_X6_rawOf ⟨by decide, by decide⟩ ⟨by decide, by decide⟩ (Nat.le_of_ble_eq_true rfl) (by decide) (zE_73 _ _) rfl rfl (fun r19 σ20 hf => ?_)
              refine zt_imul hX dX6_statusOf_91 ?_
              refine zt_icmp_le hX dX6_statusOf_92 (tgt := 99) (by decide) (fun c21 => ?_) (fun c21 => ?_)
              · replace hf := z_pos hf c21
                refine zt_iconst hX dX6_statusOf_99 (v := (0 : Int32)) (by decide) ?_
                exact zt_iret hX hY dX6_statusOf_100 hf
              · replace hf := z_neg hf c21
                refine zt_iconst hX dX6_statusOf_95 (v := (3 : Int32)) (by decide) ?_
                refine zt_goto hX dX6_statusOf_96 (tgt := 100) (by decide) ?_
                exact zt_iret hX hY dX6_statusOf_100 hf
          · replace hf := z_neg hf c13
            refine zt_iconst hX dX6_statusOf_55 (v := (0 : Int32)) (by decide) ?_
            exact zt_iret hX hY dX6_statusOf_56 hf
    · replace hf := z_neg hf c6
      refine zt_iconst hX dX6_statusOf_25 (v := (2 : Int32)) (by decide) ?_
      exact zt_iret hX hY dX6_statusOf_26 hf
  · replace hf := z_pos hf c3
    refine zt_iconst hX dX6_statusOf_13 (v := (1 : Int32)) (by decide) ?_
    exact zt_iret hX hY dX6_statusOf_14 hf

theorem dX6_isInterval_0 : decode cX6_isInterval 0 = .ok (.aload_n 0, 1) := by decide +kernel
theorem dX6_isInterval_1 : decode cX6_isInterval 1 = .ok (.iload_n 1, 1) := by decide +kernel
theorem dX6_isInterval_2 : decode cX6_isInterval 2 = .ok (.invokevirtual 53, 3) := by decide +kernel
theorem dX6_isInterval_5 : decode cX6_isInterval 5 = .ok (.ifCond .eq 17, 3) := by decide +kernel
theorem dX6_isInterval_8 : decode cX6_isInterval 8 = .ok (.iload_n 2, 1) := by decide +kernel
theorem dX6_isInterval_9 : decode cX6_isInterval 9 = .ok (.iconst 0, 1) := by decide +kernel
theorem dX6_isInterval_10 : decode cX6_isInterval 10 = .ok (.bipush 11, 2) := by decide +kernel
theorem dX6_isInterval_12 : decode cX6_isInterval 12 = .ok (.invokestatic 40, 3) := by decide +kernel
theorem dX6_isInterval_15 : decode cX6_isInterval 15 = .ok (.ifCond .eq 7, 3) := by decide +kernel
theorem dX6_isInterval_18 : decode cX6_isInterval 18 = .ok (.iconst 1, 1) := by decide +kernel
theorem dX6_isInterval_19 : decode cX6_isInterval 19 = .ok (.goto 4, 3) := by decide +kernel
theorem dX6_isInterval_22 : decode cX6_isInterval 22 = .ok (.iconst 0, 1) := by decide +kernel
theorem dX6_isInterval_23 : decode cX6_isInterval 23 = .ok (.ireturn, 1) := by decide +kernel
abbrev rm_X6_isInterval : Room := { frames := 2, cells := 0, slots := 0, locals := 43 }
theorem hy_X6_isInterval : yX6_isInterval.cls ≠ "java/lang/invoke/MethodHandle" ∧ yX6_isInterval.cls ≠ "java/lang/invoke/VarHandle" ∧ (parseMethodDescriptor yX6_isInterval.desc).map (fun d => d.parameters.length) = some 2 := by decide +kernel
def w_X6_isInterval (a1 : Int32) (a2 : Int32) (σ : z_S) (Q : Int32 → z_S → Prop) : Prop :=
  w_X6_isMeter a1 σ (fun r1 σ2 => if r1 = 0 then (((0 : Int32) = 0 ∨ (0 : Int32) = 1) ∧ Q (0 : Int32) σ2) else (w_X6_in a2 (0 : Int32) (11 : Int32) σ2 (fun r4 σ5 => if r4 = 0 then (((0 : Int32) = 0 ∨ (0 : Int32) = 1) ∧ Q (0 : Int32) σ5) else (((1 : Int32) = 0 ∨ (1 : Int32) = 1) ∧ Q (1 : Int32) σ5))))
set_option maxHeartbeats 4000000 in
set_option maxRecDepth 100000 in
theorem c_X6_isInterval {l : Launch} {D : va_G} {cI cJ cM cS : ClassId} {n0 : Nat} {a1 : Int32} {a2 : Int32} {σ : z_S} {Q : Int32 → z_S → Prop} (hf : w_X6_isInterval a1 a2 σ Q) : z_ci l D cI cJ cM cS n0 yX6_isInterval cX6_isInterval 3 .boolean rm_X6_isInterval 0 0 [.ref (n0 + 73), .int a1, .int a2] σ Q := by
  refine z_ofi (by decide +kernel) (Nat.le_of_ble_eq_true rfl) (fun p e s m args below meth c hX hY => ?_)
  unfold w_X6_isInterval at hf
  refine zt_L (L' := [(0, .ref (n0 + 73)), (1, .int a1), (2, .int a2)]) rfl ?_
  refine zt_aload_n hX 0 dX6_isInterval_0 rfl rfl ?_
  refine zt_iload_n hX 1 dX6_isInterval_1 rfl rfl ?_
  refine zt_calliV hX hY (av := [.int a1]) (c_X6_isMeter hf) dX6_isInterval_2 rfl kw_698 kw_700 kw_20 kw_67 kw_701 ⟨rfl, rfl⟩ hy_X6_isMeter ⟨by decide, by decide⟩ ⟨by decide, by decide⟩ (Nat.le_of_ble_eq_true rfl) (by decide) (zE_73 _ _) rfl rfl (fun r1 σ2 hf => ?_)
  refine zt_if_eq hX dX6_isInterval_5 (tgt := 22) (by decide) (fun c3 => ?_) (fun c3 => ?_)
  · replace hf := z_pos hf c3
    refine zt_iconst hX dX6_isInterval_22 (v := (0 : Int32)) (by decide) ?_
    exact zt_zret hX hY dX6_isInterval_23 hf
  · replace hf := z_neg hf c3
    refine zt_iload_n hX 2 dX6_isInterval_8 rfl rfl ?_
    refine zt_iconst hX dX6_isInterval_9 (v := (0 : Int32)) (by decide) ?_
    refine zt_bipush hX dX6_isInterval_10 (v := (11 : Int32)) (by decide) ?_
    refine zt_calliS hX hY (av := [.int a2, .int (0 : Int32), .int (11 : Int32)]) (c_X6_in hf) dX6_isInterval_12 rfl kw_702 kw_703 kw_67 kw_704 ⟨rfl, rfl⟩ hy_X6_in ⟨by decide, by decide⟩ ⟨by decide, by decide⟩ (Nat.le_of_ble_eq_true rfl) (fun r4 σ5 hf => ?_)
    refine zt_if_eq hX dX6_isInterval_15 (tgt := 22) (by decide) (fun c6 => ?_) (fun c6 => ?_)
    · replace hf := z_pos hf c6
      refine zt_iconst hX dX6_isInterval_22 (v := (0 : Int32)) (by decide) ?_
      exact zt_zret hX hY dX6_isInterval_23 hf
    · replace hf := z_neg hf c6
      refine zt_iconst hX dX6_isInterval_18 (v := (1 : Int32)) (by decide) ?_
      refine zt_goto hX dX6_isInterval_19 (tgt := 23) (by decide) ?_
      exact zt_zret hX hY dX6_isInterval_23 hf

theorem dX6_raw_0 : decode cX6_raw 0 = .ok (.aload_n 0, 1) := by decide +kernel
theorem dX6_raw_1 : decode cX6_raw 1 = .ok (.iload_n 1, 1) := by decide +kernel
theorem dX6_raw_2 : decode cX6_raw 2 = .ok (.iload_n 2, 1) := by decide +kernel
theorem dX6_raw_3 : decode cX6_raw 3 = .ok (.invokevirtual 101, 3) := by decide +kernel
theorem dX6_raw_6 : decode cX6_raw 6 = .ok (.ifCond .eq 12, 3) := by decide +kernel
theorem dX6_raw_9 : decode cX6_raw 9 = .ok (.aload_n 0, 1) := by decide +kernel
theorem dX6_raw_10 : decode cX6_raw 10 = .ok (.iload_n 1, 1) := by decide +kernel
theorem dX6_raw_11 : decode cX6_raw 11 = .ok (.iload_n 2, 1) := by decide +kernel
theorem dX6_raw_12 : decode cX6_raw 12 = .ok (.invokevirtual 95, 3) := by decide +kernel
theorem dX6_raw_15 : decode cX6_raw 15 = .ok (.goto 5, 3) := by decide +kernel
theorem dX6_raw_18 : decode cX6_raw 18 = .ok (.ldc 57, 2) := by decide +kernel
theorem dX6_raw_20 : decode cX6_raw 20 = .ok (.ireturn, 1) := by decide +kernel
abbrev rm_X6_raw : Room := { frames := 4, cells := 0, slots := 0, locals := 92 }
theorem hy_X6_raw : yX6_raw.cls ≠ "java/lang/invoke/MethodHandle" ∧ yX6_raw.cls ≠ "java/lang/invoke/VarHandle" ∧ (parseMethodDescriptor yX6_raw.desc).map (fun d => d.parameters.length) = some 2 := by decide +kernel
def w_X6_raw (a1 : Int32) (a2 : Int32) (σ : z_S) (Q : Int32 → z_S → Prop) : Prop :=
  w_X6_isInterval a1 a2 σ (fun r1 σ2 => if r1 = 0 then (Q (-2000000001 : Int32) σ2) else (w_X6_rawOf a1 a2 σ2 (fun r4 σ5 => Q r4 σ5)))
set_option maxHeartbeats 4000000 in
set_option maxRecDepth 100000 in
theorem c_X6_raw {l : Launch} {D : va_G} {cI cJ cM cS : ClassId} {n0 : Nat} {a1 : Int32} {a2 : Int32} {σ : z_S} {Q : Int32 → z_S → Prop} (hf : w_X6_raw a1 a2 σ Q) : z_ci l D cI cJ cM cS n0 yX6_raw cX6_raw 3 .int rm_X6_raw 0 0 [.ref (n0 + 73), .int a1, .int a2] σ Q := by
  refine z_ofi (by decide +kernel) (Nat.le_of_ble_eq_true rfl) (fun p e s m args below meth c hX hY => ?_)
  unfold w_X6_raw at hf
  refine zt_L (L' := [(0, .ref (n0 + 73)), (1, .int a1), (2, .int a2)]) rfl ?_
  refine zt_aload_n hX 0 dX6_raw_0 rfl rfl ?_
  refine zt_iload_n hX 1 dX6_raw_1 rfl rfl ?_
  refine zt_iload_n hX 2 dX6_raw_2 rfl rfl ?_
  refine zt_calliV hX hY (av := [.int a1, .int a2]) (c_X6_isInterval hf) dX6_raw_3 rfl kw_802 kw_804 kw_33 kw_67 kw_805 ⟨rfl, rfl⟩ hy_X6_isInterval ⟨by decide, by decide⟩ ⟨by decide, by decide⟩ (Nat.le_of_ble_eq_true rfl) (by decide) (zE_73 _ _) rfl rfl (fun r1 σ2 hf => ?_)
  refine zt_if_eq hX dX6_raw_6 (tgt := 18) (by decide) (fun c3 => ?_) (fun c3 => ?_)
  · replace hf := z_pos hf c3
    refine zt_ldc hX dX6_raw_18 kw_705 ?_
    exact zt_iret hX hY dX6_raw_20 hf
  · replace hf := z_neg hf c3
    refine zt_aload_n hX 0 dX6_raw_9 rfl rfl ?_
    refine zt_iload_n hX 1 dX6_raw_10 rfl rfl ?_
    refine zt_iload_n hX 2 dX6_raw_11 rfl rfl ?_
    refine zt_calliV hX hY (av := [.int a1, .int a2]) (c_X6_rawOf hf) dX6_raw_12 rfl kw_806 kw_808 kw_34 kw_67 kw_809 ⟨rfl, rfl⟩ hy_X6_rawOf ⟨by decide, by decide⟩ ⟨by decide, by decide⟩ (Nat.le_of_ble_eq_true rfl) (by decide) (zE_73 _ _) rfl rfl (fun r4 σ5 hf => ?_)
    refine zt_goto hX dX6_raw_15 (tgt := 20) (by decide) ?_
    exact zt_iret hX hY dX6_raw_20 hf

theorem dX6_status_0 : decode cX6_status 0 = .ok (.aload_n 0, 1) := by decide +kernel
theorem dX6_status_1 : decode cX6_status 1 = .ok (.iload_n 1, 1) := by decide +kernel
theorem dX6_status_2 : decode cX6_status 2 = .ok (.iload_n 2, 1) := by decide +kernel
theorem dX6_status_3 : decode cX6_status 3 = .ok (.invokevirtual 101, 3) := by decide +kernel
theorem dX6_status_6 : decode cX6_status 6 = .ok (.ifCond .eq 12, 3) := by decide +kernel
theorem dX6_status_9 : decode cX6_status 9 = .ok (.aload_n 0, 1) := by decide +kernel
theorem dX6_status_10 : decode cX6_status 10 = .ok (.iload_n 1, 1) := by decide +kernel
theorem dX6_status_11 : decode cX6_status 11 = .ok (.iload_n 2, 1) := by decide +kernel
theorem dX6_status_12 : decode cX6_status 12 = .ok (.invokevirtual 104, 3) := by decide +kernel
theorem dX6_status_15 : decode cX6_status 15 = .ok (.goto 5, 3) := by decide +kernel
theorem dX6_status_18 : decode cX6_status 18 = .ok (.ldc 57, 2) := by decide +kernel
theorem dX6_status_20 : decode cX6_status 20 = .ok (.ireturn, 1) := by decide +kernel
abbrev rm_X6_status : Room := { frames := 6, cells := 0, slots := 0, locals := 137 }
theorem hy_X6_status : yX6_status.cls ≠ "java/lang/invoke/MethodHandle" ∧ yX6_status.cls ≠ "java/lang/invoke/VarHandle" ∧ (parseMethodDescriptor yX6_status.desc).map (fun d => d.parameters.length) = some 2 := by decide +kernel
def w_X6_status (a1 : Int32) (a2 : Int32) (σ : z_S) (Q : Int32 → z_S → Prop) : Prop :=
  w_X6_isInterval a1 a2 σ (fun r1 σ2 => if r1 = 0 then (Q (-2000000001 : Int32) σ2) else (w_X6_statusOf a1 a2 σ2 (fun r4 σ5 => Q r4 σ5)))
set_option maxHeartbeats 4000000 in
set_option maxRecDepth 100000 in
theorem c_X6_status {l : Launch} {D : va_G} {cI cJ cM cS : ClassId} {n0 : Nat} {a1 : Int32} {a2 : Int32} {σ : z_S} {Q : Int32 → z_S → Prop} (hf : w_X6_status a1 a2 σ Q) : z_ci l D cI cJ cM cS n0 yX6_status cX6_status 3 .int rm_X6_status 0 0 [.ref (n0 + 73), .int a1, .int a2] σ Q := by
  refine z_ofi (by decide +kernel) (Nat.le_of_ble_eq_true rfl) (fun p e s m args below meth c hX hY => ?_)
  unfold w_X6_status at hf
  refine zt_L (L' := [(0, .ref (n0 + 73)), (1, .int a1), (2, .int a2)]) rfl ?_
  refine zt_aload_n hX 0 dX6_status_0 rfl rfl ?_
  refine zt_iload_n hX 1 dX6_status_1 rfl rfl ?_
  refine zt_iload_n hX 2 dX6_status_2 rfl rfl ?_
  refine zt_calliV hX hY (av := [.int a1, .int a2]) (c_X6_isInterval hf) dX6_status_3 rfl kw_802 kw_804 kw_33 kw_67 kw_805 ⟨rfl, rfl⟩ hy_X6_isInterval ⟨by decide, by decide⟩ ⟨by decide, by decide⟩ (Nat.le_of_ble_eq_true rfl) (by decide) (zE_73 _ _) rfl rfl (fun r1 σ2 hf => ?_)
  refine zt_if_eq hX dX6_status_6 (tgt := 18) (by decide) (fun c3 => ?_) (fun c3 => ?_)
  · replace hf := z_pos hf c3
    refine zt_ldc hX dX6_status_18 kw_705 ?_
    exact zt_iret hX hY dX6_status_20 hf
  · replace hf := z_neg hf c3
    refine zt_aload_n hX 0 dX6_status_9 rfl rfl ?_
    refine zt_iload_n hX 1 dX6_status_10 rfl rfl ?_
    refine zt_iload_n hX 2 dX6_status_11 rfl rfl ?_
    refine zt_calliV hX hY (av := [.int a1, .int a2]) (c_X6_statusOf hf) dX6_status_12 rfl kw_818 kw_820 kw_36 kw_67 kw_821 ⟨rfl, rfl⟩ hy_X6_statusOf ⟨by decide, by decide⟩ ⟨by decide, by decide⟩ (Nat.le_of_ble_eq_true rfl) (by decide) (zE_73 _ _) rfl rfl (fun r4 σ5 hf => ?_)
    refine zt_goto hX dX6_status_15 (tgt := 20) (by decide) ?_
    exact zt_iret hX hY dX6_status_20 hf

theorem dX6_isValid_0 : decode cX6_isValid 0 = .ok (.iload_n 2, 1) := by decide +kernel
theorem dX6_isValid_1 : decode cX6_isValid 1 = .ok (.iconst 0, 1) := by decide +kernel
theorem dX6_isValid_2 : decode cX6_isValid 2 = .ok (.bipush 11, 2) := by decide +kernel
theorem dX6_isValid_4 : decode cX6_isValid 4 = .ok (.invokestatic 40, 3) := by decide +kernel
theorem dX6_isValid_7 : decode cX6_isValid 7 = .ok (.ifCond .eq 16, 3) := by decide +kernel
theorem dX6_isValid_10 : decode cX6_isValid 10 = .ok (.aload_n 0, 1) := by decide +kernel
theorem dX6_isValid_11 : decode cX6_isValid 11 = .ok (.iload_n 1, 1) := by decide +kernel
theorem dX6_isValid_12 : decode cX6_isValid 12 = .ok (.iload_n 2, 1) := by decide +kernel
theorem dX6_isValid_13 : decode cX6_isValid 13 = .ok (.invokevirtual 104, 3) := by decide +kernel
theorem dX6_isValid_16 : decode cX6_isValid 16 = .ok (.ifCond .ne 7, 3) := by decide +kernel
theorem dX6_isValid_19 : decode cX6_isValid 19 = .ok (.iconst 1, 1) := by decide +kernel
theorem dX6_isValid_20 : decode cX6_isValid 20 = .ok (.goto 4, 3) := by decide +kernel
theorem dX6_isValid_23 : decode cX6_isValid 23 = .ok (.iconst 0, 1) := by decide +kernel
theorem dX6_isValid_24 : decode cX6_isValid 24 = .ok (.ireturn, 1) := by decide +kernel
abbrev rm_X6_isValid : Room := { frames := 6, cells := 0, slots := 0, locals := 137 }
theorem hy_X6_isValid : yX6_isValid.cls ≠ "java/lang/invoke/MethodHandle" ∧ yX6_isValid.cls ≠ "java/lang/invoke/VarHandle" ∧ (parseMethodDescriptor yX6_isValid.desc).map (fun d => d.parameters.length) = some 2 := by decide +kernel
def w_X6_isValid (a1 : Int32) (a2 : Int32) (σ : z_S) (Q : Int32 → z_S → Prop) : Prop :=
  w_X6_in a2 (0 : Int32) (11 : Int32) σ (fun r1 σ2 => if r1 = 0 then (((0 : Int32) = 0 ∨ (0 : Int32) = 1) ∧ Q (0 : Int32) σ2) else (w_X6_statusOf a1 a2 σ2 (fun r4 σ5 => if r4 = 0 then (((1 : Int32) = 0 ∨ (1 : Int32) = 1) ∧ Q (1 : Int32) σ5) else (((0 : Int32) = 0 ∨ (0 : Int32) = 1) ∧ Q (0 : Int32) σ5))))
set_option maxHeartbeats 4000000 in
set_option maxRecDepth 100000 in
theorem c_X6_isValid {l : Launch} {D : va_G} {cI cJ cM cS : ClassId} {n0 : Nat} {a1 : Int32} {a2 : Int32} {σ : z_S} {Q : Int32 → z_S → Prop} (hf : w_X6_isValid a1 a2 σ Q) : z_ci l D cI cJ cM cS n0 yX6_isValid cX6_isValid 3 .boolean rm_X6_isValid 0 0 [.ref (n0 + 73), .int a1, .int a2] σ Q := by
  refine z_ofi (by decide +kernel) (Nat.le_of_ble_eq_true rfl) (fun p e s m args below meth c hX hY => ?_)
  unfold w_X6_isValid at hf
  refine zt_L (L' := [(0, .ref (n0 + 73)), (1, .int a1), (2, .int a2)]) rfl ?_
  refine zt_iload_n hX 2 dX6_isValid_0 rfl rfl ?_
  refine zt_iconst hX dX6_isValid_1 (v := (0 : Int32)) (by decide) ?_
  refine zt_bipush hX dX6_isValid_2 (v := (11 : Int32)) (by decide) ?_
  refine zt_calliS hX hY (av := [.int a2, .int (0 : Int32), .int (11 : Int32)]) (c_X6_in hf) dX6_isValid_4 rfl kw_702 kw_703 kw_67 kw_704 ⟨rfl, rfl⟩ hy_X6_in ⟨by decide, by decide⟩ ⟨by decide, by decide⟩ (Nat.le_of_ble_eq_true rfl) (fun r1 σ2 hf => ?_)
  refine zt_if_eq hX dX6_isValid_7 (tgt := 23) (by decide) (fun c3 => ?_) (fun c3 => ?_)
  · replace hf := z_pos hf c3
    refine zt_iconst hX dX6_isValid_23 (v := (0 : Int32)) (by decide) ?_
    exact zt_zret hX hY dX6_isValid_24 hf
  · replace hf := z_neg hf c3
    refine zt_aload_n hX 0 dX6_isValid_10 rfl rfl ?_
    refine zt_iload_n hX 1 dX6_isValid_11 rfl rfl ?_
    refine zt_iload_n hX 2 dX6_isValid_12 rfl rfl ?_
    refine zt_calliV hX hY (av := [.int a1, .int a2]) (c_X6_statusOf hf) dX6_isValid_13 rfl kw_818 kw_820 kw_36 kw_67 kw_821 ⟨rfl, rfl⟩ hy_X6_statusOf ⟨by decide, by decide⟩ ⟨by decide, by decide⟩ (Nat.le_of_ble_eq_true rfl) (by decide) (zE_73 _ _) rfl rfl (fun r4 σ5 hf => ?_)
    refine zt_if_ne hX dX6_isValid_16 (tgt := 23) (by decide) (fun c6 => ?_) (fun c6 => ?_)
    · replace hf := z_neg hf c6
      refine zt_iconst hX dX6_isValid_23 (v := (0 : Int32)) (by decide) ?_
      exact zt_zret hX hY dX6_isValid_24 hf
    · replace hf := z_pos hf c6
      refine zt_iconst hX dX6_isValid_19 (v := (1 : Int32)) (by decide) ?_
      refine zt_goto hX dX6_isValid_20 (tgt := 24) (by decide) ?_
      exact zt_zret hX hY dX6_isValid_24 hf

theorem dX6_validOf_0 : decode cX6_validOf 0 = .ok (.aload_n 0, 1) := by decide +kernel
theorem dX6_validOf_1 : decode cX6_validOf 1 = .ok (.iload_n 1, 1) := by decide +kernel
theorem dX6_validOf_2 : decode cX6_validOf 2 = .ok (.iload_n 2, 1) := by decide +kernel
theorem dX6_validOf_3 : decode cX6_validOf 3 = .ok (.invokevirtual 95, 3) := by decide +kernel
theorem dX6_validOf_6 : decode cX6_validOf 6 = .ok (.aload_n 0, 1) := by decide +kernel
theorem dX6_validOf_7 : decode cX6_validOf 7 = .ok (.iload_n 1, 1) := by decide +kernel
theorem dX6_validOf_8 : decode cX6_validOf 8 = .ok (.iconst 1, 1) := by decide +kernel
theorem dX6_validOf_9 : decode cX6_validOf 9 = .ok (.invokevirtual 44, 3) := by decide +kernel
theorem dX6_validOf_12 : decode cX6_validOf 12 = .ok (.imul, 1) := by decide +kernel
theorem dX6_validOf_13 : decode cX6_validOf 13 = .ok (.ireturn, 1) := by decide +kernel
abbrev rm_X6_validOf : Room := { frames := 4, cells := 0, slots := 0, locals := 92 }
theorem hy_X6_validOf : yX6_validOf.cls ≠ "java/lang/invoke/MethodHandle" ∧ yX6_validOf.cls ≠ "java/lang/invoke/VarHandle" ∧ (parseMethodDescriptor yX6_validOf.desc).map (fun d => d.parameters.length) = some 2 := by decide +kernel
def w_X6_validOf (a1 : Int32) (a2 : Int32) (σ : z_S) (Q : Int32 → z_S → Prop) : Prop :=
  w_X6_rawOf a1 a2 σ (fun r1 σ2 => w_X6_of a1 (1 : Int32) σ2 (fun r3 σ4 => Q (r1 * r3) σ4))
set_option maxHeartbeats 4000000 in
set_option maxRecDepth 100000 in
theorem c_X6_validOf {l : Launch} {D : va_G} {cI cJ cM cS : ClassId} {n0 : Nat} {a1 : Int32} {a2 : Int32} {σ : z_S} {Q : Int32 → z_S → Prop} (hf : w_X6_validOf a1 a2 σ Q) : z_ci l D cI cJ cM cS n0 yX6_validOf cX6_validOf 3 .int rm_X6_validOf 0 0 [.ref (n0 + 73), .int a1, .int a2] σ Q := by
  refine z_ofi (by decide +kernel) (Nat.le_of_ble_eq_true rfl) (fun p e s m args below meth c hX hY => ?_)
  unfold w_X6_validOf at hf
  refine zt_L (L' := [(0, .ref (n0 + 73)), (1, .int a1), (2, .int a2)]) rfl ?_
  refine zt_aload_n hX 0 dX6_validOf_0 rfl rfl ?_
  refine zt_iload_n hX 1 dX6_validOf_1 rfl rfl ?_
  refine zt_iload_n hX 2 dX6_validOf_2 rfl rfl ?_
  refine zt_calliV hX hY (av := [.int a1, .int a2]) (c_X6_rawOf hf) dX6_validOf_3 rfl kw_806 kw_808 kw_34 kw_67 kw_809 ⟨rfl, rfl⟩ hy_X6_rawOf ⟨by decide, by decide⟩ ⟨by decide, by decide⟩ (Nat.le_of_ble_eq_true rfl) (by decide) (zE_73 _ _) rfl rfl (fun r1 σ2 hf => ?_)
  refine zt_aload_n hX 0 dX6_validOf_6 rfl rfl ?_
  refine zt_iload_n hX 1 dX6_validOf_7 rfl rfl ?_
  refine zt_iconst hX dX6_validOf_8 (v := (1 : Int32)) (by decide) ?_
  refine zt_calliV hX hY (av := [.int a1, .int (1 : Int32)]) (c_X6_of hf) dX6_validOf_9 rfl kw_729 kw_731 kw_25 kw_67 kw_732 ⟨rfl, rfl⟩ hy_X6_of ⟨by decide, by decide⟩ ⟨by decide, by decide⟩ (Nat.le_of_ble_eq_true rfl) (by decide) (zE_73 _ _) rfl rfl (fun r3 σ4 hf => ?_)
  refine zt_imul hX dX6_validOf_12 ?_
  exact zt_iret hX hY dX6_validOf_13 hf

theorem dX6_first_0 : decode cX6_first 0 = .ok (.iload_n 2, 1) := by decide +kernel
theorem dX6_first_1 : decode cX6_first 1 = .ok (.istore_n 3, 1) := by decide +kernel
theorem dX6_first_2 : decode cX6_first 2 = .ok (.iload_n 3, 1) := by decide +kernel
theorem dX6_first_3 : decode cX6_first 3 = .ok (.ifCond .le 20, 3) := by decide +kernel
theorem dX6_first_6 : decode cX6_first 6 = .ok (.aload_n 0, 1) := by decide +kernel
theorem dX6_first_7 : decode cX6_first 7 = .ok (.iload_n 1, 1) := by decide +kernel
theorem dX6_first_8 : decode cX6_first 8 = .ok (.iload_n 3, 1) := by decide +kernel
theorem dX6_first_9 : decode cX6_first 9 = .ok (.iconst 1, 1) := by decide +kernel
theorem dX6_first_10 : decode cX6_first 10 = .ok (.isub, 1) := by decide +kernel
theorem dX6_first_11 : decode cX6_first 11 = .ok (.invokevirtual 107, 3) := by decide +kernel
theorem dX6_first_14 : decode cX6_first 14 = .ok (.ifCond .ne 9, 3) := by decide +kernel
theorem dX6_first_17 : decode cX6_first 17 = .ok (.iinc 3 (-1), 3) := by decide +kernel
theorem dX6_first_20 : decode cX6_first 20 = .ok (.goto (-18), 3) := by decide +kernel
theorem dX6_first_23 : decode cX6_first 23 = .ok (.iload_n 3, 1) := by decide +kernel
theorem dX6_first_24 : decode cX6_first 24 = .ok (.ireturn, 1) := by decide +kernel
abbrev rm_X6_first : Room := { frames := 7, cells := 0, slots := 0, locals := 159 }
theorem hy_X6_first : yX6_first.cls ≠ "java/lang/invoke/MethodHandle" ∧ yX6_first.cls ≠ "java/lang/invoke/VarHandle" ∧ (parseMethodDescriptor yX6_first.desc).map (fun d => d.parameters.length) = some 2 := by decide +kernel
def wb_X6_first_2  (Q : Int32 → z_S → Prop) (k2 : Int32 → Int32 → z_S → Prop) (x1 : Int32) (x3 : Int32) (σ : z_S) : Prop :=
  if x3 ≤ 0 then (Q x3 σ) else (w_X6_isValid x1 (x3 - (1 : Int32)) σ (fun r2 σ3 => if r2 = 0 then (∀ y5 : Int32, y5 = (x3 + (-1 : Int32)) → k2 x1 y5 σ3) else (Q x3 σ3)))
def w_X6_first_2  (Q : Int32 → z_S → Prop) : Nat → Int32 → Int32 → z_S → Prop
  | 0 => fun _ _ _ => False
  | n + 1 => wb_X6_first_2  Q (w_X6_first_2  Q n)
def w_X6_first (a1 : Int32) (a2 : Int32) (σ : z_S) (Q : Int32 → z_S → Prop) : Prop :=
  w_X6_first_2 Q 400 a1 a2 σ
set_option maxHeartbeats 4000000 in
set_option maxRecDepth 100000 in
theorem t_X6_first_2 {l : Launch} {D : va_G} {cI cJ cM cS : ClassId} {n0 : Nat} {p : Program} {e : Env} {s : State} {m : MethodId} {args : Array Value} {below : List Frame} {meth : Method} {c : Code}  {Q : Int32 → z_S → Prop} (hX : z_X D cI cJ cM cS p s m args c cX6_first 4 yX6_first.cls) (hY : z_Y s meth (some .int))  : ∀ (n : Nat) (x1 : Int32) (x3 : Int32) (σ : z_S), w_X6_first_2  Q n x1 x3 σ → z_t D cI cJ cM cS n0 p l e rm_X6_first s m args below meth c 4 (MQ below (va_Qi Q (fun u t => z_Bq D cI cJ cM cS n0 u t) (z_Ab n0)) args s 0 0 (z_Ab n0)) 0 0 2 [(0, .ref (n0 + 73)), (1, .int x1), (3, .int x3)] [] σ := by
  intro n
  induction n with
  | zero => intro _ _ _ hf; exact hf.elim
  | succ n ih2 =>
    intro x1 x3 σ hf
    have hf : wb_X6_first_2  Q (w_X6_first_2  Q n) x1 x3 σ := hf
    unfold wb_X6_first_2 at hf
    refine zt_iload_n hX 2 dX6_first_2 rfl rfl ?_
    refine zt_if_le hX dX6_first_3 (tgt := 23) (by decide) (fun c1 => ?_) (fun c1 => ?_)
    · replace hf := z_pos hf c1
      refine zt_iload_n hX 2 dX6_first_23 rfl rfl ?_
      exact zt_iret hX hY dX6_first_24 hf
    · replace hf := z_neg hf c1
      refine zt_aload_n hX 0 dX6_first_6 rfl rfl ?_
      refine zt_iload_n hX 1 dX6_first_7 rfl rfl ?_
      refine zt_iload_n hX 2 dX6_first_8 rfl rfl ?_
      refine zt_iconst hX dX6_first_9 (v := (1 : Int32)) (by decide) ?_
      refine zt_isub hX dX6_first_10 ?_
      refine zt_calliV hX hY (av := [.int x1, .int (x3 - (1 : Int32))]) (c_X6_isValid hf) dX6_first_11 rfl kw_838 kw_840 kw_40 kw_67 kw_841 ⟨rfl, rfl⟩ hy_X6_isValid ⟨by decide, by decide⟩ ⟨by decide, by decide⟩ (Nat.le_of_ble_eq_true rfl) (by decide) (zE_73 _ _) rfl rfl (fun r2 σ3 hf => ?_)
      refine zt_if_ne hX dX6_first_14 (tgt := 23) (by decide) (fun c4 => ?_) (fun c4 => ?_)
      · replace hf := z_neg hf c4
        refine zt_iload_n hX 2 dX6_first_23 rfl rfl ?_
        exact zt_iret hX hY dX6_first_24 hf
      · replace hf := z_pos hf c4
        obtain ⟨y5, e5⟩ : ∃ y : Int32, y = (x3 + (-1 : Int32)) := ⟨_, rfl⟩
        replace hf := hf y5 e5
        refine zt_iinc (L' := [(3, .int y5), (0, .ref (n0 + 73)), (1, .int x1)]) hX 2 dX6_first_17 rfl (v := y5) (by rw [e5]; rfl) (by decide) rfl ?_
        refine zt_goto hX dX6_first_20 (tgt := 2) (by decide) ?_
        exact zt_sub [1, 2, 0] rfl (ih2 _ _ _ hf)
set_option maxHeartbeats 4000000 in
set_option maxRecDepth 100000 in
theorem c_X6_first {l : Launch} {D : va_G} {cI cJ cM cS : ClassId} {n0 : Nat} {a1 : Int32} {a2 : Int32} {σ : z_S} {Q : Int32 → z_S → Prop} (hf : w_X6_first a1 a2 σ Q) : z_ci l D cI cJ cM cS n0 yX6_first cX6_first 4 .int rm_X6_first 0 0 [.ref (n0 + 73), .int a1, .int a2] σ Q := by
  refine z_ofi (by decide +kernel) (Nat.le_of_ble_eq_true rfl) (fun p e s m args below meth c hX hY => ?_)
  unfold w_X6_first at hf
  refine zt_L (L' := [(0, .ref (n0 + 73)), (1, .int a1), (2, .int a2)]) rfl ?_
  refine zt_iload_n hX 2 dX6_first_0 rfl rfl ?_
  refine zt_istore_n (L' := [(3, .int a2), (0, .ref (n0 + 73)), (1, .int a1), (2, .int a2)]) hX dX6_first_1 rfl (by decide) rfl ?_
  exact zt_sub [1, 2, 0] rfl (t_X6_first_2 hX hY 400 _ _ _ hf)

theorem dX6_last_0 : decode cX6_last 0 = .ok (.iload_n 2, 1) := by decide +kernel
theorem dX6_last_1 : decode cX6_last 1 = .ok (.istore_n 3, 1) := by decide +kernel
theorem dX6_last_2 : decode cX6_last 2 = .ok (.iload_n 3, 1) := by decide +kernel
theorem dX6_last_3 : decode cX6_last 3 = .ok (.bipush 11, 2) := by decide +kernel
theorem dX6_last_5 : decode cX6_last 5 = .ok (.if_icmp .ge 20, 3) := by decide +kernel
theorem dX6_last_8 : decode cX6_last 8 = .ok (.aload_n 0, 1) := by decide +kernel
theorem dX6_last_9 : decode cX6_last 9 = .ok (.iload_n 1, 1) := by decide +kernel
theorem dX6_last_10 : decode cX6_last 10 = .ok (.iload_n 3, 1) := by decide +kernel
theorem dX6_last_11 : decode cX6_last 11 = .ok (.iconst 1, 1) := by decide +kernel
theorem dX6_last_12 : decode cX6_last 12 = .ok (.iadd, 1) := by decide +kernel
theorem dX6_last_13 : decode cX6_last 13 = .ok (.invokevirtual 107, 3) := by decide +kernel
theorem dX6_last_16 : decode cX6_last 16 = .ok (.ifCond .ne 9, 3) := by decide +kernel
theorem dX6_last_19 : decode cX6_last 19 = .ok (.iinc 3 1, 3) := by decide +kernel
theorem dX6_last_22 : decode cX6_last 22 = .ok (.goto (-20), 3) := by decide +kernel
theorem dX6_last_25 : decode cX6_last 25 = .ok (.iload_n 3, 1) := by decide +kernel
theorem dX6_last_26 : decode cX6_last 26 = .ok (.ireturn, 1) := by decide +kernel
abbrev rm_X6_last : Room := { frames := 7, cells := 0, slots := 0, locals := 159 }
theorem hy_X6_last : yX6_last.cls ≠ "java/lang/invoke/MethodHandle" ∧ yX6_last.cls ≠ "java/lang/invoke/VarHandle" ∧ (parseMethodDescriptor yX6_last.desc).map (fun d => d.parameters.length) = some 2 := by decide +kernel
def wb_X6_last_2  (Q : Int32 → z_S → Prop) (k2 : Int32 → Int32 → z_S → Prop) (x1 : Int32) (x3 : Int32) (σ : z_S) : Prop :=
  if (11 : Int32) ≤ x3 then (Q x3 σ) else (w_X6_isValid x1 (x3 + (1 : Int32)) σ (fun r2 σ3 => if r2 = 0 then (∀ y5 : Int32, y5 = (x3 + (1 : Int32)) → k2 x1 y5 σ3) else (Q x3 σ3)))
def w_X6_last_2  (Q : Int32 → z_S → Prop) : Nat → Int32 → Int32 → z_S → Prop
  | 0 => fun _ _ _ => False
  | n + 1 => wb_X6_last_2  Q (w_X6_last_2  Q n)
def w_X6_last (a1 : Int32) (a2 : Int32) (σ : z_S) (Q : Int32 → z_S → Prop) : Prop :=
  w_X6_last_2 Q 400 a1 a2 σ
set_option maxHeartbeats 4000000 in
set_option maxRecDepth 100000 in
theorem t_X6_last_2 {l : Launch} {D : va_G} {cI cJ cM cS : ClassId} {n0 : Nat} {p : Program} {e : Env} {s : State} {m : MethodId} {args : Array Value} {below : List Frame} {meth : Method} {c : Code}  {Q : Int32 → z_S → Prop} (hX : z_X D cI cJ cM cS p s m args c cX6_last 4 yX6_last.cls) (hY : z_Y s meth (some .int))  : ∀ (n : Nat) (x1 : Int32) (x3 : Int32) (σ : z_S), w_X6_last_2  Q n x1 x3 σ → z_t D cI cJ cM cS n0 p l e rm_X6_last s m args below meth c 4 (MQ below (va_Qi Q (fun u t => z_Bq D cI cJ cM cS n0 u t) (z_Ab n0)) args s 0 0 (z_Ab n0)) 0 0 2 [(0, .ref (n0 + 73)), (1, .int x1), (3, .int x3)] [] σ := by
  intro n
  induction n with
  | zero => intro _ _ _ hf; exact hf.elim
  | succ n ih2 =>
    intro x1 x3 σ hf
    have hf : wb_X6_last_2  Q (w_X6_last_2  Q n) x1 x3 σ := hf
    unfold wb_X6_last_2 at hf
    refine zt_iload_n hX 2 dX6_last_2 rfl rfl ?_
    refine zt_bipush hX dX6_last_3 (v := (11 : Int32)) (by decide) ?_
    refine zt_icmp_ge hX dX6_last_5 (tgt := 25) (by decide) (fun c1 => ?_) (fun c1 => ?_)
    · replace hf := z_pos hf c1
      refine zt_iload_n hX 2 dX6_last_25 rfl rfl ?_
      exact zt_iret hX hY dX6_last_26 hf
    · replace hf := z_neg hf c1
      refine zt_aload_n hX 0 dX6_last_8 rfl rfl ?_
      refine zt_iload_n hX 1 dX6_last_9 rfl rfl ?_
      refine zt_iload_n hX 2 dX6_last_10 rfl rfl ?_
      refine zt_iconst hX dX6_last_11 (v := (1 : Int32)) (by decide) ?_
      refine zt_iadd hX dX6_last_12 ?_
      refine zt_calliV hX hY (av := [.int x1, .int (x3 + (1 : Int32))]) (c_X6_isValid hf) dX6_last_13 rfl kw_838 kw_840 kw_40 kw_67 kw_841 ⟨rfl, rfl⟩ hy_X6_isValid ⟨by decide, by decide⟩ ⟨by decide, by decide⟩ (Nat.le_of_ble_eq_true rfl) (by decide) (zE_73 _ _) rfl rfl (fun r2 σ3 hf => ?_)
      refine zt_if_ne hX dX6_last_16 (tgt := 25) (by decide) (fun c4 => ?_) (fun c4 => ?_)
      · replace hf := z_neg hf c4
        refine zt_iload_n hX 2 dX6_last_25 rfl rfl ?_
        exact zt_iret hX hY dX6_last_26 hf
      · replace hf := z_pos hf c4
        obtain ⟨y5, e5⟩ : ∃ y : Int32, y = (x3 + (1 : Int32)) := ⟨_, rfl⟩
        replace hf := hf y5 e5
        refine zt_iinc (L' := [(3, .int y5), (0, .ref (n0 + 73)), (1, .int x1)]) hX 2 dX6_last_19 rfl (v := y5) (by rw [e5]; rfl) (by decide) rfl ?_
        refine zt_goto hX dX6_last_22 (tgt := 2) (by decide) ?_
        exact zt_sub [1, 2, 0] rfl (ih2 _ _ _ hf)
set_option maxHeartbeats 4000000 in
set_option maxRecDepth 100000 in
theorem c_X6_last {l : Launch} {D : va_G} {cI cJ cM cS : ClassId} {n0 : Nat} {a1 : Int32} {a2 : Int32} {σ : z_S} {Q : Int32 → z_S → Prop} (hf : w_X6_last a1 a2 σ Q) : z_ci l D cI cJ cM cS n0 yX6_last cX6_last 4 .int rm_X6_last 0 0 [.ref (n0 + 73), .int a1, .int a2] σ Q := by
  refine z_ofi (by decide +kernel) (Nat.le_of_ble_eq_true rfl) (fun p e s m args below meth c hX hY => ?_)
  unfold w_X6_last at hf
  refine zt_L (L' := [(0, .ref (n0 + 73)), (1, .int a1), (2, .int a2)]) rfl ?_
  refine zt_iload_n hX 2 dX6_last_0 rfl rfl ?_
  refine zt_istore_n (L' := [(3, .int a2), (0, .ref (n0 + 73)), (1, .int a1), (2, .int a2)]) hX dX6_last_1 rfl (by decide) rfl ?_
  exact zt_sub [1, 2, 0] rfl (t_X6_last_2 hX hY 400 _ _ _ hf)

theorem dX6_qualityOf_0 : decode cX6_qualityOf 0 = .ok (.aload_n 0, 1) := by decide +kernel
theorem dX6_qualityOf_1 : decode cX6_qualityOf 1 = .ok (.iload_n 1, 1) := by decide +kernel
theorem dX6_qualityOf_2 : decode cX6_qualityOf 2 = .ok (.iload_n 2, 1) := by decide +kernel
theorem dX6_qualityOf_3 : decode cX6_qualityOf 3 = .ok (.invokevirtual 107, 3) := by decide +kernel
theorem dX6_qualityOf_6 : decode cX6_qualityOf 6 = .ok (.ifCond .eq 5, 3) := by decide +kernel
theorem dX6_qualityOf_9 : decode cX6_qualityOf 9 = .ok (.iconst 0, 1) := by decide +kernel
theorem dX6_qualityOf_10 : decode cX6_qualityOf 10 = .ok (.ireturn, 1) := by decide +kernel
theorem dX6_qualityOf_11 : decode cX6_qualityOf 11 = .ok (.aload_n 0, 1) := by decide +kernel
theorem dX6_qualityOf_12 : decode cX6_qualityOf 12 = .ok (.iload_n 1, 1) := by decide +kernel
theorem dX6_qualityOf_13 : decode cX6_qualityOf 13 = .ok (.iload_n 2, 1) := by decide +kernel
theorem dX6_qualityOf_14 : decode cX6_qualityOf 14 = .ok (.invokevirtual 110, 3) := by decide +kernel
theorem dX6_qualityOf_17 : decode cX6_qualityOf 17 = .ok (.istore_n 3, 1) := by decide +kernel
theorem dX6_qualityOf_18 : decode cX6_qualityOf 18 = .ok (.aload_n 0, 1) := by decide +kernel
theorem dX6_qualityOf_19 : decode cX6_qualityOf 19 = .ok (.iload_n 1, 1) := by decide +kernel
theorem dX6_qualityOf_20 : decode cX6_qualityOf 20 = .ok (.iload_n 2, 1) := by decide +kernel
theorem dX6_qualityOf_21 : decode cX6_qualityOf 21 = .ok (.invokevirtual 113, 3) := by decide +kernel
theorem dX6_qualityOf_24 : decode cX6_qualityOf 24 = .ok (.istore 4, 2) := by decide +kernel
theorem dX6_qualityOf_26 : decode cX6_qualityOf 26 = .ok (.iconst 1, 1) := by decide +kernel
theorem dX6_qualityOf_27 : decode cX6_qualityOf 27 = .ok (.istore 5, 2) := by decide +kernel
theorem dX6_qualityOf_29 : decode cX6_qualityOf 29 = .ok (.iload_n 3, 1) := by decide +kernel
theorem dX6_qualityOf_30 : decode cX6_qualityOf 30 = .ok (.istore 6, 2) := by decide +kernel
theorem dX6_qualityOf_32 : decode cX6_qualityOf 32 = .ok (.iload 6, 2) := by decide +kernel
theorem dX6_qualityOf_34 : decode cX6_qualityOf 34 = .ok (.iload 4, 2) := by decide +kernel
theorem dX6_qualityOf_36 : decode cX6_qualityOf 36 = .ok (.if_icmp .gt 32, 3) := by decide +kernel
theorem dX6_qualityOf_39 : decode cX6_qualityOf 39 = .ok (.iload 5, 2) := by decide +kernel
theorem dX6_qualityOf_41 : decode cX6_qualityOf 41 = .ok (.ifCond .eq 18, 3) := by decide +kernel
theorem dX6_qualityOf_44 : decode cX6_qualityOf 44 = .ok (.aload_n 0, 1) := by decide +kernel
theorem dX6_qualityOf_45 : decode cX6_qualityOf 45 = .ok (.iload_n 1, 1) := by decide +kernel
theorem dX6_qualityOf_46 : decode cX6_qualityOf 46 = .ok (.iload 6, 2) := by decide +kernel
theorem dX6_qualityOf_48 : decode cX6_qualityOf 48 = .ok (.invokevirtual 104, 3) := by decide +kernel
theorem dX6_qualityOf_51 : decode cX6_qualityOf 51 = .ok (.iconst 1, 1) := by decide +kernel
theorem dX6_qualityOf_52 : decode cX6_qualityOf 52 = .ok (.if_icmp .ne 7, 3) := by decide +kernel
theorem dX6_qualityOf_55 : decode cX6_qualityOf 55 = .ok (.iconst 1, 1) := by decide +kernel
theorem dX6_qualityOf_56 : decode cX6_qualityOf 56 = .ok (.goto 4, 3) := by decide +kernel
theorem dX6_qualityOf_59 : decode cX6_qualityOf 59 = .ok (.iconst 0, 1) := by decide +kernel
theorem dX6_qualityOf_60 : decode cX6_qualityOf 60 = .ok (.istore 5, 2) := by decide +kernel
theorem dX6_qualityOf_62 : decode cX6_qualityOf 62 = .ok (.iinc 6 1, 3) := by decide +kernel
theorem dX6_qualityOf_65 : decode cX6_qualityOf 65 = .ok (.goto (-33), 3) := by decide +kernel
theorem dX6_qualityOf_68 : decode cX6_qualityOf 68 = .ok (.aload_n 0, 1) := by decide +kernel
theorem dX6_qualityOf_69 : decode cX6_qualityOf 69 = .ok (.iload_n 1, 1) := by decide +kernel
theorem dX6_qualityOf_70 : decode cX6_qualityOf 70 = .ok (.iload_n 3, 1) := by decide +kernel
theorem dX6_qualityOf_71 : decode cX6_qualityOf 71 = .ok (.iload 4, 2) := by decide +kernel
theorem dX6_qualityOf_73 : decode cX6_qualityOf 73 = .ok (.iconst 1, 1) := by decide +kernel
theorem dX6_qualityOf_74 : decode cX6_qualityOf 74 = .ok (.iadd, 1) := by decide +kernel
theorem dX6_qualityOf_75 : decode cX6_qualityOf 75 = .ok (.invokevirtual 92, 3) := by decide +kernel
theorem dX6_qualityOf_78 : decode cX6_qualityOf 78 = .ok (.istore 6, 2) := by decide +kernel
theorem dX6_qualityOf_80 : decode cX6_qualityOf 80 = .ok (.iload 5, 2) := by decide +kernel
theorem dX6_qualityOf_82 : decode cX6_qualityOf 82 = .ok (.ifCond .eq 30, 3) := by decide +kernel
theorem dX6_qualityOf_85 : decode cX6_qualityOf 85 = .ok (.iload 6, 2) := by decide +kernel
theorem dX6_qualityOf_87 : decode cX6_qualityOf 87 = .ok (.ldc 48, 2) := by decide +kernel
theorem dX6_qualityOf_89 : decode cX6_qualityOf 89 = .ok (.if_icmp .eq 23, 3) := by decide +kernel
theorem dX6_qualityOf_92 : decode cX6_qualityOf 92 = .ok (.iload 6, 2) := by decide +kernel
theorem dX6_qualityOf_94 : decode cX6_qualityOf 94 = .ok (.aload_n 0, 1) := by decide +kernel
theorem dX6_qualityOf_95 : decode cX6_qualityOf 95 = .ok (.iload_n 1, 1) := by decide +kernel
theorem dX6_qualityOf_96 : decode cX6_qualityOf 96 = .ok (.iconst 3, 1) := by decide +kernel
theorem dX6_qualityOf_97 : decode cX6_qualityOf 97 = .ok (.invokevirtual 44, 3) := by decide +kernel
theorem dX6_qualityOf_100 : decode cX6_qualityOf 100 = .ok (.iload 4, 2) := by decide +kernel
theorem dX6_qualityOf_102 : decode cX6_qualityOf 102 = .ok (.iload_n 3, 1) := by decide +kernel
theorem dX6_qualityOf_103 : decode cX6_qualityOf 103 = .ok (.isub, 1) := by decide +kernel
theorem dX6_qualityOf_104 : decode cX6_qualityOf 104 = .ok (.iconst 1, 1) := by decide +kernel
theorem dX6_qualityOf_105 : decode cX6_qualityOf 105 = .ok (.iadd, 1) := by decide +kernel
theorem dX6_qualityOf_106 : decode cX6_qualityOf 106 = .ok (.imul, 1) := by decide +kernel
theorem dX6_qualityOf_107 : decode cX6_qualityOf 107 = .ok (.if_icmp .gt 5, 3) := by decide +kernel
theorem dX6_qualityOf_110 : decode cX6_qualityOf 110 = .ok (.iconst 1, 1) := by decide +kernel
theorem dX6_qualityOf_111 : decode cX6_qualityOf 111 = .ok (.ireturn, 1) := by decide +kernel
theorem dX6_qualityOf_112 : decode cX6_qualityOf 112 = .ok (.aload_n 0, 1) := by decide +kernel
theorem dX6_qualityOf_113 : decode cX6_qualityOf 113 = .ok (.iload_n 1, 1) := by decide +kernel
theorem dX6_qualityOf_114 : decode cX6_qualityOf 114 = .ok (.iload_n 3, 1) := by decide +kernel
theorem dX6_qualityOf_115 : decode cX6_qualityOf 115 = .ok (.iconst 1, 1) := by decide +kernel
theorem dX6_qualityOf_116 : decode cX6_qualityOf 116 = .ok (.isub, 1) := by decide +kernel
theorem dX6_qualityOf_117 : decode cX6_qualityOf 117 = .ok (.invokevirtual 107, 3) := by decide +kernel
theorem dX6_qualityOf_120 : decode cX6_qualityOf 120 = .ok (.istore 7, 2) := by decide +kernel
theorem dX6_qualityOf_122 : decode cX6_qualityOf 122 = .ok (.aload_n 0, 1) := by decide +kernel
theorem dX6_qualityOf_123 : decode cX6_qualityOf 123 = .ok (.iload_n 1, 1) := by decide +kernel
theorem dX6_qualityOf_124 : decode cX6_qualityOf 124 = .ok (.iload 4, 2) := by decide +kernel
theorem dX6_qualityOf_126 : decode cX6_qualityOf 126 = .ok (.iconst 1, 1) := by decide +kernel
theorem dX6_qualityOf_127 : decode cX6_qualityOf 127 = .ok (.iadd, 1) := by decide +kernel
theorem dX6_qualityOf_128 : decode cX6_qualityOf 128 = .ok (.invokevirtual 107, 3) := by decide +kernel
theorem dX6_qualityOf_131 : decode cX6_qualityOf 131 = .ok (.istore 8, 2) := by decide +kernel
theorem dX6_qualityOf_133 : decode cX6_qualityOf 133 = .ok (.iload 7, 2) := by decide +kernel
theorem dX6_qualityOf_135 : decode cX6_qualityOf 135 = .ok (.ifCond .eq 12, 3) := by decide +kernel
theorem dX6_qualityOf_138 : decode cX6_qualityOf 138 = .ok (.iload 8, 2) := by decide +kernel
theorem dX6_qualityOf_140 : decode cX6_qualityOf 140 = .ok (.ifCond .eq 7, 3) := by decide +kernel
theorem dX6_qualityOf_143 : decode cX6_qualityOf 143 = .ok (.iconst 2, 1) := by decide +kernel
theorem dX6_qualityOf_144 : decode cX6_qualityOf 144 = .ok (.goto 18, 3) := by decide +kernel
theorem dX6_qualityOf_147 : decode cX6_qualityOf 147 = .ok (.iload 7, 2) := by decide +kernel
theorem dX6_qualityOf_149 : decode cX6_qualityOf 149 = .ok (.ifCond .ne 8, 3) := by decide +kernel
theorem dX6_qualityOf_152 : decode cX6_qualityOf 152 = .ok (.iload 8, 2) := by decide +kernel
theorem dX6_qualityOf_154 : decode cX6_qualityOf 154 = .ok (.ifCond .eq 7, 3) := by decide +kernel
theorem dX6_qualityOf_157 : decode cX6_qualityOf 157 = .ok (.iconst 3, 1) := by decide +kernel
theorem dX6_qualityOf_158 : decode cX6_qualityOf 158 = .ok (.goto 4, 3) := by decide +kernel
theorem dX6_qualityOf_161 : decode cX6_qualityOf 161 = .ok (.iconst 4, 1) := by decide +kernel
theorem dX6_qualityOf_162 : decode cX6_qualityOf 162 = .ok (.ireturn, 1) := by decide +kernel
abbrev rm_X6_qualityOf : Room := { frames := 8, cells := 0, slots := 0, locals := 182 }
theorem hy_X6_qualityOf : yX6_qualityOf.cls ≠ "java/lang/invoke/MethodHandle" ∧ yX6_qualityOf.cls ≠ "java/lang/invoke/VarHandle" ∧ (parseMethodDescriptor yX6_qualityOf.desc).map (fun d => d.parameters.length) = some 2 := by decide +kernel
def w_X6_qualityOf_147  (Q : Int32 → z_S → Prop) (x7 : Int32) (x8 : Int32) (σ : z_S) : Prop :=
  if x7 = 0 then (if x8 = 0 then (Q (4 : Int32) σ) else (Q (3 : Int32) σ)) else (Q (3 : Int32) σ)
def w_X6_qualityOf_112  (Q : Int32 → z_S → Prop) (x1 : Int32) (x3 : Int32) (x4 : Int32) (σ : z_S) : Prop :=
  w_X6_isValid x1 (x3 - (1 : Int32)) σ (fun r12 σ13 => w_X6_isValid x1 (x4 + (1 : Int32)) σ13 (fun r14 σ15 => if r12 = 0 then (w_X6_qualityOf_147 Q r12 r14 σ15) else (if r14 = 0 then (w_X6_qualityOf_147 Q r12 r14 σ15) else (Q (2 : Int32) σ15))))
def w_X6_qualityOf_60 (k32 : Int32 → Int32 → Int32 → Int32 → Int32 → z_S → Prop) (Q : Int32 → z_S → Prop) (x1 : Int32) (x3 : Int32) (x4 : Int32) (x6 : Int32) (s0 : Int32) (σ : z_S) : Prop :=
  ∀ y25 : Int32, y25 = (x6 + (1 : Int32)) → k32 x1 x3 x4 s0 y25 σ
def w_X6_qualityOf_59 (k32 : Int32 → Int32 → Int32 → Int32 → Int32 → z_S → Prop) (Q : Int32 → z_S → Prop) (x1 : Int32) (x3 : Int32) (x4 : Int32) (x6 : Int32) (σ : z_S) : Prop :=
  w_X6_qualityOf_60 k32 Q x1 x3 x4 x6 (0 : Int32) σ
def wb_X6_qualityOf_32  (Q : Int32 → z_S → Prop) (k32 : Int32 → Int32 → Int32 → Int32 → Int32 → z_S → Prop) (x1 : Int32) (x3 : Int32) (x4 : Int32) (x5 : Int32) (x6 : Int32) (σ : z_S) : Prop :=
  if x4 < x6 then (w_X6_advance x1 x3 (x4 + (1 : Int32)) σ (fun r9 σ10 => if x5 = 0 then (w_X6_qualityOf_112 Q x1 x3 x4 σ10) else (if r9 = (-2000000000 : Int32) then (w_X6_qualityOf_112 Q x1 x3 x4 σ10) else (w_X6_of x1 (3 : Int32) σ10 (fun r21 σ22 => if (r21 * ((x4 - x3) + (1 : Int32))) < r9 then (w_X6_qualityOf_112 Q x1 x3 x4 σ22) else (Q (1 : Int32) σ22)))))) else (if x5 = 0 then (w_X6_qualityOf_59 k32 Q x1 x3 x4 x6 σ) else (w_X6_statusOf x1 x6 σ (fun r26 σ27 => if r26 = (1 : Int32) then (w_X6_qualityOf_60 k32 Q x1 x3 x4 x6 (1 : Int32) σ27) else (w_X6_qualityOf_59 k32 Q x1 x3 x4 x6 σ27))))
def w_X6_qualityOf_32  (Q : Int32 → z_S → Prop) : Nat → Int32 → Int32 → Int32 → Int32 → Int32 → z_S → Prop
  | 0 => fun _ _ _ _ _ _ => False
  | n + 1 => wb_X6_qualityOf_32  Q (w_X6_qualityOf_32  Q n)
def w_X6_qualityOf (a1 : Int32) (a2 : Int32) (σ : z_S) (Q : Int32 → z_S → Prop) : Prop :=
  w_X6_isValid a1 a2 σ (fun r1 σ2 => if r1 = 0 then (w_X6_first a1 a2 σ2 (fun r4 σ5 => w_X6_last a1 a2 σ5 (fun r6 σ7 => w_X6_qualityOf_32 Q 400 a1 r4 r6 (1 : Int32) r4 σ7))) else (Q (0 : Int32) σ2))
set_option maxHeartbeats 4000000 in
set_option maxRecDepth 100000 in
theorem t_X6_qualityOf_147 {l : Launch} {D : va_G} {cI cJ cM cS : ClassId} {n0 : Nat} {p : Program} {e : Env} {s : State} {m : MethodId} {args : Array Value} {below : List Frame} {meth : Method} {c : Code}  {Q : Int32 → z_S → Prop} (hX : z_X D cI cJ cM cS p s m args c cX6_qualityOf 9 yX6_qualityOf.cls) (hY : z_Y s meth (some .int))  (x7 : Int32) (x8 : Int32) (σ : z_S) (hf : w_X6_qualityOf_147  Q x7 x8 σ) : z_t D cI cJ cM cS n0 p l e rm_X6_qualityOf s m args below meth c 9 (MQ below (va_Qi Q (fun u t => z_Bq D cI cJ cM cS n0 u t) (z_Ab n0)) args s 0 0 (z_Ab n0)) 0 0 147 [(7, .int x7), (8, .int x8)] [] σ := by
  unfold w_X6_qualityOf_147 at hf
  refine zt_iload hX 0 dX6_qualityOf_147 rfl ?_
  refine zt_if_ne hX dX6_qualityOf_149 (tgt := 157) (by decide) (fun c17 => ?_) (fun c17 => ?_)
  · replace hf := z_neg hf c17
    refine zt_iconst hX dX6_qualityOf_157 (v := (3 : Int32)) (by decide) ?_
    refine zt_goto hX dX6_qualityOf_158 (tgt := 162) (by decide) ?_
    exact zt_iret hX hY dX6_qualityOf_162 hf
  · replace hf := z_pos hf c17
    refine zt_iload hX 1 dX6_qualityOf_152 rfl ?_
    refine zt_if_eq hX dX6_qualityOf_154 (tgt := 161) (by decide) (fun c18 => ?_) (fun c18 => ?_)
    · replace hf := z_pos hf c18
      refine zt_iconst hX dX6_qualityOf_161 (v := (4 : Int32)) (by decide) ?_
      exact zt_iret hX hY dX6_qualityOf_162 hf
    · replace hf := z_neg hf c18
      refine zt_iconst hX dX6_qualityOf_157 (v := (3 : Int32)) (by decide) ?_
      refine zt_goto hX dX6_qualityOf_158 (tgt := 162) (by decide) ?_
      exact zt_iret hX hY dX6_qualityOf_162 hf
set_option maxHeartbeats 4000000 in
set_option maxRecDepth 100000 in
theorem t_X6_qualityOf_112 {l : Launch} {D : va_G} {cI cJ cM cS : ClassId} {n0 : Nat} {p : Program} {e : Env} {s : State} {m : MethodId} {args : Array Value} {below : List Frame} {meth : Method} {c : Code}  {Q : Int32 → z_S → Prop} (hX : z_X D cI cJ cM cS p s m args c cX6_qualityOf 9 yX6_qualityOf.cls) (hY : z_Y s meth (some .int))  (x1 : Int32) (x3 : Int32) (x4 : Int32) (σ : z_S) (hf : w_X6_qualityOf_112  Q x1 x3 x4 σ) : z_t D cI cJ cM cS n0 p l e rm_X6_qualityOf s m args below meth c 9 (MQ below (va_Qi Q (fun u t => z_Bq D cI cJ cM cS n0 u t) (z_Ab n0)) args s 0 0 (z_Ab n0)) 0 0 112 [(0, .ref (n0 + 73)), (1, .int x1), (3, .int x3), (4, .int x4)] [] σ := by
  unfold w_X6_qualityOf_112 at hf
  refine zt_aload_n hX 0 dX6_qualityOf_112 rfl rfl ?_
  refine zt_iload_n hX 1 dX6_qualityOf_113 rfl rfl ?_
  refine zt_iload_n hX 2 dX6_qualityOf_114 rfl rfl ?_
  refine zt_iconst hX dX6_qualityOf_115 (v := (1 : Int32)) (by decide) ?_
  refine zt_isub hX dX6_qualityOf_116 ?_
  refine zt_calliV hX hY (av := [.int x1, .int (x3 - (1 : Int32))]) (c_X6_isValid hf) dX6_qualityOf_117 rfl kw_838 kw_840 kw_40 kw_67 kw_841 ⟨rfl, rfl⟩ hy_X6_isValid ⟨by decide, by decide⟩ ⟨by decide, by decide⟩ (Nat.le_of_ble_eq_true rfl) (by decide) (zE_73 _ _) rfl rfl (fun r12 σ13 hf => ?_)
  refine zt_istore (L' := [(7, .int r12), (0, .ref (n0 + 73)), (1, .int x1), (3, .int x3), (4, .int x4)]) hX dX6_qualityOf_120 (by decide) rfl ?_
  refine zt_aload_n hX 1 dX6_qualityOf_122 rfl rfl ?_
  refine zt_iload_n hX 2 dX6_qualityOf_123 rfl rfl ?_
  refine zt_iload hX 4 dX6_qualityOf_124 rfl ?_
  refine zt_iconst hX dX6_qualityOf_126 (v := (1 : Int32)) (by decide) ?_
  refine zt_iadd hX dX6_qualityOf_127 ?_
  refine zt_calliV hX hY (av := [.int x1, .int (x4 + (1 : Int32))]) (c_X6_isValid hf) dX6_qualityOf_128 rfl kw_838 kw_840 kw_40 kw_67 kw_841 ⟨rfl, rfl⟩ hy_X6_isValid ⟨by decide, by decide⟩ ⟨by decide, by decide⟩ (Nat.le_of_ble_eq_true rfl) (by decide) (zE_73 _ _) rfl rfl (fun r14 σ15 hf => ?_)
  refine zt_istore (L' := [(8, .int r14), (7, .int r12), (0, .ref (n0 + 73)), (1, .int x1), (3, .int x3), (4, .int x4)]) hX dX6_qualityOf_131 (by decide) rfl ?_
  refine zt_iload hX 1 dX6_qualityOf_133 rfl ?_
  refine zt_if_eq hX dX6_qualityOf_135 (tgt := 147) (by decide) (fun c16 => ?_) (fun c16 => ?_)
  · replace hf := z_pos hf c16
    exact zt_sub [1, 0] rfl (t_X6_qualityOf_147 hX hY _ _ _ hf)
  · replace hf := z_neg hf c16
    refine zt_iload hX 0 dX6_qualityOf_138 rfl ?_
    refine zt_if_eq hX dX6_qualityOf_140 (tgt := 147) (by decide) (fun c19 => ?_) (fun c19 => ?_)
    · replace hf := z_pos hf c19
      exact zt_sub [1, 0] rfl (t_X6_qualityOf_147 hX hY _ _ _ hf)
    · replace hf := z_neg hf c19
      refine zt_iconst hX dX6_qualityOf_143 (v := (2 : Int32)) (by decide) ?_
      refine zt_goto hX dX6_qualityOf_144 (tgt := 162) (by decide) ?_
      exact zt_iret hX hY dX6_qualityOf_162 hf
set_option maxHeartbeats 4000000 in
set_option maxRecDepth 100000 in
theorem t_X6_qualityOf_60 {l : Launch} {D : va_G} {cI cJ cM cS : ClassId} {n0 : Nat} {p : Program} {e : Env} {s : State} {m : MethodId} {args : Array Value} {below : List Frame} {meth : Method} {c : Code} {k32 : Int32 → Int32 → Int32 → Int32 → Int32 → z_S → Prop} {Q : Int32 → z_S → Prop} (hX : z_X D cI cJ cM cS p s m args c cX6_qualityOf 9 yX6_qualityOf.cls) (hY : z_Y s meth (some .int)) (hk32 : ∀ (x1 : Int32) (x3 : Int32) (x4 : Int32) (x5 : Int32) (x6 : Int32) (σ : z_S), k32 x1 x3 x4 x5 x6 σ → z_t D cI cJ cM cS n0 p l e rm_X6_qualityOf s m args below meth c 9 (MQ below (va_Qi Q (fun u t => z_Bq D cI cJ cM cS n0 u t) (z_Ab n0)) args s 0 0 (z_Ab n0)) 0 0 32 [(0, .ref (n0 + 73)), (1, .int x1), (3, .int x3), (4, .int x4), (5, .int x5), (6, .int x6)] [] σ) (x1 : Int32) (x3 : Int32) (x4 : Int32) (x6 : Int32) (s0 : Int32) (σ : z_S) (hf : w_X6_qualityOf_60 k32 Q x1 x3 x4 x6 s0 σ) : z_t D cI cJ cM cS n0 p l e rm_X6_qualityOf s m args below meth c 9 (MQ below (va_Qi Q (fun u t => z_Bq D cI cJ cM cS n0 u t) (z_Ab n0)) args s 0 0 (z_Ab n0)) 0 0 60 [(0, .ref (n0 + 73)), (1, .int x1), (3, .int x3), (4, .int x4), (6, .int x6)] [.int s0] σ := by
  unfold w_X6_qualityOf_60 at hf
  refine zt_istore (L' := [(5, .int s0), (0, .ref (n0 + 73)), (1, .int x1), (3, .int x3), (4, .int x4), (6, .int x6)]) hX dX6_qualityOf_60 (by decide) rfl ?_
  obtain ⟨y25, e25⟩ : ∃ y : Int32, y = (x6 + (1 : Int32)) := ⟨_, rfl⟩
  replace hf := hf y25 e25
  refine zt_iinc (L' := [(6, .int y25), (5, .int s0), (0, .ref (n0 + 73)), (1, .int x1), (3, .int x3), (4, .int x4)]) hX 5 dX6_qualityOf_62 rfl (v := y25) (by rw [e25]; rfl) (by decide) rfl ?_
  refine zt_goto hX dX6_qualityOf_65 (tgt := 32) (by decide) ?_
  exact zt_sub [2, 3, 4, 5, 1, 0] rfl (hk32 _ _ _ _ _ _ hf)
set_option maxHeartbeats 4000000 in
set_option maxRecDepth 100000 in
theorem t_X6_qualityOf_59 {l : Launch} {D : va_G} {cI cJ cM cS : ClassId} {n0 : Nat} {p : Program} {e : Env} {s : State} {m : MethodId} {args : Array Value} {below : List Frame} {meth : Method} {c : Code} {k32 : Int32 → Int32 → Int32 → Int32 → Int32 → z_S → Prop} {Q : Int32 → z_S → Prop} (hX : z_X D cI cJ cM cS p s m args c cX6_qualityOf 9 yX6_qualityOf.cls) (hY : z_Y s meth (some .int)) (hk32 : ∀ (x1 : Int32) (x3 : Int32) (x4 : Int32) (x5 : Int32) (x6 : Int32) (σ : z_S), k32 x1 x3 x4 x5 x6 σ → z_t D cI cJ cM cS n0 p l e rm_X6_qualityOf s m args below meth c 9 (MQ below (va_Qi Q (fun u t => z_Bq D cI cJ cM cS n0 u t) (z_Ab n0)) args s 0 0 (z_Ab n0)) 0 0 32 [(0, .ref (n0 + 73)), (1, .int x1), (3, .int x3), (4, .int x4), (5, .int x5), (6, .int x6)] [] σ) (x1 : Int32) (x3 : Int32) (x4 : Int32) (x6 : Int32) (σ : z_S) (hf : w_X6_qualityOf_59 k32 Q x1 x3 x4 x6 σ) : z_t D cI cJ cM cS n0 p l e rm_X6_qualityOf s m args below meth c 9 (MQ below (va_Qi Q (fun u t => z_Bq D cI cJ cM cS n0 u t) (z_Ab n0)) args s 0 0 (z_Ab n0)) 0 0 59 [(0, .ref (n0 + 73)), (1, .int x1), (3, .int x3), (4, .int x4), (6, .int x6)] [] σ := by
  unfold w_X6_qualityOf_59 at hf
  refine zt_iconst hX dX6_qualityOf_59 (v := (0 : Int32)) (by decide) ?_
  exact zt_sub [0, 1, 2, 3, 4] rfl (t_X6_qualityOf_60 hX hY hk32 _ _ _ _ _ _ hf)
set_option maxHeartbeats 4000000 in
set_option maxRecDepth 100000 in
theorem t_X6_qualityOf_32 {l : Launch} {D : va_G} {cI cJ cM cS : ClassId} {n0 : Nat} {p : Program} {e : Env} {s : State} {m : MethodId} {args : Array Value} {below : List Frame} {meth : Method} {c : Code}  {Q : Int32 → z_S → Prop} (hX : z_X D cI cJ cM cS p s m args c cX6_qualityOf 9 yX6_qualityOf.cls) (hY : z_Y s meth (some .int))  : ∀ (n : Nat) (x1 : Int32) (x3 : Int32) (x4 : Int32) (x5 : Int32) (x6 : Int32) (σ : z_S), w_X6_qualityOf_32  Q n x1 x3 x4 x5 x6 σ → z_t D cI cJ cM cS n0 p l e rm_X6_qualityOf s m args below meth c 9 (MQ below (va_Qi Q (fun u t => z_Bq D cI cJ cM cS n0 u t) (z_Ab n0)) args s 0 0 (z_Ab n0)) 0 0 32 [(0, .ref (n0 + 73)), (1, .int x1), (3, .int x3), (4, .int x4), (5, .int x5), (6, .int x6)] [] σ := by
  intro n
  induction n with
  | zero => intro _ _ _ _ _ _ hf; exact hf.elim
  | succ n ih32 =>
    intro x1 x3 x4 x5 x6 σ hf
    have hf : wb_X6_qualityOf_32  Q (w_X6_qualityOf_32  Q n) x1 x3 x4 x5 x6 σ := hf
    unfold wb_X6_qualityOf_32 at hf
    refine zt_iload hX 5 dX6_qualityOf_32 rfl ?_
    refine zt_iload hX 3 dX6_qualityOf_34 rfl ?_
    refine zt_icmp_gt hX dX6_qualityOf_36 (tgt := 68) (by decide) (fun c8 => ?_) (fun c8 => ?_)
    · replace hf := z_pos hf c8
      refine zt_aload_n hX 0 dX6_qualityOf_68 rfl rfl ?_
      refine zt_iload_n hX 1 dX6_qualityOf_69 rfl rfl ?_
      refine zt_iload_n hX 2 dX6_qualityOf_70 rfl rfl ?_
      refine zt_iload hX 3 dX6_qualityOf_71 rfl ?_
      refine zt_iconst hX dX6_qualityOf_73 (v := (1 : Int32)) (by decide) ?_
      refine zt_iadd hX dX6_qualityOf_74 ?_
      refine zt_calliV hX hY (av := [.int x1, .int x3, .int (x4 + (1 : Int32))]) (c_X6_advance hf) dX6_qualityOf_75 rfl kw_810 kw_812 kw_35 kw_67 kw_813 ⟨rfl, rfl⟩ hy_X6_advance ⟨by decide, by decide⟩ ⟨by decide, by decide⟩ (Nat.le_of_ble_eq_true rfl) (by decide) (zE_73 _ _) rfl rfl (fun r9 σ10 hf => ?_)
      refine zt_istore (L' := [(6, .int r9), (0, .ref (n0 + 73)), (1, .int x1), (3, .int x3), (4, .int x4), (5, .int x5)]) hX dX6_qualityOf_78 (by decide) rfl ?_
      refine zt_iload hX 5 dX6_qualityOf_80 rfl ?_
      refine zt_if_eq hX dX6_qualityOf_82 (tgt := 112) (by decide) (fun c11 => ?_) (fun c11 => ?_)
      · replace hf := z_pos hf c11
        exact zt_sub [1, 2, 3, 4] rfl (t_X6_qualityOf_112 hX hY _ _ _ _ hf)
      · replace hf := z_neg hf c11
        refine zt_iload hX 0 dX6_qualityOf_85 rfl ?_
        refine zt_ldc hX dX6_qualityOf_87 kw_715 ?_
        refine zt_icmp_eq hX dX6_qualityOf_89 (tgt := 112) (by decide) (fun c20 => ?_) (fun c20 => ?_)
        · replace hf := z_pos hf c20
          exact zt_sub [1, 2, 3, 4] rfl (t_X6_qualityOf_112 hX hY _ _ _ _ hf)
        · replace hf := z_neg hf c20
          refine zt_iload hX 0 dX6_qualityOf_92 rfl ?_
          refine zt_aload_n hX 1 dX6_qualityOf_94 rfl rfl ?_
          refine zt_iload_n hX 2 dX6_qualityOf_95 rfl rfl ?_
          refine zt_iconst hX dX6_qualityOf_96 (v := (3 : Int32)) (by decide) ?_
          refine zt_calliV hX hY (av := [.int x1, .int (3 : Int32)]) (c_X6_of hf) dX6_qualityOf_97 rfl kw_729 kw_731 kw_25 kw_67 kw_732 ⟨rfl, rfl⟩ hy_X6_of ⟨by decide, by decide⟩ ⟨by decide, by decide⟩ (Nat.le_of_ble_eq_true rfl) (by decide) (zE_73 _ _) rfl rfl (fun r21 σ22 hf => ?_)
          refine zt_iload hX 4 dX6_qualityOf_100 rfl ?_
          refine zt_iload_n hX 3 dX6_qualityOf_102 rfl rfl ?_
          refine zt_isub hX dX6_qualityOf_103 ?_
          refine zt_iconst hX dX6_qualityOf_104 (v := (1 : Int32)) (by decide) ?_
          refine zt_iadd hX dX6_qualityOf_105 ?_
          refine zt_imul hX dX6_qualityOf_106 ?_
          refine zt_icmp_gt hX dX6_qualityOf_107 (tgt := 112) (by decide) (fun c23 => ?_) (fun c23 => ?_)
          · replace hf := z_pos hf c23
            exact zt_sub [1, 2, 3, 4] rfl (t_X6_qualityOf_112 hX hY _ _ _ _ hf)
          · replace hf := z_neg hf c23
            refine zt_iconst hX dX6_qualityOf_110 (v := (1 : Int32)) (by decide) ?_
            exact zt_iret hX hY dX6_qualityOf_111 hf
    · replace hf := z_neg hf c8
      refine zt_iload hX 4 dX6_qualityOf_39 rfl ?_
      refine zt_if_eq hX dX6_qualityOf_41 (tgt := 59) (by decide) (fun c24 => ?_) (fun c24 => ?_)
      · replace hf := z_pos hf c24
        exact zt_sub [0, 1, 2, 3, 5] rfl (t_X6_qualityOf_59 hX hY ih32 _ _ _ _ _ hf)
      · replace hf := z_neg hf c24
        refine zt_aload_n hX 0 dX6_qualityOf_44 rfl rfl ?_
        refine zt_iload_n hX 1 dX6_qualityOf_45 rfl rfl ?_
        refine zt_iload hX 5 dX6_qualityOf_46 rfl ?_
        refine zt_calliV hX hY (av := [.int x1, .int x6]) (c_X6_statusOf hf) dX6_qualityOf_48 rfl kw_818 kw_820 kw_36 kw_67 kw_821 ⟨rfl, rfl⟩ hy_X6_statusOf ⟨by decide, by decide⟩ ⟨by decide, by decide⟩ (Nat.le_of_ble_eq_true rfl) (by decide) (zE_73 _ _) rfl rfl (fun r26 σ27 hf => ?_)
        refine zt_iconst hX dX6_qualityOf_51 (v := (1 : Int32)) (by decide) ?_
        refine zt_icmp_ne hX dX6_qualityOf_52 (tgt := 59) (by decide) (fun c28 => ?_) (fun c28 => ?_)
        · replace hf := z_neg hf c28
          exact zt_sub [0, 1, 2, 3, 5] rfl (t_X6_qualityOf_59 hX hY ih32 _ _ _ _ _ hf)
        · replace hf := z_pos hf c28
          refine zt_iconst hX dX6_qualityOf_55 (v := (1 : Int32)) (by decide) ?_
          refine zt_goto hX dX6_qualityOf_56 (tgt := 60) (by decide) ?_
          exact zt_sub [0, 1, 2, 3, 5] rfl (t_X6_qualityOf_60 hX hY ih32 _ _ _ _ _ _ hf)
set_option maxHeartbeats 4000000 in
set_option maxRecDepth 100000 in
theorem c_X6_qualityOf {l : Launch} {D : va_G} {cI cJ cM cS : ClassId} {n0 : Nat} {a1 : Int32} {a2 : Int32} {σ : z_S} {Q : Int32 → z_S → Prop} (hf : w_X6_qualityOf a1 a2 σ Q) : z_ci l D cI cJ cM cS n0 yX6_qualityOf cX6_qualityOf 9 .int rm_X6_qualityOf 0 0 [.ref (n0 + 73), .int a1, .int a2] σ Q := by
  refine z_ofi (by decide +kernel) (Nat.le_of_ble_eq_true rfl) (fun p e s m args below meth c hX hY => ?_)
  unfold w_X6_qualityOf at hf
  refine zt_L (L' := [(0, .ref (n0 + 73)), (1, .int a1), (2, .int a2)]) rfl ?_
  refine zt_aload_n hX 0 dX6_qualityOf_0 rfl rfl ?_
  refine zt_iload_n hX 1 dX6_qualityOf_1 rfl rfl ?_
  refine zt_iload_n hX 2 dX6_qualityOf_2 rfl rfl ?_
  refine zt_calliV hX hY (av := [.int a1, .int a2]) (c_X6_isValid hf) dX6_qualityOf_3 rfl kw_838 kw_840 kw_40 kw_67 kw_841 ⟨rfl, rfl⟩ hy_X6_isValid ⟨by decide, by decide⟩ ⟨by decide, by decide⟩ (Nat.le_of_ble_eq_true rfl) (by decide) (zE_73 _ _) rfl rfl (fun r1 σ2 hf => ?_)
  refine zt_if_eq hX dX6_qualityOf_6 (tgt := 11) (by decide) (fun c3 => ?_) (fun c3 => ?_)
  · replace hf := z_pos hf c3
    refine zt_aload_n hX 0 dX6_qualityOf_11 rfl rfl ?_
    refine zt_iload_n hX 1 dX6_qualityOf_12 rfl rfl ?_
    refine zt_iload_n hX 2 dX6_qualityOf_13 rfl rfl ?_
    refine zt_calliV hX hY (av := [.int a1, .int a2]) (c_X6_first hf) dX6_qualityOf_14 rfl kw_842 kw_844 kw_41 kw_67 kw_845 ⟨rfl, rfl⟩ hy_X6_first ⟨by decide, by decide⟩ ⟨by decide, by decide⟩ (Nat.le_of_ble_eq_true rfl) (by decide) (zE_73 _ _) rfl rfl (fun r4 σ5 hf => ?_)
    refine zt_istore_n (L' := [(3, .int r4), (0, .ref (n0 + 73)), (1, .int a1), (2, .int a2)]) hX dX6_qualityOf_17 rfl (by decide) rfl ?_
    refine zt_aload_n hX 1 dX6_qualityOf_18 rfl rfl ?_
    refine zt_iload_n hX 2 dX6_qualityOf_19 rfl rfl ?_
    refine zt_iload_n hX 3 dX6_qualityOf_20 rfl rfl ?_
    refine zt_calliV hX hY (av := [.int a1, .int a2]) (c_X6_last hf) dX6_qualityOf_21 rfl kw_846 kw_848 kw_42 kw_67 kw_849 ⟨rfl, rfl⟩ hy_X6_last ⟨by decide, by decide⟩ ⟨by decide, by decide⟩ (Nat.le_of_ble_eq_true rfl) (by decide) (zE_73 _ _) rfl rfl (fun r6 σ7 hf => ?_)
    refine zt_istore (L' := [(4, .int r6), (3, .int r4), (0, .ref (n0 + 73)), (1, .int a1), (2, .int a2)]) hX dX6_qualityOf_24 (by decide) rfl ?_
    refine zt_iconst hX dX6_qualityOf_26 (v := (1 : Int32)) (by decide) ?_
    refine zt_istore (L' := [(5, .int (1 : Int32)), (4, .int r6), (3, .int r4), (0, .ref (n0 + 73)), (1, .int a1), (2, .int a2)]) hX dX6_qualityOf_27 (by decide) rfl ?_
    refine zt_iload_n hX 2 dX6_qualityOf_29 rfl rfl ?_
    refine zt_istore (L' := [(6, .int r4), (5, .int (1 : Int32)), (4, .int r6), (3, .int r4), (0, .ref (n0 + 73)), (1, .int a1), (2, .int a2)]) hX dX6_qualityOf_30 (by decide) rfl ?_
    exact zt_sub [4, 5, 3, 2, 1, 0] rfl (t_X6_qualityOf_32 hX hY 400 _ _ _ _ _ _ hf)
  · replace hf := z_neg hf c3
    refine zt_iconst hX dX6_qualityOf_9 (v := (0 : Int32)) (by decide) ?_
    exact zt_iret hX hY dX6_qualityOf_10 hf

theorem dX6_energyOf_0 : decode cX6_energyOf 0 = .ok (.aload_n 0, 1) := by decide +kernel
theorem dX6_energyOf_1 : decode cX6_energyOf 1 = .ok (.iload_n 1, 1) := by decide +kernel
theorem dX6_energyOf_2 : decode cX6_energyOf 2 = .ok (.iload_n 2, 1) := by decide +kernel
theorem dX6_energyOf_3 : decode cX6_energyOf 3 = .ok (.invokevirtual 116, 3) := by decide +kernel
theorem dX6_energyOf_6 : decode cX6_energyOf 6 = .ok (.istore_n 3, 1) := by decide +kernel
theorem dX6_energyOf_7 : decode cX6_energyOf 7 = .ok (.aload_n 0, 1) := by decide +kernel
theorem dX6_energyOf_8 : decode cX6_energyOf 8 = .ok (.iload_n 1, 1) := by decide +kernel
theorem dX6_energyOf_9 : decode cX6_energyOf 9 = .ok (.iload_n 2, 1) := by decide +kernel
theorem dX6_energyOf_10 : decode cX6_energyOf 10 = .ok (.invokevirtual 110, 3) := by decide +kernel
theorem dX6_energyOf_13 : decode cX6_energyOf 13 = .ok (.istore 4, 2) := by decide +kernel
theorem dX6_energyOf_15 : decode cX6_energyOf 15 = .ok (.aload_n 0, 1) := by decide +kernel
theorem dX6_energyOf_16 : decode cX6_energyOf 16 = .ok (.iload_n 1, 1) := by decide +kernel
theorem dX6_energyOf_17 : decode cX6_energyOf 17 = .ok (.iload_n 2, 1) := by decide +kernel
theorem dX6_energyOf_18 : decode cX6_energyOf 18 = .ok (.invokevirtual 113, 3) := by decide +kernel
theorem dX6_energyOf_21 : decode cX6_energyOf 21 = .ok (.istore 5, 2) := by decide +kernel
theorem dX6_energyOf_23 : decode cX6_energyOf 23 = .ok (.iload_n 3, 1) := by decide +kernel
theorem dX6_energyOf_24 : decode cX6_energyOf 24 = .ok (.tableswitch 168 0 3 #[32, 39, 92, 134], 32) := by decide +kernel
theorem dX6_energyOf_56 : decode cX6_energyOf 56 = .ok (.aload_n 0, 1) := by decide +kernel
theorem dX6_energyOf_57 : decode cX6_energyOf 57 = .ok (.iload_n 1, 1) := by decide +kernel
theorem dX6_energyOf_58 : decode cX6_energyOf 58 = .ok (.iload_n 2, 1) := by decide +kernel
theorem dX6_energyOf_59 : decode cX6_energyOf 59 = .ok (.invokevirtual 119, 3) := by decide +kernel
theorem dX6_energyOf_62 : decode cX6_energyOf 62 = .ok (.ireturn, 1) := by decide +kernel
theorem dX6_energyOf_63 : decode cX6_energyOf 63 = .ok (.aload_n 0, 1) := by decide +kernel
theorem dX6_energyOf_64 : decode cX6_energyOf 64 = .ok (.iload_n 1, 1) := by decide +kernel
theorem dX6_energyOf_65 : decode cX6_energyOf 65 = .ok (.iload 4, 2) := by decide +kernel
theorem dX6_energyOf_67 : decode cX6_energyOf 67 = .ok (.iload 5, 2) := by decide +kernel
theorem dX6_energyOf_69 : decode cX6_energyOf 69 = .ok (.iconst 1, 1) := by decide +kernel
theorem dX6_energyOf_70 : decode cX6_energyOf 70 = .ok (.iadd, 1) := by decide +kernel
theorem dX6_energyOf_71 : decode cX6_energyOf 71 = .ok (.invokevirtual 92, 3) := by decide +kernel
theorem dX6_energyOf_74 : decode cX6_energyOf 74 = .ok (.aload_n 0, 1) := by decide +kernel
theorem dX6_energyOf_75 : decode cX6_energyOf 75 = .ok (.iload_n 1, 1) := by decide +kernel
theorem dX6_energyOf_76 : decode cX6_energyOf 76 = .ok (.iconst 1, 1) := by decide +kernel
theorem dX6_energyOf_77 : decode cX6_energyOf 77 = .ok (.invokevirtual 44, 3) := by decide +kernel
theorem dX6_energyOf_80 : decode cX6_energyOf 80 = .ok (.imul, 1) := by decide +kernel
theorem dX6_energyOf_81 : decode cX6_energyOf 81 = .ok (.istore 6, 2) := by decide +kernel
theorem dX6_energyOf_83 : decode cX6_energyOf 83 = .ok (.iload 5, 2) := by decide +kernel
theorem dX6_energyOf_85 : decode cX6_energyOf 85 = .ok (.iload 4, 2) := by decide +kernel
theorem dX6_energyOf_87 : decode cX6_energyOf 87 = .ok (.isub, 1) := by decide +kernel
theorem dX6_energyOf_88 : decode cX6_energyOf 88 = .ok (.iconst 1, 1) := by decide +kernel
theorem dX6_energyOf_89 : decode cX6_energyOf 89 = .ok (.iadd, 1) := by decide +kernel
theorem dX6_energyOf_90 : decode cX6_energyOf 90 = .ok (.istore 7, 2) := by decide +kernel
theorem dX6_energyOf_92 : decode cX6_energyOf 92 = .ok (.iload 6, 2) := by decide +kernel
theorem dX6_energyOf_94 : decode cX6_energyOf 94 = .ok (.iload 7, 2) := by decide +kernel
theorem dX6_energyOf_96 : decode cX6_energyOf 96 = .ok (.idiv, 1) := by decide +kernel
theorem dX6_energyOf_97 : decode cX6_energyOf 97 = .ok (.iload_n 2, 1) := by decide +kernel
theorem dX6_energyOf_98 : decode cX6_energyOf 98 = .ok (.iload 4, 2) := by decide +kernel
theorem dX6_energyOf_100 : decode cX6_energyOf 100 = .ok (.isub, 1) := by decide +kernel
theorem dX6_energyOf_101 : decode cX6_energyOf 101 = .ok (.iload 6, 2) := by decide +kernel
theorem dX6_energyOf_103 : decode cX6_energyOf 103 = .ok (.iload 7, 2) := by decide +kernel
theorem dX6_energyOf_105 : decode cX6_energyOf 105 = .ok (.irem, 1) := by decide +kernel
theorem dX6_energyOf_106 : decode cX6_energyOf 106 = .ok (.if_icmp .ge 7, 3) := by decide +kernel
theorem dX6_energyOf_109 : decode cX6_energyOf 109 = .ok (.iconst 1, 1) := by decide +kernel
theorem dX6_energyOf_110 : decode cX6_energyOf 110 = .ok (.goto 4, 3) := by decide +kernel
theorem dX6_energyOf_113 : decode cX6_energyOf 113 = .ok (.iconst 0, 1) := by decide +kernel
theorem dX6_energyOf_114 : decode cX6_energyOf 114 = .ok (.iadd, 1) := by decide +kernel
theorem dX6_energyOf_115 : decode cX6_energyOf 115 = .ok (.ireturn, 1) := by decide +kernel
theorem dX6_energyOf_116 : decode cX6_energyOf 116 = .ok (.aload_n 0, 1) := by decide +kernel
theorem dX6_energyOf_117 : decode cX6_energyOf 117 = .ok (.iload_n 1, 1) := by decide +kernel
theorem dX6_energyOf_118 : decode cX6_energyOf 118 = .ok (.iload 4, 2) := by decide +kernel
theorem dX6_energyOf_120 : decode cX6_energyOf 120 = .ok (.iconst 1, 1) := by decide +kernel
theorem dX6_energyOf_121 : decode cX6_energyOf 121 = .ok (.isub, 1) := by decide +kernel
theorem dX6_energyOf_122 : decode cX6_energyOf 122 = .ok (.invokevirtual 119, 3) := by decide +kernel
theorem dX6_energyOf_125 : decode cX6_energyOf 125 = .ok (.iload 5, 2) := by decide +kernel
theorem dX6_energyOf_127 : decode cX6_energyOf 127 = .ok (.iconst 1, 1) := by decide +kernel
theorem dX6_energyOf_128 : decode cX6_energyOf 128 = .ok (.iadd, 1) := by decide +kernel
theorem dX6_energyOf_129 : decode cX6_energyOf 129 = .ok (.iload_n 2, 1) := by decide +kernel
theorem dX6_energyOf_130 : decode cX6_energyOf 130 = .ok (.isub, 1) := by decide +kernel
theorem dX6_energyOf_131 : decode cX6_energyOf 131 = .ok (.imul, 1) := by decide +kernel
theorem dX6_energyOf_132 : decode cX6_energyOf 132 = .ok (.aload_n 0, 1) := by decide +kernel
theorem dX6_energyOf_133 : decode cX6_energyOf 133 = .ok (.iload_n 1, 1) := by decide +kernel
theorem dX6_energyOf_134 : decode cX6_energyOf 134 = .ok (.iload 5, 2) := by decide +kernel
theorem dX6_energyOf_136 : decode cX6_energyOf 136 = .ok (.iconst 1, 1) := by decide +kernel
theorem dX6_energyOf_137 : decode cX6_energyOf 137 = .ok (.iadd, 1) := by decide +kernel
theorem dX6_energyOf_138 : decode cX6_energyOf 138 = .ok (.invokevirtual 119, 3) := by decide +kernel
theorem dX6_energyOf_141 : decode cX6_energyOf 141 = .ok (.iload_n 2, 1) := by decide +kernel
theorem dX6_energyOf_142 : decode cX6_energyOf 142 = .ok (.iload 4, 2) := by decide +kernel
theorem dX6_energyOf_144 : decode cX6_energyOf 144 = .ok (.isub, 1) := by decide +kernel
theorem dX6_energyOf_145 : decode cX6_energyOf 145 = .ok (.iconst 1, 1) := by decide +kernel
theorem dX6_energyOf_146 : decode cX6_energyOf 146 = .ok (.iadd, 1) := by decide +kernel
theorem dX6_energyOf_147 : decode cX6_energyOf 147 = .ok (.imul, 1) := by decide +kernel
theorem dX6_energyOf_148 : decode cX6_energyOf 148 = .ok (.iadd, 1) := by decide +kernel
theorem dX6_energyOf_149 : decode cX6_energyOf 149 = .ok (.iload 5, 2) := by decide +kernel
theorem dX6_energyOf_151 : decode cX6_energyOf 151 = .ok (.iload 4, 2) := by decide +kernel
theorem dX6_energyOf_153 : decode cX6_energyOf 153 = .ok (.isub, 1) := by decide +kernel
theorem dX6_energyOf_154 : decode cX6_energyOf 154 = .ok (.iconst 2, 1) := by decide +kernel
theorem dX6_energyOf_155 : decode cX6_energyOf 155 = .ok (.iadd, 1) := by decide +kernel
theorem dX6_energyOf_156 : decode cX6_energyOf 156 = .ok (.idiv, 1) := by decide +kernel
theorem dX6_energyOf_157 : decode cX6_energyOf 157 = .ok (.ireturn, 1) := by decide +kernel
theorem dX6_energyOf_158 : decode cX6_energyOf 158 = .ok (.aload_n 0, 1) := by decide +kernel
theorem dX6_energyOf_159 : decode cX6_energyOf 159 = .ok (.iload_n 1, 1) := by decide +kernel
theorem dX6_energyOf_160 : decode cX6_energyOf 160 = .ok (.iload 4, 2) := by decide +kernel
theorem dX6_energyOf_162 : decode cX6_energyOf 162 = .ok (.iconst 1, 1) := by decide +kernel
theorem dX6_energyOf_163 : decode cX6_energyOf 163 = .ok (.isub, 1) := by decide +kernel
theorem dX6_energyOf_164 : decode cX6_energyOf 164 = .ok (.invokevirtual 107, 3) := by decide +kernel
theorem dX6_energyOf_167 : decode cX6_energyOf 167 = .ok (.ifCond .eq 15, 3) := by decide +kernel
theorem dX6_energyOf_170 : decode cX6_energyOf 170 = .ok (.aload_n 0, 1) := by decide +kernel
theorem dX6_energyOf_171 : decode cX6_energyOf 171 = .ok (.iload_n 1, 1) := by decide +kernel
theorem dX6_energyOf_172 : decode cX6_energyOf 172 = .ok (.iload 4, 2) := by decide +kernel
theorem dX6_energyOf_174 : decode cX6_energyOf 174 = .ok (.iconst 1, 1) := by decide +kernel
theorem dX6_energyOf_175 : decode cX6_energyOf 175 = .ok (.isub, 1) := by decide +kernel
theorem dX6_energyOf_176 : decode cX6_energyOf 176 = .ok (.invokevirtual 119, 3) := by decide +kernel
theorem dX6_energyOf_179 : decode cX6_energyOf 179 = .ok (.goto 12, 3) := by decide +kernel
theorem dX6_energyOf_182 : decode cX6_energyOf 182 = .ok (.aload_n 0, 1) := by decide +kernel
theorem dX6_energyOf_183 : decode cX6_energyOf 183 = .ok (.iload_n 1, 1) := by decide +kernel
theorem dX6_energyOf_184 : decode cX6_energyOf 184 = .ok (.iload 5, 2) := by decide +kernel
theorem dX6_energyOf_186 : decode cX6_energyOf 186 = .ok (.iconst 1, 1) := by decide +kernel
theorem dX6_energyOf_187 : decode cX6_energyOf 187 = .ok (.iadd, 1) := by decide +kernel
theorem dX6_energyOf_188 : decode cX6_energyOf 188 = .ok (.invokevirtual 119, 3) := by decide +kernel
theorem dX6_energyOf_191 : decode cX6_energyOf 191 = .ok (.ireturn, 1) := by decide +kernel
theorem dX6_energyOf_192 : decode cX6_energyOf 192 = .ok (.iconst 0, 1) := by decide +kernel
theorem dX6_energyOf_193 : decode cX6_energyOf 193 = .ok (.ireturn, 1) := by decide +kernel
abbrev rm_X6_energyOf : Room := { frames := 9, cells := 0, slots := 0, locals := 210 }
theorem hy_X6_energyOf : yX6_energyOf.cls ≠ "java/lang/invoke/MethodHandle" ∧ yX6_energyOf.cls ≠ "java/lang/invoke/VarHandle" ∧ (parseMethodDescriptor yX6_energyOf.desc).map (fun d => d.parameters.length) = some 2 := by decide +kernel
def w_X6_energyOf (a1 : Int32) (a2 : Int32) (σ : z_S) (Q : Int32 → z_S → Prop) : Prop :=
  w_X6_qualityOf a1 a2 σ (fun r1 σ2 => w_X6_first a1 a2 σ2 (fun r3 σ4 => w_X6_last a1 a2 σ4 (fun r5 σ6 => if r1 = (0 : Int32) then (w_X6_validOf a1 a2 σ6 (fun r8 σ9 => Q r8 σ9)) else (if r1 = (1 : Int32) then (w_X6_advance a1 r3 (r5 + (1 : Int32)) σ6 (fun r11 σ12 => w_X6_of a1 (1 : Int32) σ12 (fun r13 σ14 => ∀ y15 : Int32, y15 = (r11 * r13) → ∀ y16 : Int32, y16 = ((r5 - r3) + (1 : Int32)) → ¬ y16 = 0 ∧ ¬ y16 = 0 ∧ if (y15 - y15 / y16 * y16) ≤ (a2 - r3) then (Q ((y15 / y16) + (0 : Int32)) σ14) else (Q ((y15 / y16) + (1 : Int32)) σ14)))) else (if r1 = (2 : Int32) then (w_X6_validOf a1 (r3 - (1 : Int32)) σ6 (fun r21 σ22 => w_X6_validOf a1 (r5 + (1 : Int32)) σ22 (fun r23 σ24 => ¬ ((r5 - r3) + (2 : Int32)) = 0 ∧ Q (((r21 * ((r5 + (1 : Int32)) - a2)) + (r23 * ((a2 - r3) + (1 : Int32)))) / ((r5 - r3) + (2 : Int32))) σ24))) else (if r1 = (3 : Int32) then (w_X6_isValid a1 (r3 - (1 : Int32)) σ6 (fun r27 σ28 => if r27 = 0 then (w_X6_validOf a1 (r5 + (1 : Int32)) σ28 (fun r30 σ31 => Q r30 σ31)) else (w_X6_validOf a1 (r3 - (1 : Int32)) σ28 (fun r32 σ33 => Q r32 σ33)))) else (Q (0 : Int32) σ6)))))))
set_option maxHeartbeats 4000000 in
set_option maxRecDepth 100000 in
theorem c_X6_energyOf {l : Launch} {D : va_G} {cI cJ cM cS : ClassId} {n0 : Nat} {a1 : Int32} {a2 : Int32} {σ : z_S} {Q : Int32 → z_S → Prop} (hf : w_X6_energyOf a1 a2 σ Q) : z_ci l D cI cJ cM cS n0 yX6_energyOf cX6_energyOf 8 .int rm_X6_energyOf 0 0 [.ref (n0 + 73), .int a1, .int a2] σ Q := by
  refine z_ofi (by decide +kernel) (Nat.le_of_ble_eq_true rfl) (fun p e s m args below meth c hX hY => ?_)
  unfold w_X6_energyOf at hf
  refine zt_L (L' := [(0, .ref (n0 + 73)), (1, .int a1), (2, .int a2)]) rfl ?_
  refine zt_aload_n hX 0 dX6_energyOf_0 rfl rfl ?_
  refine zt_iload_n hX 1 dX6_energyOf_1 rfl rfl ?_
  refine zt_iload_n hX 2 dX6_energyOf_2 rfl rfl ?_
  refine zt_calliV hX hY (av := [.int a1, .int a2]) (c_X6_qualityOf hf) dX6_energyOf_3 rfl kw_834 kw_836 kw_39 kw_67 kw_837 ⟨rfl, rfl⟩ hy_X6_qualityOf ⟨by decide, by decide⟩ ⟨by decide, by decide⟩ (Nat.le_of_ble_eq_true rfl) (by decide) (zE_73 _ _) rfl rfl (fun r1 σ2 hf => ?_)
  refine zt_istore_n (L' := [(3, .int r1), (0, .ref (n0 + 73)), (1, .int a1), (2, .int a2)]) hX dX6_energyOf_6 rfl (by decide) rfl ?_
  refine zt_aload_n hX 1 dX6_energyOf_7 rfl rfl ?_
  refine zt_iload_n hX 2 dX6_energyOf_8 rfl rfl ?_
  refine zt_iload_n hX 3 dX6_energyOf_9 rfl rfl ?_
  refine zt_calliV hX hY (av := [.int a1, .int a2]) (c_X6_first hf) dX6_energyOf_10 rfl kw_842 kw_844 kw_41 kw_67 kw_845 ⟨rfl, rfl⟩ hy_X6_first ⟨by decide, by decide⟩ ⟨by decide, by decide⟩ (Nat.le_of_ble_eq_true rfl) (by decide) (zE_73 _ _) rfl rfl (fun r3 σ4 hf => ?_)
  refine zt_istore (L' := [(4, .int r3), (3, .int r1), (0, .ref (n0 + 73)), (1, .int a1), (2, .int a2)]) hX dX6_energyOf_13 (by decide) rfl ?_
  refine zt_aload_n hX 2 dX6_energyOf_15 rfl rfl ?_
  refine zt_iload_n hX 3 dX6_energyOf_16 rfl rfl ?_
  refine zt_iload_n hX 4 dX6_energyOf_17 rfl rfl ?_
  refine zt_calliV hX hY (av := [.int a1, .int a2]) (c_X6_last hf) dX6_energyOf_18 rfl kw_846 kw_848 kw_42 kw_67 kw_849 ⟨rfl, rfl⟩ hy_X6_last ⟨by decide, by decide⟩ ⟨by decide, by decide⟩ (Nat.le_of_ble_eq_true rfl) (by decide) (zE_73 _ _) rfl rfl (fun r5 σ6 hf => ?_)
  refine zt_istore (L' := [(5, .int r5), (4, .int r3), (3, .int r1), (0, .ref (n0 + 73)), (1, .int a1), (2, .int a2)]) hX dX6_energyOf_21 (by decide) rfl ?_
  refine zt_iload_n hX 2 dX6_energyOf_23 rfl rfl ?_
  by_cases c7 : r1 = (0 : Int32)
  · replace hf := z_pos hf c7
    refine zt_tabIn hX dX6_energyOf_24 (by rw [c7]; decide) (by rw [c7]; decide) (off := 32) (by rw [c7]; rfl) (tgt := 56) (by decide) ?_
    refine zt_aload_n hX 3 dX6_energyOf_56 rfl rfl ?_
    refine zt_iload_n hX 4 dX6_energyOf_57 rfl rfl ?_
    refine zt_iload_n hX 5 dX6_energyOf_58 rfl rfl ?_
    refine zt_calliV hX hY (av := [.int a1, .int a2]) (c_X6_validOf hf) dX6_energyOf_59 rfl kw_850 kw_852 kw_43 kw_67 kw_853 ⟨rfl, rfl⟩ hy_X6_validOf ⟨by decide, by decide⟩ ⟨by decide, by decide⟩ (Nat.le_of_ble_eq_true rfl) (by decide) (zE_73 _ _) rfl rfl (fun r8 σ9 hf => ?_)
    exact zt_iret hX hY dX6_energyOf_62 hf
  replace hf := z_neg hf c7
  by_cases c10 : r1 = (1 : Int32)
  · replace hf := z_pos hf c10
    refine zt_tabIn hX dX6_energyOf_24 (by rw [c10]; decide) (by rw [c10]; decide) (off := 39) (by rw [c10]; rfl) (tgt := 63) (by decide) ?_
    refine zt_aload_n hX 3 dX6_energyOf_63 rfl rfl ?_
    refine zt_iload_n hX 4 dX6_energyOf_64 rfl rfl ?_
    refine zt_iload hX 1 dX6_energyOf_65 rfl ?_
    refine zt_iload hX 0 dX6_energyOf_67 rfl ?_
    refine zt_iconst hX dX6_energyOf_69 (v := (1 : Int32)) (by decide) ?_
    refine zt_iadd hX dX6_energyOf_70 ?_
    refine zt_calliV hX hY (av := [.int a1, .int r3, .int (r5 + (1 : Int32))]) (c_X6_advance hf) dX6_energyOf_71 rfl kw_810 kw_812 kw_35 kw_67 kw_813 ⟨rfl, rfl⟩ hy_X6_advance ⟨by decide, by decide⟩ ⟨by decide, by decide⟩ (Nat.le_of_ble_eq_true rfl) (by decide) (zE_73 _ _) rfl rfl (fun r11 σ12 hf => ?_)
    refine zt_aload_n hX 3 dX6_energyOf_74 rfl rfl ?_
    refine zt_iload_n hX 4 dX6_energyOf_75 rfl rfl ?_
    refine zt_iconst hX dX6_energyOf_76 (v := (1 : Int32)) (by decide) ?_
    refine zt_calliV hX hY (av := [.int a1, .int (1 : Int32)]) (c_X6_of hf) dX6_energyOf_77 rfl kw_729 kw_731 kw_25 kw_67 kw_732 ⟨rfl, rfl⟩ hy_X6_of ⟨by decide, by decide⟩ ⟨by decide, by decide⟩ (Nat.le_of_ble_eq_true rfl) (by decide) (zE_73 _ _) rfl rfl (fun r13 σ14 hf => ?_)
    refine zt_imul hX dX6_energyOf_80 ?_
    refine zt_nmi (fun y15 e15 => ?_)
    replace hf := hf y15 e15
    refine zt_istore (L' := [(6, .int y15), (5, .int r5), (4, .int r3), (3, .int r1), (0, .ref (n0 + 73)), (1, .int a1), (2, .int a2)]) hX dX6_energyOf_81 (by decide) rfl ?_
    refine zt_iload hX 1 dX6_energyOf_83 rfl ?_
    refine zt_iload hX 2 dX6_energyOf_85 rfl ?_
    refine zt_isub hX dX6_energyOf_87 ?_
    refine zt_iconst hX dX6_energyOf_88 (v := (1 : Int32)) (by decide) ?_
    refine zt_iadd hX dX6_energyOf_89 ?_
    refine zt_nmi (fun y16 e16 => ?_)
    replace hf := hf y16 e16
    refine zt_istore (L' := [(7, .int y16), (6, .int y15), (5, .int r5), (4, .int r3), (3, .int r1), (0, .ref (n0 + 73)), (1, .int a1), (2, .int a2)]) hX dX6_energyOf_90 (by decide) rfl ?_
    refine zt_iload hX 1 dX6_energyOf_92 rfl ?_
    refine zt_iload hX 0 dX6_energyOf_94 rfl ?_
    obtain ⟨h17, hf⟩ := hf
    refine zt_idiv hX dX6_energyOf_96 h17 ?_
    refine zt_iload_n hX 7 dX6_energyOf_97 rfl rfl ?_
    refine zt_iload hX 3 dX6_energyOf_98 rfl ?_
    refine zt_isub hX dX6_energyOf_100 ?_
    refine zt_iload hX 1 dX6_energyOf_101 rfl ?_
    refine zt_iload hX 0 dX6_energyOf_103 rfl ?_
    obtain ⟨h18, hf⟩ := hf
    refine zt_irem hX dX6_energyOf_105 h18 ?_
    refine zt_icmp_ge hX dX6_energyOf_106 (tgt := 113) (by decide) (fun c19 => ?_) (fun c19 => ?_)
    · replace hf := z_pos hf c19
      refine zt_iconst hX dX6_energyOf_113 (v := (0 : Int32)) (by decide) ?_
      refine zt_iadd hX dX6_energyOf_114 ?_
      exact zt_iret hX hY dX6_energyOf_115 hf
    · replace hf := z_neg hf c19
      refine zt_iconst hX dX6_energyOf_109 (v := (1 : Int32)) (by decide) ?_
      refine zt_goto hX dX6_energyOf_110 (tgt := 114) (by decide) ?_
      refine zt_iadd hX dX6_energyOf_114 ?_
      exact zt_iret hX hY dX6_energyOf_115 hf
  replace hf := z_neg hf c10
  by_cases c20 : r1 = (2 : Int32)
  · replace hf := z_pos hf c20
    refine zt_tabIn hX dX6_energyOf_24 (by rw [c20]; decide) (by rw [c20]; decide) (off := 92) (by rw [c20]; rfl) (tgt := 116) (by decide) ?_
    refine zt_aload_n hX 3 dX6_energyOf_116 rfl rfl ?_
    refine zt_iload_n hX 4 dX6_energyOf_117 rfl rfl ?_
    refine zt_iload hX 1 dX6_energyOf_118 rfl ?_
    refine zt_iconst hX dX6_energyOf_120 (v := (1 : Int32)) (by decide) ?_
    refine zt_isub hX dX6_energyOf_121 ?_
    refine zt_calliV hX hY (av := [.int a1, .int (r3 - (1 : Int32))]) (c_X6_validOf hf) dX6_energyOf_122 rfl kw_850 kw_852 kw_43 kw_67 kw_853 ⟨rfl, rfl⟩ hy_X6_validOf ⟨by decide, by decide⟩ ⟨by decide, by decide⟩ (Nat.le_of_ble_eq_true rfl) (by decide) (zE_73 _ _) rfl rfl (fun r21 σ22 hf => ?_)
    refine zt_iload hX 0 dX6_energyOf_125 rfl ?_
    refine zt_iconst hX dX6_energyOf_127 (v := (1 : Int32)) (by decide) ?_
    refine zt_iadd hX dX6_energyOf_128 ?_
    refine zt_iload_n hX 5 dX6_energyOf_129 rfl rfl ?_
    refine zt_isub hX dX6_energyOf_130 ?_
    refine zt_imul hX dX6_energyOf_131 ?_
    refine zt_aload_n hX 3 dX6_energyOf_132 rfl rfl ?_
    refine zt_iload_n hX 4 dX6_energyOf_133 rfl rfl ?_
    refine zt_iload hX 0 dX6_energyOf_134 rfl ?_
    refine zt_iconst hX dX6_energyOf_136 (v := (1 : Int32)) (by decide) ?_
    refine zt_iadd hX dX6_energyOf_137 ?_
    refine zt_calliV hX hY (av := [.int a1, .int (r5 + (1 : Int32))]) (c_X6_validOf hf) dX6_energyOf_138 rfl kw_850 kw_852 kw_43 kw_67 kw_853 ⟨rfl, rfl⟩ hy_X6_validOf ⟨by decide, by decide⟩ ⟨by decide, by decide⟩ (Nat.le_of_ble_eq_true rfl) (by decide) (zE_73 _ _) rfl rfl (fun r23 σ24 hf => ?_)
    refine zt_iload_n hX 5 dX6_energyOf_141 rfl rfl ?_
    refine zt_iload hX 1 dX6_energyOf_142 rfl ?_
    refine zt_isub hX dX6_energyOf_144 ?_
    refine zt_iconst hX dX6_energyOf_145 (v := (1 : Int32)) (by decide) ?_
    refine zt_iadd hX dX6_energyOf_146 ?_
    refine zt_imul hX dX6_energyOf_147 ?_
    refine zt_iadd hX dX6_energyOf_148 ?_
    refine zt_iload hX 0 dX6_energyOf_149 rfl ?_
    refine zt_iload hX 1 dX6_energyOf_151 rfl ?_
    refine zt_isub hX dX6_energyOf_153 ?_
    refine zt_iconst hX dX6_energyOf_154 (v := (2 : Int32)) (by decide) ?_
    refine zt_iadd hX dX6_energyOf_155 ?_
    obtain ⟨h25, hf⟩ := hf
    refine zt_idiv hX dX6_energyOf_156 h25 ?_
    exact zt_iret hX hY dX6_energyOf_157 hf
  replace hf := z_neg hf c20
  by_cases c26 : r1 = (3 : Int32)
  · replace hf := z_pos hf c26
    refine zt_tabIn hX dX6_energyOf_24 (by rw [c26]; decide) (by rw [c26]; decide) (off := 134) (by rw [c26]; rfl) (tgt := 158) (by decide) ?_
    refine zt_aload_n hX 3 dX6_energyOf_158 rfl rfl ?_
    refine zt_iload_n hX 4 dX6_energyOf_159 rfl rfl ?_
    refine zt_iload hX 1 dX6_energyOf_160 rfl ?_
    refine zt_iconst hX dX6_energyOf_162 (v := (1 : Int32)) (by decide) ?_
    refine zt_isub hX dX6_energyOf_163 ?_
    refine zt_calliV hX hY (av := [.int a1, .int (r3 - (1 : Int32))]) (c_X6_isValid hf) dX6_energyOf_164 rfl kw_838 kw_840 kw_40 kw_67 kw_841 ⟨rfl, rfl⟩ hy_X6_isValid ⟨by decide, by decide⟩ ⟨by decide, by decide⟩ (Nat.le_of_ble_eq_true rfl) (by decide) (zE_73 _ _) rfl rfl (fun r27 σ28 hf => ?_)
    refine zt_if_eq hX dX6_energyOf_167 (tgt := 182) (by decide) (fun c29 => ?_) (fun c29 => ?_)
    · replace hf := z_pos hf c29
      refine zt_aload_n hX 3 dX6_energyOf_182 rfl rfl ?_
      refine zt_iload_n hX 4 dX6_energyOf_183 rfl rfl ?_
      refine zt_iload hX 0 dX6_energyOf_184 rfl ?_
      refine zt_iconst hX dX6_energyOf_186 (v := (1 : Int32)) (by decide) ?_
      refine zt_iadd hX dX6_energyOf_187 ?_
      refine zt_calliV hX hY (av := [.int a1, .int (r5 + (1 : Int32))]) (c_X6_validOf hf) dX6_energyOf_188 rfl kw_850 kw_852 kw_43 kw_67 kw_853 ⟨rfl, rfl⟩ hy_X6_validOf ⟨by decide, by decide⟩ ⟨by decide, by decide⟩ (Nat.le_of_ble_eq_true rfl) (by decide) (zE_73 _ _) rfl rfl (fun r30 σ31 hf => ?_)
      exact zt_iret hX hY dX6_energyOf_191 hf
    · replace hf := z_neg hf c29
      refine zt_aload_n hX 3 dX6_energyOf_170 rfl rfl ?_
      refine zt_iload_n hX 4 dX6_energyOf_171 rfl rfl ?_
      refine zt_iload hX 1 dX6_energyOf_172 rfl ?_
      refine zt_iconst hX dX6_energyOf_174 (v := (1 : Int32)) (by decide) ?_
      refine zt_isub hX dX6_energyOf_175 ?_
      refine zt_calliV hX hY (av := [.int a1, .int (r3 - (1 : Int32))]) (c_X6_validOf hf) dX6_energyOf_176 rfl kw_850 kw_852 kw_43 kw_67 kw_853 ⟨rfl, rfl⟩ hy_X6_validOf ⟨by decide, by decide⟩ ⟨by decide, by decide⟩ (Nat.le_of_ble_eq_true rfl) (by decide) (zE_73 _ _) rfl rfl (fun r32 σ33 hf => ?_)
      refine zt_goto hX dX6_energyOf_179 (tgt := 191) (by decide) ?_
      exact zt_iret hX hY dX6_energyOf_191 hf
  replace hf := z_neg hf c26
  have qc7 := lv_neT c7 (show (0 : Int32).toInt = 0 from rfl)
  have qc10 := lv_neT c10 (show (1 : Int32).toInt = 1 from rfl)
  have qc20 := lv_neT c20 (show (2 : Int32).toInt = 2 from rfl)
  have qc26 := lv_neT c26 (show (3 : Int32).toInt = 3 from rfl)
  refine zt_tabOut hX dX6_energyOf_24 (by omega) (tgt := 192) (by decide) ?_
  refine zt_iconst hX dX6_energyOf_192 (v := (0 : Int32)) (by decide) ?_
  exact zt_iret hX hY dX6_energyOf_193 hf

theorem dX6_energy_0 : decode cX6_energy 0 = .ok (.aload_n 0, 1) := by decide +kernel
theorem dX6_energy_1 : decode cX6_energy 1 = .ok (.iload_n 1, 1) := by decide +kernel
theorem dX6_energy_2 : decode cX6_energy 2 = .ok (.iload_n 2, 1) := by decide +kernel
theorem dX6_energy_3 : decode cX6_energy 3 = .ok (.invokevirtual 101, 3) := by decide +kernel
theorem dX6_energy_6 : decode cX6_energy 6 = .ok (.ifCond .eq 12, 3) := by decide +kernel
theorem dX6_energy_9 : decode cX6_energy 9 = .ok (.aload_n 0, 1) := by decide +kernel
theorem dX6_energy_10 : decode cX6_energy 10 = .ok (.iload_n 1, 1) := by decide +kernel
theorem dX6_energy_11 : decode cX6_energy 11 = .ok (.iload_n 2, 1) := by decide +kernel
theorem dX6_energy_12 : decode cX6_energy 12 = .ok (.invokevirtual 122, 3) := by decide +kernel
theorem dX6_energy_15 : decode cX6_energy 15 = .ok (.goto 5, 3) := by decide +kernel
theorem dX6_energy_18 : decode cX6_energy 18 = .ok (.ldc 57, 2) := by decide +kernel
theorem dX6_energy_20 : decode cX6_energy 20 = .ok (.ireturn, 1) := by decide +kernel
abbrev rm_X6_energy : Room := { frames := 10, cells := 0, slots := 0, locals := 237 }
theorem hy_X6_energy : yX6_energy.cls ≠ "java/lang/invoke/MethodHandle" ∧ yX6_energy.cls ≠ "java/lang/invoke/VarHandle" ∧ (parseMethodDescriptor yX6_energy.desc).map (fun d => d.parameters.length) = some 2 := by decide +kernel
def w_X6_energy (a1 : Int32) (a2 : Int32) (σ : z_S) (Q : Int32 → z_S → Prop) : Prop :=
  w_X6_isInterval a1 a2 σ (fun r1 σ2 => if r1 = 0 then (Q (-2000000001 : Int32) σ2) else (w_X6_energyOf a1 a2 σ2 (fun r4 σ5 => Q r4 σ5)))
set_option maxHeartbeats 4000000 in
set_option maxRecDepth 100000 in
theorem c_X6_energy {l : Launch} {D : va_G} {cI cJ cM cS : ClassId} {n0 : Nat} {a1 : Int32} {a2 : Int32} {σ : z_S} {Q : Int32 → z_S → Prop} (hf : w_X6_energy a1 a2 σ Q) : z_ci l D cI cJ cM cS n0 yX6_energy cX6_energy 3 .int rm_X6_energy 0 0 [.ref (n0 + 73), .int a1, .int a2] σ Q := by
  refine z_ofi (by decide +kernel) (Nat.le_of_ble_eq_true rfl) (fun p e s m args below meth c hX hY => ?_)
  unfold w_X6_energy at hf
  refine zt_L (L' := [(0, .ref (n0 + 73)), (1, .int a1), (2, .int a2)]) rfl ?_
  refine zt_aload_n hX 0 dX6_energy_0 rfl rfl ?_
  refine zt_iload_n hX 1 dX6_energy_1 rfl rfl ?_
  refine zt_iload_n hX 2 dX6_energy_2 rfl rfl ?_
  refine zt_calliV hX hY (av := [.int a1, .int a2]) (c_X6_isInterval hf) dX6_energy_3 rfl kw_802 kw_804 kw_33 kw_67 kw_805 ⟨rfl, rfl⟩ hy_X6_isInterval ⟨by decide, by decide⟩ ⟨by decide, by decide⟩ (Nat.le_of_ble_eq_true rfl) (by decide) (zE_73 _ _) rfl rfl (fun r1 σ2 hf => ?_)
  refine zt_if_eq hX dX6_energy_6 (tgt := 18) (by decide) (fun c3 => ?_) (fun c3 => ?_)
  · replace hf := z_pos hf c3
    refine zt_ldc hX dX6_energy_18 kw_705 ?_
    exact zt_iret hX hY dX6_energy_20 hf
  · replace hf := z_neg hf c3
    refine zt_aload_n hX 0 dX6_energy_9 rfl rfl ?_
    refine zt_iload_n hX 1 dX6_energy_10 rfl rfl ?_
    refine zt_iload_n hX 2 dX6_energy_11 rfl rfl ?_
    refine zt_calliV hX hY (av := [.int a1, .int a2]) (c_X6_energyOf hf) dX6_energy_12 rfl kw_830 kw_832 kw_38 kw_67 kw_833 ⟨rfl, rfl⟩ hy_X6_energyOf ⟨by decide, by decide⟩ ⟨by decide, by decide⟩ (Nat.le_of_ble_eq_true rfl) (by decide) (zE_73 _ _) rfl rfl (fun r4 σ5 hf => ?_)
    refine zt_goto hX dX6_energy_15 (tgt := 20) (by decide) ?_
    exact zt_iret hX hY dX6_energy_20 hf

theorem dX6_quality_0 : decode cX6_quality 0 = .ok (.aload_n 0, 1) := by decide +kernel
theorem dX6_quality_1 : decode cX6_quality 1 = .ok (.iload_n 1, 1) := by decide +kernel
theorem dX6_quality_2 : decode cX6_quality 2 = .ok (.iload_n 2, 1) := by decide +kernel
theorem dX6_quality_3 : decode cX6_quality 3 = .ok (.invokevirtual 101, 3) := by decide +kernel
theorem dX6_quality_6 : decode cX6_quality 6 = .ok (.ifCond .eq 12, 3) := by decide +kernel
theorem dX6_quality_9 : decode cX6_quality 9 = .ok (.aload_n 0, 1) := by decide +kernel
theorem dX6_quality_10 : decode cX6_quality 10 = .ok (.iload_n 1, 1) := by decide +kernel
theorem dX6_quality_11 : decode cX6_quality 11 = .ok (.iload_n 2, 1) := by decide +kernel
theorem dX6_quality_12 : decode cX6_quality 12 = .ok (.invokevirtual 116, 3) := by decide +kernel
theorem dX6_quality_15 : decode cX6_quality 15 = .ok (.goto 5, 3) := by decide +kernel
theorem dX6_quality_18 : decode cX6_quality 18 = .ok (.ldc 57, 2) := by decide +kernel
theorem dX6_quality_20 : decode cX6_quality 20 = .ok (.ireturn, 1) := by decide +kernel
abbrev rm_X6_quality : Room := { frames := 9, cells := 0, slots := 0, locals := 210 }
theorem hy_X6_quality : yX6_quality.cls ≠ "java/lang/invoke/MethodHandle" ∧ yX6_quality.cls ≠ "java/lang/invoke/VarHandle" ∧ (parseMethodDescriptor yX6_quality.desc).map (fun d => d.parameters.length) = some 2 := by decide +kernel
def w_X6_quality (a1 : Int32) (a2 : Int32) (σ : z_S) (Q : Int32 → z_S → Prop) : Prop :=
  w_X6_isInterval a1 a2 σ (fun r1 σ2 => if r1 = 0 then (Q (-2000000001 : Int32) σ2) else (w_X6_qualityOf a1 a2 σ2 (fun r4 σ5 => Q r4 σ5)))
set_option maxHeartbeats 4000000 in
set_option maxRecDepth 100000 in
theorem c_X6_quality {l : Launch} {D : va_G} {cI cJ cM cS : ClassId} {n0 : Nat} {a1 : Int32} {a2 : Int32} {σ : z_S} {Q : Int32 → z_S → Prop} (hf : w_X6_quality a1 a2 σ Q) : z_ci l D cI cJ cM cS n0 yX6_quality cX6_quality 3 .int rm_X6_quality 0 0 [.ref (n0 + 73), .int a1, .int a2] σ Q := by
  refine z_ofi (by decide +kernel) (Nat.le_of_ble_eq_true rfl) (fun p e s m args below meth c hX hY => ?_)
  unfold w_X6_quality at hf
  refine zt_L (L' := [(0, .ref (n0 + 73)), (1, .int a1), (2, .int a2)]) rfl ?_
  refine zt_aload_n hX 0 dX6_quality_0 rfl rfl ?_
  refine zt_iload_n hX 1 dX6_quality_1 rfl rfl ?_
  refine zt_iload_n hX 2 dX6_quality_2 rfl rfl ?_
  refine zt_calliV hX hY (av := [.int a1, .int a2]) (c_X6_isInterval hf) dX6_quality_3 rfl kw_802 kw_804 kw_33 kw_67 kw_805 ⟨rfl, rfl⟩ hy_X6_isInterval ⟨by decide, by decide⟩ ⟨by decide, by decide⟩ (Nat.le_of_ble_eq_true rfl) (by decide) (zE_73 _ _) rfl rfl (fun r1 σ2 hf => ?_)
  refine zt_if_eq hX dX6_quality_6 (tgt := 18) (by decide) (fun c3 => ?_) (fun c3 => ?_)
  · replace hf := z_pos hf c3
    refine zt_ldc hX dX6_quality_18 kw_705 ?_
    exact zt_iret hX hY dX6_quality_20 hf
  · replace hf := z_neg hf c3
    refine zt_aload_n hX 0 dX6_quality_9 rfl rfl ?_
    refine zt_iload_n hX 1 dX6_quality_10 rfl rfl ?_
    refine zt_iload_n hX 2 dX6_quality_11 rfl rfl ?_
    refine zt_calliV hX hY (av := [.int a1, .int a2]) (c_X6_qualityOf hf) dX6_quality_12 rfl kw_834 kw_836 kw_39 kw_67 kw_837 ⟨rfl, rfl⟩ hy_X6_qualityOf ⟨by decide, by decide⟩ ⟨by decide, by decide⟩ (Nat.le_of_ble_eq_true rfl) (by decide) (zE_73 _ _) rfl rfl (fun r4 σ5 hf => ?_)
    refine zt_goto hX dX6_quality_15 (tgt := 20) (by decide) ?_
    exact zt_iret hX hY dX6_quality_20 hf

theorem dX6_lossOf_0 : decode cX6_lossOf 0 = .ok (.aload_n 0, 1) := by decide +kernel
theorem dX6_lossOf_1 : decode cX6_lossOf 1 = .ok (.iload_n 1, 1) := by decide +kernel
theorem dX6_lossOf_2 : decode cX6_lossOf 2 = .ok (.iload_n 2, 1) := by decide +kernel
theorem dX6_lossOf_3 : decode cX6_lossOf 3 = .ok (.invokevirtual 122, 3) := by decide +kernel
theorem dX6_lossOf_6 : decode cX6_lossOf 6 = .ok (.istore_n 3, 1) := by decide +kernel
theorem dX6_lossOf_7 : decode cX6_lossOf 7 = .ok (.iconst 1, 1) := by decide +kernel
theorem dX6_lossOf_8 : decode cX6_lossOf 8 = .ok (.istore 4, 2) := by decide +kernel
theorem dX6_lossOf_10 : decode cX6_lossOf 10 = .ok (.iload 4, 2) := by decide +kernel
theorem dX6_lossOf_12 : decode cX6_lossOf 12 = .ok (.aload_n 0, 1) := by decide +kernel
theorem dX6_lossOf_13 : decode cX6_lossOf 13 = .ok (.getfield 7, 3) := by decide +kernel
theorem dX6_lossOf_16 : decode cX6_lossOf 16 = .ok (.iconst 0, 1) := by decide +kernel
theorem dX6_lossOf_17 : decode cX6_lossOf 17 = .ok (.iaload, 1) := by decide +kernel
theorem dX6_lossOf_18 : decode cX6_lossOf 18 = .ok (.if_icmp .ge 34, 3) := by decide +kernel
theorem dX6_lossOf_21 : decode cX6_lossOf 21 = .ok (.iload_n 3, 1) := by decide +kernel
theorem dX6_lossOf_22 : decode cX6_lossOf 22 = .ok (.aload_n 0, 1) := by decide +kernel
theorem dX6_lossOf_23 : decode cX6_lossOf 23 = .ok (.iload 4, 2) := by decide +kernel
theorem dX6_lossOf_25 : decode cX6_lossOf 25 = .ok (.iconst 0, 1) := by decide +kernel
theorem dX6_lossOf_26 : decode cX6_lossOf 26 = .ok (.invokevirtual 44, 3) := by decide +kernel
theorem dX6_lossOf_29 : decode cX6_lossOf 29 = .ok (.iload_n 1, 1) := by decide +kernel
theorem dX6_lossOf_30 : decode cX6_lossOf 30 = .ok (.if_icmp .ne 13, 3) := by decide +kernel
theorem dX6_lossOf_33 : decode cX6_lossOf 33 = .ok (.aload_n 0, 1) := by decide +kernel
theorem dX6_lossOf_34 : decode cX6_lossOf 34 = .ok (.iload 4, 2) := by decide +kernel
theorem dX6_lossOf_36 : decode cX6_lossOf 36 = .ok (.iload_n 2, 1) := by decide +kernel
theorem dX6_lossOf_37 : decode cX6_lossOf 37 = .ok (.invokevirtual 122, 3) := by decide +kernel
theorem dX6_lossOf_40 : decode cX6_lossOf 40 = .ok (.goto 4, 3) := by decide +kernel
theorem dX6_lossOf_43 : decode cX6_lossOf 43 = .ok (.iconst 0, 1) := by decide +kernel
theorem dX6_lossOf_44 : decode cX6_lossOf 44 = .ok (.isub, 1) := by decide +kernel
theorem dX6_lossOf_45 : decode cX6_lossOf 45 = .ok (.istore_n 3, 1) := by decide +kernel
theorem dX6_lossOf_46 : decode cX6_lossOf 46 = .ok (.iinc 4 1, 3) := by decide +kernel
theorem dX6_lossOf_49 : decode cX6_lossOf 49 = .ok (.goto (-39), 3) := by decide +kernel
theorem dX6_lossOf_52 : decode cX6_lossOf 52 = .ok (.iload_n 3, 1) := by decide +kernel
theorem dX6_lossOf_53 : decode cX6_lossOf 53 = .ok (.ireturn, 1) := by decide +kernel
abbrev rm_X6_lossOf : Room := { frames := 10, cells := 0, slots := 0, locals := 237 }
theorem hy_X6_lossOf : yX6_lossOf.cls ≠ "java/lang/invoke/MethodHandle" ∧ yX6_lossOf.cls ≠ "java/lang/invoke/VarHandle" ∧ (parseMethodDescriptor yX6_lossOf.desc).map (fun d => d.parameters.length) = some 2 := by decide +kernel
def w_X6_lossOf_44 (k10 : Int32 → Int32 → Int32 → Int32 → z_S → Prop) (Q : Int32 → z_S → Prop) (x1 : Int32) (x2 : Int32) (x4 : Int32) (s0 : Int32) (s1 : Int32) (σ : z_S) : Prop :=
  ∀ y8 : Int32, y8 = (s1 - s0) → ∀ y9 : Int32, y9 = (x4 + (1 : Int32)) → k10 x1 x2 y8 y9 σ
def wb_X6_lossOf_10  (Q : Int32 → z_S → Prop) (k10 : Int32 → Int32 → Int32 → Int32 → z_S → Prop) (x1 : Int32) (x2 : Int32) (x3 : Int32) (x4 : Int32) (σ : z_S) : Prop :=
  vp_in (0 : Int32) 1584 ∧ if (zg_i σ 74 (0 : Int32).toNatClampNeg) ≤ x4 then (Q x3 σ) else (w_X6_of x4 (0 : Int32) σ (fun r5 σ6 => if r5 = x1 then (w_X6_energyOf x4 x2 σ6 (fun r10 σ11 => w_X6_lossOf_44 k10 Q x1 x2 x4 r10 x3 σ11)) else (w_X6_lossOf_44 k10 Q x1 x2 x4 (0 : Int32) x3 σ6)))
def w_X6_lossOf_10  (Q : Int32 → z_S → Prop) : Nat → Int32 → Int32 → Int32 → Int32 → z_S → Prop
  | 0 => fun _ _ _ _ _ => False
  | n + 1 => wb_X6_lossOf_10  Q (w_X6_lossOf_10  Q n)
def w_X6_lossOf (a1 : Int32) (a2 : Int32) (σ : z_S) (Q : Int32 → z_S → Prop) : Prop :=
  w_X6_energyOf a1 a2 σ (fun r1 σ2 => w_X6_lossOf_10 Q 400 a1 a2 r1 (1 : Int32) σ2)
set_option maxHeartbeats 4000000 in
set_option maxRecDepth 100000 in
theorem t_X6_lossOf_44 {l : Launch} {D : va_G} {cI cJ cM cS : ClassId} {n0 : Nat} {p : Program} {e : Env} {s : State} {m : MethodId} {args : Array Value} {below : List Frame} {meth : Method} {c : Code} {k10 : Int32 → Int32 → Int32 → Int32 → z_S → Prop} {Q : Int32 → z_S → Prop} (hX : z_X D cI cJ cM cS p s m args c cX6_lossOf 5 yX6_lossOf.cls) (hY : z_Y s meth (some .int)) (hk10 : ∀ (x1 : Int32) (x2 : Int32) (x3 : Int32) (x4 : Int32) (σ : z_S), k10 x1 x2 x3 x4 σ → z_t D cI cJ cM cS n0 p l e rm_X6_lossOf s m args below meth c 5 (MQ below (va_Qi Q (fun u t => z_Bq D cI cJ cM cS n0 u t) (z_Ab n0)) args s 0 0 (z_Ab n0)) 0 0 10 [(0, .ref (n0 + 73)), (1, .int x1), (2, .int x2), (3, .int x3), (4, .int x4)] [] σ) (x1 : Int32) (x2 : Int32) (x4 : Int32) (s0 : Int32) (s1 : Int32) (σ : z_S) (hf : w_X6_lossOf_44 k10 Q x1 x2 x4 s0 s1 σ) : z_t D cI cJ cM cS n0 p l e rm_X6_lossOf s m args below meth c 5 (MQ below (va_Qi Q (fun u t => z_Bq D cI cJ cM cS n0 u t) (z_Ab n0)) args s 0 0 (z_Ab n0)) 0 0 44 [(0, .ref (n0 + 73)), (1, .int x1), (2, .int x2), (4, .int x4)] [.int s0, .int s1] σ := by
  unfold w_X6_lossOf_44 at hf
  refine zt_isub hX dX6_lossOf_44 ?_
  refine zt_nmi (fun y8 e8 => ?_)
  replace hf := hf y8 e8
  refine zt_istore_n (L' := [(3, .int y8), (0, .ref (n0 + 73)), (1, .int x1), (2, .int x2), (4, .int x4)]) hX dX6_lossOf_45 rfl (by decide) rfl ?_
  obtain ⟨y9, e9⟩ : ∃ y : Int32, y = (x4 + (1 : Int32)) := ⟨_, rfl⟩
  replace hf := hf y9 e9
  refine zt_iinc (L' := [(4, .int y9), (3, .int y8), (0, .ref (n0 + 73)), (1, .int x1), (2, .int x2)]) hX 4 dX6_lossOf_46 rfl (v := y9) (by rw [e9]; rfl) (by decide) rfl ?_
  refine zt_goto hX dX6_lossOf_49 (tgt := 10) (by decide) ?_
  exact zt_sub [2, 3, 4, 1, 0] rfl (hk10 _ _ _ _ _ hf)
set_option maxHeartbeats 4000000 in
set_option maxRecDepth 100000 in
theorem t_X6_lossOf_10 {l : Launch} {D : va_G} {cI cJ cM cS : ClassId} {n0 : Nat} {p : Program} {e : Env} {s : State} {m : MethodId} {args : Array Value} {below : List Frame} {meth : Method} {c : Code}  {Q : Int32 → z_S → Prop} (hX : z_X D cI cJ cM cS p s m args c cX6_lossOf 5 yX6_lossOf.cls) (hY : z_Y s meth (some .int))  : ∀ (n : Nat) (x1 : Int32) (x2 : Int32) (x3 : Int32) (x4 : Int32) (σ : z_S), w_X6_lossOf_10  Q n x1 x2 x3 x4 σ → z_t D cI cJ cM cS n0 p l e rm_X6_lossOf s m args below meth c 5 (MQ below (va_Qi Q (fun u t => z_Bq D cI cJ cM cS n0 u t) (z_Ab n0)) args s 0 0 (z_Ab n0)) 0 0 10 [(0, .ref (n0 + 73)), (1, .int x1), (2, .int x2), (3, .int x3), (4, .int x4)] [] σ := by
  intro n
  induction n with
  | zero => intro _ _ _ _ _ hf; exact hf.elim
  | succ n ih10 =>
    intro x1 x2 x3 x4 σ hf
    have hf : wb_X6_lossOf_10  Q (w_X6_lossOf_10  Q n) x1 x2 x3 x4 σ := hf
    unfold wb_X6_lossOf_10 at hf
    refine zt_iload hX 4 dX6_lossOf_10 rfl ?_
    refine zt_aload_n hX 0 dX6_lossOf_12 rfl rfl ?_
    refine zt_get_X6 hX (by decide) (zE_73 _ _) 0 (by decide) kw_654 rfl rfl dX6_lossOf_13 ?_
    refine zt_iconst hX dX6_lossOf_16 (v := (0 : Int32)) (by decide) ?_
    obtain ⟨h3, hf⟩ := hf
    refine zt_iaload hX dX6_lossOf_17 (by decide) rfl h3 ?_
    refine zt_icmp_ge hX dX6_lossOf_18 (tgt := 52) (by decide) (fun c4 => ?_) (fun c4 => ?_)
    · replace hf := z_pos hf c4
      refine zt_iload_n hX 3 dX6_lossOf_52 rfl rfl ?_
      exact zt_iret hX hY dX6_lossOf_53 hf
    · replace hf := z_neg hf c4
      refine zt_iload_n hX 3 dX6_lossOf_21 rfl rfl ?_
      refine zt_aload_n hX 0 dX6_lossOf_22 rfl rfl ?_
      refine zt_iload hX 4 dX6_lossOf_23 rfl ?_
      refine zt_iconst hX dX6_lossOf_25 (v := (0 : Int32)) (by decide) ?_
      refine zt_calliV hX hY (av := [.int x4, .int (0 : Int32)]) (c_X6_of hf) dX6_lossOf_26 rfl kw_729 kw_731 kw_25 kw_67 kw_732 ⟨rfl, rfl⟩ hy_X6_of ⟨by decide, by decide⟩ ⟨by decide, by decide⟩ (Nat.le_of_ble_eq_true rfl) (by decide) (zE_73 _ _) rfl rfl (fun r5 σ6 hf => ?_)
      refine zt_iload_n hX 1 dX6_lossOf_29 rfl rfl ?_
      refine zt_icmp_ne hX dX6_lossOf_30 (tgt := 43) (by decide) (fun c7 => ?_) (fun c7 => ?_)
      · replace hf := z_neg hf c7
        refine zt_iconst hX dX6_lossOf_43 (v := (0 : Int32)) (by decide) ?_
        exact zt_sub [0, 1, 2, 4] rfl (t_X6_lossOf_44 hX hY ih10 _ _ _ _ _ _ hf)
      · replace hf := z_pos hf c7
        refine zt_aload_n hX 0 dX6_lossOf_33 rfl rfl ?_
        refine zt_iload hX 4 dX6_lossOf_34 rfl ?_
        refine zt_iload_n hX 2 dX6_lossOf_36 rfl rfl ?_
        refine zt_calliV hX hY (av := [.int x4, .int x2]) (c_X6_energyOf hf) dX6_lossOf_37 rfl kw_830 kw_832 kw_38 kw_67 kw_833 ⟨rfl, rfl⟩ hy_X6_energyOf ⟨by decide, by decide⟩ ⟨by decide, by decide⟩ (Nat.le_of_ble_eq_true rfl) (by decide) (zE_73 _ _) rfl rfl (fun r10 σ11 hf => ?_)
        refine zt_goto hX dX6_lossOf_40 (tgt := 44) (by decide) ?_
        exact zt_sub [0, 1, 2, 4] rfl (t_X6_lossOf_44 hX hY ih10 _ _ _ _ _ _ hf)
set_option maxHeartbeats 4000000 in
set_option maxRecDepth 100000 in
theorem c_X6_lossOf {l : Launch} {D : va_G} {cI cJ cM cS : ClassId} {n0 : Nat} {a1 : Int32} {a2 : Int32} {σ : z_S} {Q : Int32 → z_S → Prop} (hf : w_X6_lossOf a1 a2 σ Q) : z_ci l D cI cJ cM cS n0 yX6_lossOf cX6_lossOf 5 .int rm_X6_lossOf 0 0 [.ref (n0 + 73), .int a1, .int a2] σ Q := by
  refine z_ofi (by decide +kernel) (Nat.le_of_ble_eq_true rfl) (fun p e s m args below meth c hX hY => ?_)
  unfold w_X6_lossOf at hf
  refine zt_L (L' := [(0, .ref (n0 + 73)), (1, .int a1), (2, .int a2)]) rfl ?_
  refine zt_aload_n hX 0 dX6_lossOf_0 rfl rfl ?_
  refine zt_iload_n hX 1 dX6_lossOf_1 rfl rfl ?_
  refine zt_iload_n hX 2 dX6_lossOf_2 rfl rfl ?_
  refine zt_calliV hX hY (av := [.int a1, .int a2]) (c_X6_energyOf hf) dX6_lossOf_3 rfl kw_830 kw_832 kw_38 kw_67 kw_833 ⟨rfl, rfl⟩ hy_X6_energyOf ⟨by decide, by decide⟩ ⟨by decide, by decide⟩ (Nat.le_of_ble_eq_true rfl) (by decide) (zE_73 _ _) rfl rfl (fun r1 σ2 hf => ?_)
  refine zt_istore_n (L' := [(3, .int r1), (0, .ref (n0 + 73)), (1, .int a1), (2, .int a2)]) hX dX6_lossOf_6 rfl (by decide) rfl ?_
  refine zt_iconst hX dX6_lossOf_7 (v := (1 : Int32)) (by decide) ?_
  refine zt_istore (L' := [(4, .int (1 : Int32)), (3, .int r1), (0, .ref (n0 + 73)), (1, .int a1), (2, .int a2)]) hX dX6_lossOf_8 (by decide) rfl ?_
  exact zt_sub [2, 3, 4, 1, 0] rfl (t_X6_lossOf_10 hX hY 400 _ _ _ _ _ hf)

theorem dX6_balanceOf_0 : decode cX6_balanceOf 0 = .ok (.aload_n 0, 1) := by decide +kernel
theorem dX6_balanceOf_1 : decode cX6_balanceOf 1 = .ok (.iload_n 1, 1) := by decide +kernel
theorem dX6_balanceOf_2 : decode cX6_balanceOf 2 = .ok (.iload_n 2, 1) := by decide +kernel
theorem dX6_balanceOf_3 : decode cX6_balanceOf 3 = .ok (.invokevirtual 125, 3) := by decide +kernel
theorem dX6_balanceOf_6 : decode cX6_balanceOf 6 = .ok (.istore_n 3, 1) := by decide +kernel
theorem dX6_balanceOf_7 : decode cX6_balanceOf 7 = .ok (.iload_n 3, 1) := by decide +kernel
theorem dX6_balanceOf_8 : decode cX6_balanceOf 8 = .ok (.ifCond .ge 7, 3) := by decide +kernel
theorem dX6_balanceOf_11 : decode cX6_balanceOf 11 = .ok (.iconst 1, 1) := by decide +kernel
theorem dX6_balanceOf_12 : decode cX6_balanceOf 12 = .ok (.goto 33, 3) := by decide +kernel
theorem dX6_balanceOf_15 : decode cX6_balanceOf 15 = .ok (.ldc2_w 128, 3) := by decide +kernel
theorem dX6_balanceOf_18 : decode cX6_balanceOf 18 = .ok (.iload_n 3, 1) := by decide +kernel
theorem dX6_balanceOf_19 : decode cX6_balanceOf 19 = .ok (.i2l, 1) := by decide +kernel
theorem dX6_balanceOf_20 : decode cX6_balanceOf 20 = .ok (.lmul, 1) := by decide +kernel
theorem dX6_balanceOf_21 : decode cX6_balanceOf 21 = .ok (.aload_n 0, 1) := by decide +kernel
theorem dX6_balanceOf_22 : decode cX6_balanceOf 22 = .ok (.iload_n 1, 1) := by decide +kernel
theorem dX6_balanceOf_23 : decode cX6_balanceOf 23 = .ok (.iload_n 2, 1) := by decide +kernel
theorem dX6_balanceOf_24 : decode cX6_balanceOf 24 = .ok (.invokevirtual 122, 3) := by decide +kernel
theorem dX6_balanceOf_27 : decode cX6_balanceOf 27 = .ok (.i2l, 1) := by decide +kernel
theorem dX6_balanceOf_28 : decode cX6_balanceOf 28 = .ok (.aload_n 0, 1) := by decide +kernel
theorem dX6_balanceOf_29 : decode cX6_balanceOf 29 = .ok (.getfield 7, 3) := by decide +kernel
theorem dX6_balanceOf_32 : decode cX6_balanceOf 32 = .ok (.iconst 2, 1) := by decide +kernel
theorem dX6_balanceOf_33 : decode cX6_balanceOf 33 = .ok (.iaload, 1) := by decide +kernel
theorem dX6_balanceOf_34 : decode cX6_balanceOf 34 = .ok (.i2l, 1) := by decide +kernel
theorem dX6_balanceOf_35 : decode cX6_balanceOf 35 = .ok (.lmul, 1) := by decide +kernel
theorem dX6_balanceOf_36 : decode cX6_balanceOf 36 = .ok (.lcmp, 1) := by decide +kernel
theorem dX6_balanceOf_37 : decode cX6_balanceOf 37 = .ok (.ifCond .le 7, 3) := by decide +kernel
theorem dX6_balanceOf_40 : decode cX6_balanceOf 40 = .ok (.iconst 2, 1) := by decide +kernel
theorem dX6_balanceOf_41 : decode cX6_balanceOf 41 = .ok (.goto 4, 3) := by decide +kernel
theorem dX6_balanceOf_44 : decode cX6_balanceOf 44 = .ok (.iconst 0, 1) := by decide +kernel
theorem dX6_balanceOf_45 : decode cX6_balanceOf 45 = .ok (.ireturn, 1) := by decide +kernel
abbrev rm_X6_balanceOf : Room := { frames := 11, cells := 0, slots := 0, locals := 261 }
theorem hy_X6_balanceOf : yX6_balanceOf.cls ≠ "java/lang/invoke/MethodHandle" ∧ yX6_balanceOf.cls ≠ "java/lang/invoke/VarHandle" ∧ (parseMethodDescriptor yX6_balanceOf.desc).map (fun d => d.parameters.length) = some 2 := by decide +kernel
def w_X6_balanceOf (a1 : Int32) (a2 : Int32) (σ : z_S) (Q : Int32 → z_S → Prop) : Prop :=
  w_X6_lossOf a1 a2 σ (fun r1 σ2 => if 0 ≤ r1 then (w_X6_energyOf a1 a2 σ2 (fun r4 σ5 => vp_in (2 : Int32) 1584 ∧ if (lg_cmp ((1000 : Int64) * r1.toInt64) (r4.toInt64 * ((zg_i σ5 74 (2 : Int32).toNatClampNeg).toInt64))) ≤ 0 then (Q (0 : Int32) σ5) else (Q (2 : Int32) σ5))) else (Q (1 : Int32) σ2))
set_option maxHeartbeats 4000000 in
set_option maxRecDepth 100000 in
theorem c_X6_balanceOf {l : Launch} {D : va_G} {cI cJ cM cS : ClassId} {n0 : Nat} {a1 : Int32} {a2 : Int32} {σ : z_S} {Q : Int32 → z_S → Prop} (hf : w_X6_balanceOf a1 a2 σ Q) : z_ci l D cI cJ cM cS n0 yX6_balanceOf cX6_balanceOf 4 .int rm_X6_balanceOf 0 0 [.ref (n0 + 73), .int a1, .int a2] σ Q := by
  refine z_ofi (by decide +kernel) (Nat.le_of_ble_eq_true rfl) (fun p e s m args below meth c hX hY => ?_)
  unfold w_X6_balanceOf at hf
  refine zt_L (L' := [(0, .ref (n0 + 73)), (1, .int a1), (2, .int a2)]) rfl ?_
  refine zt_aload_n hX 0 dX6_balanceOf_0 rfl rfl ?_
  refine zt_iload_n hX 1 dX6_balanceOf_1 rfl rfl ?_
  refine zt_iload_n hX 2 dX6_balanceOf_2 rfl rfl ?_
  refine zt_calliV hX hY (av := [.int a1, .int a2]) (c_X6_lossOf hf) dX6_balanceOf_3 rfl kw_862 kw_864 kw_44 kw_67 kw_865 ⟨rfl, rfl⟩ hy_X6_lossOf ⟨by decide, by decide⟩ ⟨by decide, by decide⟩ (Nat.le_of_ble_eq_true rfl) (by decide) (zE_73 _ _) rfl rfl (fun r1 σ2 hf => ?_)
  refine zt_istore_n (L' := [(3, .int r1), (0, .ref (n0 + 73)), (1, .int a1), (2, .int a2)]) hX dX6_balanceOf_6 rfl (by decide) rfl ?_
  refine zt_iload_n hX 0 dX6_balanceOf_7 rfl rfl ?_
  refine zt_if_ge hX dX6_balanceOf_8 (tgt := 15) (by decide) (fun c3 => ?_) (fun c3 => ?_)
  · replace hf := z_pos hf c3
    refine zt_ldc2 hX dX6_balanceOf_15 kw_874 ?_
    refine zt_iload_n hX 0 dX6_balanceOf_18 rfl rfl ?_
    refine zt_i2l hX dX6_balanceOf_19 ?_
    refine zt_lmul hX dX6_balanceOf_20 ?_
    refine zt_aload_n hX 1 dX6_balanceOf_21 rfl rfl ?_
    refine zt_iload_n hX 2 dX6_balanceOf_22 rfl rfl ?_
    refine zt_iload_n hX 3 dX6_balanceOf_23 rfl rfl ?_
    refine zt_calliV hX hY (av := [.int a1, .int a2]) (c_X6_energyOf hf) dX6_balanceOf_24 rfl kw_830 kw_832 kw_38 kw_67 kw_833 ⟨rfl, rfl⟩ hy_X6_energyOf ⟨by decide, by decide⟩ ⟨by decide, by decide⟩ (Nat.le_of_ble_eq_true rfl) (by decide) (zE_73 _ _) rfl rfl (fun r4 σ5 hf => ?_)
    refine zt_i2l hX dX6_balanceOf_27 ?_
    refine zt_aload_n hX 1 dX6_balanceOf_28 rfl rfl ?_
    refine zt_get_X6 hX (by decide) (zE_73 _ _) 0 (by decide) kw_654 rfl rfl dX6_balanceOf_29 ?_
    refine zt_iconst hX dX6_balanceOf_32 (v := (2 : Int32)) (by decide) ?_
    obtain ⟨h6, hf⟩ := hf
    refine zt_iaload hX dX6_balanceOf_33 (by decide) rfl h6 ?_
    refine zt_i2l hX dX6_balanceOf_34 ?_
    refine zt_lmul hX dX6_balanceOf_35 ?_
    refine zt_lcmp hX dX6_balanceOf_36 ?_
    refine zt_if_le hX dX6_balanceOf_37 (tgt := 44) (by decide) (fun c7 => ?_) (fun c7 => ?_)
    · replace hf := z_pos hf c7
      refine zt_iconst hX dX6_balanceOf_44 (v := (0 : Int32)) (by decide) ?_
      exact zt_iret hX hY dX6_balanceOf_45 hf
    · replace hf := z_neg hf c7
      refine zt_iconst hX dX6_balanceOf_40 (v := (2 : Int32)) (by decide) ?_
      refine zt_goto hX dX6_balanceOf_41 (tgt := 45) (by decide) ?_
      exact zt_iret hX hY dX6_balanceOf_45 hf
  · replace hf := z_neg hf c3
    refine zt_iconst hX dX6_balanceOf_11 (v := (1 : Int32)) (by decide) ?_
    refine zt_goto hX dX6_balanceOf_12 (tgt := 45) (by decide) ?_
    exact zt_iret hX hY dX6_balanceOf_45 hf

theorem dX6_loss_0 : decode cX6_loss 0 = .ok (.aload_n 0, 1) := by decide +kernel
theorem dX6_loss_1 : decode cX6_loss 1 = .ok (.iload_n 1, 1) := by decide +kernel
theorem dX6_loss_2 : decode cX6_loss 2 = .ok (.iload_n 2, 1) := by decide +kernel
theorem dX6_loss_3 : decode cX6_loss 3 = .ok (.invokevirtual 101, 3) := by decide +kernel
theorem dX6_loss_6 : decode cX6_loss 6 = .ok (.ifCond .ne 6, 3) := by decide +kernel
theorem dX6_loss_9 : decode cX6_loss 9 = .ok (.ldc 57, 2) := by decide +kernel
theorem dX6_loss_11 : decode cX6_loss 11 = .ok (.ireturn, 1) := by decide +kernel
theorem dX6_loss_12 : decode cX6_loss 12 = .ok (.aload_n 0, 1) := by decide +kernel
theorem dX6_loss_13 : decode cX6_loss 13 = .ok (.iload_n 1, 1) := by decide +kernel
theorem dX6_loss_14 : decode cX6_loss 14 = .ok (.invokevirtual 68, 3) := by decide +kernel
theorem dX6_loss_17 : decode cX6_loss 17 = .ok (.ifCond .ne 8, 3) := by decide +kernel
theorem dX6_loss_20 : decode cX6_loss 20 = .ok (.ldc 48, 2) := by decide +kernel
theorem dX6_loss_22 : decode cX6_loss 22 = .ok (.goto 9, 3) := by decide +kernel
theorem dX6_loss_25 : decode cX6_loss 25 = .ok (.aload_n 0, 1) := by decide +kernel
theorem dX6_loss_26 : decode cX6_loss 26 = .ok (.iload_n 1, 1) := by decide +kernel
theorem dX6_loss_27 : decode cX6_loss 27 = .ok (.iload_n 2, 1) := by decide +kernel
theorem dX6_loss_28 : decode cX6_loss 28 = .ok (.invokevirtual 125, 3) := by decide +kernel
theorem dX6_loss_31 : decode cX6_loss 31 = .ok (.ireturn, 1) := by decide +kernel
abbrev rm_X6_loss : Room := { frames := 11, cells := 0, slots := 0, locals := 261 }
theorem hy_X6_loss : yX6_loss.cls ≠ "java/lang/invoke/MethodHandle" ∧ yX6_loss.cls ≠ "java/lang/invoke/VarHandle" ∧ (parseMethodDescriptor yX6_loss.desc).map (fun d => d.parameters.length) = some 2 := by decide +kernel
def w_X6_loss (a1 : Int32) (a2 : Int32) (σ : z_S) (Q : Int32 → z_S → Prop) : Prop :=
  w_X6_isInterval a1 a2 σ (fun r1 σ2 => if r1 = 0 then (Q (-2000000001 : Int32) σ2) else (w_X6_children a1 σ2 (fun r4 σ5 => if r4 = 0 then (Q (-2000000000 : Int32) σ5) else (w_X6_lossOf a1 a2 σ5 (fun r7 σ8 => Q r7 σ8)))))
set_option maxHeartbeats 4000000 in
set_option maxRecDepth 100000 in
theorem c_X6_loss {l : Launch} {D : va_G} {cI cJ cM cS : ClassId} {n0 : Nat} {a1 : Int32} {a2 : Int32} {σ : z_S} {Q : Int32 → z_S → Prop} (hf : w_X6_loss a1 a2 σ Q) : z_ci l D cI cJ cM cS n0 yX6_loss cX6_loss 3 .int rm_X6_loss 0 0 [.ref (n0 + 73), .int a1, .int a2] σ Q := by
  refine z_ofi (by decide +kernel) (Nat.le_of_ble_eq_true rfl) (fun p e s m args below meth c hX hY => ?_)
  unfold w_X6_loss at hf
  refine zt_L (L' := [(0, .ref (n0 + 73)), (1, .int a1), (2, .int a2)]) rfl ?_
  refine zt_aload_n hX 0 dX6_loss_0 rfl rfl ?_
  refine zt_iload_n hX 1 dX6_loss_1 rfl rfl ?_
  refine zt_iload_n hX 2 dX6_loss_2 rfl rfl ?_
  refine zt_calliV hX hY (av := [.int a1, .int a2]) (c_X6_isInterval hf) dX6_loss_3 rfl kw_802 kw_804 kw_33 kw_67 kw_805 ⟨rfl, rfl⟩ hy_X6_isInterval ⟨by decide, by decide⟩ ⟨by decide, by decide⟩ (Nat.le_of_ble_eq_true rfl) (by decide) (zE_73 _ _) rfl rfl (fun r1 σ2 hf => ?_)
  refine zt_if_ne hX dX6_loss_6 (tgt := 12) (by decide) (fun c3 => ?_) (fun c3 => ?_)
  · replace hf := z_neg hf c3
    refine zt_aload_n hX 0 dX6_loss_12 rfl rfl ?_
    refine zt_iload_n hX 1 dX6_loss_13 rfl rfl ?_
    refine zt_calliV hX hY (av := [.int a1]) (c_X6_children hf) dX6_loss_14 rfl kw_750 kw_752 kw_26 kw_67 kw_753 ⟨rfl, rfl⟩ hy_X6_children ⟨by decide, by decide⟩ ⟨by decide, by decide⟩ (Nat.le_of_ble_eq_true rfl) (by decide) (zE_73 _ _) rfl rfl (fun r4 σ5 hf => ?_)
    refine zt_if_ne hX dX6_loss_17 (tgt := 25) (by decide) (fun c6 => ?_) (fun c6 => ?_)
    · replace hf := z_neg hf c6
      refine zt_aload_n hX 0 dX6_loss_25 rfl rfl ?_
      refine zt_iload_n hX 1 dX6_loss_26 rfl rfl ?_
      refine zt_iload_n hX 2 dX6_loss_27 rfl rfl ?_
      refine zt_calliV hX hY (av := [.int a1, .int a2]) (c_X6_lossOf hf) dX6_loss_28 rfl kw_862 kw_864 kw_44 kw_67 kw_865 ⟨rfl, rfl⟩ hy_X6_lossOf ⟨by decide, by decide⟩ ⟨by decide, by decide⟩ (Nat.le_of_ble_eq_true rfl) (by decide) (zE_73 _ _) rfl rfl (fun r7 σ8 hf => ?_)
      exact zt_iret hX hY dX6_loss_31 hf
    · replace hf := z_pos hf c6
      refine zt_ldc hX dX6_loss_20 kw_715 ?_
      refine zt_goto hX dX6_loss_22 (tgt := 31) (by decide) ?_
      exact zt_iret hX hY dX6_loss_31 hf
  · replace hf := z_pos hf c3
    refine zt_ldc hX dX6_loss_9 kw_705 ?_
    exact zt_iret hX hY dX6_loss_11 hf
