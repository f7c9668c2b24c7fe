theorem dX6_addMeter_0 : decode cX6_addMeter 0 = .ok (.aload_n 0, 1) := by decide +kernel
theorem dX6_addMeter_1 : decode cX6_addMeter 1 = .ok (.getfield 7, 3) := by decide +kernel
theorem dX6_addMeter_4 : decode cX6_addMeter 4 = .ok (.iconst 0, 1) := by decide +kernel
theorem dX6_addMeter_5 : decode cX6_addMeter 5 = .ok (.iaload, 1) := by decide +kernel
theorem dX6_addMeter_6 : decode cX6_addMeter 6 = .ok (.istore_n 2, 1) := by decide +kernel
theorem dX6_addMeter_7 : decode cX6_addMeter 7 = .ok (.iload_n 2, 1) := by decide +kernel
theorem dX6_addMeter_8 : decode cX6_addMeter 8 = .ok (.ifCond .le 14, 3) := by decide +kernel
theorem dX6_addMeter_11 : decode cX6_addMeter 11 = .ok (.aload_n 0, 1) := by decide +kernel
theorem dX6_addMeter_12 : decode cX6_addMeter 12 = .ok (.iload_n 1, 1) := by decide +kernel
theorem dX6_addMeter_13 : decode cX6_addMeter 13 = .ok (.invokevirtual 53, 3) := by decide +kernel
theorem dX6_addMeter_16 : decode cX6_addMeter 16 = .ok (.ifCond .ne 6, 3) := by decide +kernel
theorem dX6_addMeter_19 : decode cX6_addMeter 19 = .ok (.ldc 57, 2) := by decide +kernel
theorem dX6_addMeter_21 : decode cX6_addMeter 21 = .ok (.ireturn, 1) := by decide +kernel
theorem dX6_addMeter_22 : decode cX6_addMeter 22 = .ok (.iload_n 2, 1) := by decide +kernel
theorem dX6_addMeter_23 : decode cX6_addMeter 23 = .ok (.bipush 10, 2) := by decide +kernel
theorem dX6_addMeter_25 : decode cX6_addMeter 25 = .ok (.if_icmp .ne 6, 3) := by decide +kernel
theorem dX6_addMeter_28 : decode cX6_addMeter 28 = .ok (.ldc 58, 2) := by decide +kernel
theorem dX6_addMeter_30 : decode cX6_addMeter 30 = .ok (.ireturn, 1) := by decide +kernel
theorem dX6_addMeter_31 : decode cX6_addMeter 31 = .ok (.aload_n 0, 1) := by decide +kernel
theorem dX6_addMeter_32 : decode cX6_addMeter 32 = .ok (.invokevirtual 59, 3) := by decide +kernel
theorem dX6_addMeter_35 : decode cX6_addMeter 35 = .ok (.aload_n 0, 1) := by decide +kernel
theorem dX6_addMeter_36 : decode cX6_addMeter 36 = .ok (.iload_n 2, 1) := by decide +kernel
theorem dX6_addMeter_37 : decode cX6_addMeter 37 = .ok (.iconst 0, 1) := by decide +kernel
theorem dX6_addMeter_38 : decode cX6_addMeter 38 = .ok (.iload_n 2, 1) := by decide +kernel
theorem dX6_addMeter_39 : decode cX6_addMeter 39 = .ok (.ifCond .ne 8, 3) := by decide +kernel
theorem dX6_addMeter_42 : decode cX6_addMeter 42 = .ok (.ldc 48, 2) := by decide +kernel
theorem dX6_addMeter_44 : decode cX6_addMeter 44 = .ok (.goto 4, 3) := by decide +kernel
theorem dX6_addMeter_47 : decode cX6_addMeter 47 = .ok (.iload_n 1, 1) := by decide +kernel
theorem dX6_addMeter_48 : decode cX6_addMeter 48 = .ok (.invokevirtual 49, 3) := by decide +kernel
theorem dX6_addMeter_51 : decode cX6_addMeter 51 = .ok (.aload_n 0, 1) := by decide +kernel
theorem dX6_addMeter_52 : decode cX6_addMeter 52 = .ok (.iload_n 2, 1) := by decide +kernel
theorem dX6_addMeter_53 : decode cX6_addMeter 53 = .ok (.iconst 1, 1) := by decide +kernel
theorem dX6_addMeter_54 : decode cX6_addMeter 54 = .ok (.iconst 1, 1) := by decide +kernel
theorem dX6_addMeter_55 : decode cX6_addMeter 55 = .ok (.invokevirtual 49, 3) := by decide +kernel
theorem dX6_addMeter_58 : decode cX6_addMeter 58 = .ok (.aload_n 0, 1) := by decide +kernel
theorem dX6_addMeter_59 : decode cX6_addMeter 59 = .ok (.iload_n 2, 1) := by decide +kernel
theorem dX6_addMeter_60 : decode cX6_addMeter 60 = .ok (.iconst 2, 1) := by decide +kernel
theorem dX6_addMeter_61 : decode cX6_addMeter 61 = .ok (.iconst 5, 1) := by decide +kernel
theorem dX6_addMeter_62 : decode cX6_addMeter 62 = .ok (.invokevirtual 49, 3) := by decide +kernel
theorem dX6_addMeter_65 : decode cX6_addMeter 65 = .ok (.aload_n 0, 1) := by decide +kernel
theorem dX6_addMeter_66 : decode cX6_addMeter 66 = .ok (.iload_n 2, 1) := by decide +kernel
theorem dX6_addMeter_67 : decode cX6_addMeter 67 = .ok (.iconst 3, 1) := by decide +kernel
theorem dX6_addMeter_68 : decode cX6_addMeter 68 = .ok (.sipush 10000, 3) := by decide +kernel
theorem dX6_addMeter_71 : decode cX6_addMeter 71 = .ok (.invokevirtual 49, 3) := by decide +kernel
theorem dX6_addMeter_74 : decode cX6_addMeter 74 = .ok (.aload_n 0, 1) := by decide +kernel
theorem dX6_addMeter_75 : decode cX6_addMeter 75 = .ok (.iload_n 2, 1) := by decide +kernel
theorem dX6_addMeter_76 : decode cX6_addMeter 76 = .ok (.iconst 4, 1) := by decide +kernel
theorem dX6_addMeter_77 : decode cX6_addMeter 77 = .ok (.iconst 1, 1) := by decide +kernel
theorem dX6_addMeter_78 : decode cX6_addMeter 78 = .ok (.invokevirtual 49, 3) := by decide +kernel
theorem dX6_addMeter_81 : decode cX6_addMeter 81 = .ok (.aload_n 0, 1) := by decide +kernel
theorem dX6_addMeter_82 : decode cX6_addMeter 82 = .ok (.iload_n 2, 1) := by decide +kernel
theorem dX6_addMeter_83 : decode cX6_addMeter 83 = .ok (.invokevirtual 62, 3) := by decide +kernel
theorem dX6_addMeter_86 : decode cX6_addMeter 86 = .ok (.aload_n 0, 1) := by decide +kernel
theorem dX6_addMeter_87 : decode cX6_addMeter 87 = .ok (.getfield 7, 3) := by decide +kernel
theorem dX6_addMeter_90 : decode cX6_addMeter 90 = .ok (.iconst 0, 1) := by decide +kernel
theorem dX6_addMeter_91 : decode cX6_addMeter 91 = .ok (.dup2, 1) := by decide +kernel
theorem dX6_addMeter_92 : decode cX6_addMeter 92 = .ok (.iaload, 1) := by decide +kernel
theorem dX6_addMeter_93 : decode cX6_addMeter 93 = .ok (.iconst 1, 1) := by decide +kernel
theorem dX6_addMeter_94 : decode cX6_addMeter 94 = .ok (.iadd, 1) := by decide +kernel
theorem dX6_addMeter_95 : decode cX6_addMeter 95 = .ok (.iastore, 1) := by decide +kernel
theorem dX6_addMeter_96 : decode cX6_addMeter 96 = .ok (.iload_n 2, 1) := by decide +kernel
theorem dX6_addMeter_97 : decode cX6_addMeter 97 = .ok (.ireturn, 1) := by decide +kernel
abbrev rm_X6_addMeter : Room := { frames := 2, cells := 0, slots := 0, locals := 45 }
theorem hy_X6_addMeter : yX6_addMeter.cls ≠ "java/lang/invoke/MethodHandle" ∧ yX6_addMeter.cls ≠ "java/lang/invoke/VarHandle" ∧ (parseMethodDescriptor yX6_addMeter.desc).map (fun d => d.parameters.length) = some 1 := by decide +kernel
def w_X6_addMeter_48  (Q : Int32 → z_S → Prop) (x2 : Int32) (s0 : Int32) (s1 : Int32) (s2 : Int32) (σ : z_S) : Prop :=
  w_X6_sets s2 s1 s0 σ (fun σ9 => w_X6_sets x2 (1 : Int32) (1 : Int32) σ9 (fun σ11 => w_X6_sets x2 (2 : Int32) (5 : Int32) σ11 (fun σ13 => w_X6_sets x2 (3 : Int32) (10000 : Int32) σ13 (fun σ15 => w_X6_sets x2 (4 : Int32) (1 : Int32) σ15 (fun σ17 => w_X6_noReadings x2 σ17 (fun σ19 => vp_in (0 : Int32) 1584 ∧ vp_in (0 : Int32) 1584 ∧ ∀ σ22 : z_S, σ22 = zs_i σ19 74 (0 : Int32).toNatClampNeg ((zg_i σ19 74 (0 : Int32).toNatClampNeg) + (1 : Int32)) → Q x2 σ22))))))
def w_X6_addMeter_22  (Q : Int32 → z_S → Prop) (x1 : Int32) (x2 : Int32) (σ : z_S) : Prop :=
  if x2 = (10 : Int32) then (Q (-2000000004 : Int32) σ) else (w_X6_saves σ (fun σ6 => if x2 = 0 then (w_X6_addMeter_48 Q x2 (-2000000000 : Int32) (0 : Int32) x2 σ6) else (w_X6_addMeter_48 Q x2 x1 (0 : Int32) x2 σ6)))
def w_X6_addMeter (a1 : Int32) (σ : z_S) (Q : Int32 → z_S → Prop) : Prop :=
  vp_in (0 : Int32) 1584 ∧ ∀ y2 : Int32, y2 = (zg_i σ 74 (0 : Int32).toNatClampNeg) → if y2 ≤ 0 then (w_X6_addMeter_22 Q a1 y2 σ) else (w_X6_isMeter a1 σ (fun r23 σ24 => if r23 = 0 then (Q (-2000000001 : Int32) σ24) else (w_X6_addMeter_22 Q a1 y2 σ24)))
set_option maxHeartbeats 4000000 in
set_option maxRecDepth 100000 in
theorem t_X6_addMeter_48 {l : Launch} {D : va_G} {cI cJ cM cS : ClassId} {n0 : Nat} {p : Program} {e : Env} {s : State} {m : MethodId} {args : Array Value} {below : List Frame} {meth : Method} {c : Code}  {Q : Int32 → z_S → Prop} (hX : z_X D cI cJ cM cS p s m args c cX6_addMeter 3 yX6_addMeter.cls) (hY : z_Y s meth (some .int))  (x2 : Int32) (s0 : Int32) (s1 : Int32) (s2 : Int32) (σ : z_S) (hf : w_X6_addMeter_48  Q x2 s0 s1 s2 σ) : z_t D cI cJ cM cS n0 p l e rm_X6_addMeter s m args below meth c 3 (MQ below (va_Qi Q (fun u t => z_Bq D cI cJ cM cS n0 u t) (z_Ab n0)) args s 0 0 (z_Ab n0)) 0 0 48 [(0, .ref (n0 + 73)), (2, .int x2)] [.int s0, .int s1, .int s2, .ref (n0 + 73)] σ := by
  unfold w_X6_addMeter_48 at hf
  refine zt_callvV hX hY (av := [.int s2, .int s1, .int s0]) (c_X6_sets hf) dX6_addMeter_48 rfl kw_716 kw_718 kw_23 kw_67 kw_719 ⟨rfl, rfl⟩ hy_X6_sets ⟨by decide, by decide⟩ ⟨by decide, by decide⟩ (Nat.le_of_ble_eq_true rfl) (by decide) (zE_73 _ _) rfl rfl (fun σ9 hf => ?_)
  refine zt_aload_n hX 0 dX6_addMeter_51 rfl rfl ?_
  refine zt_iload_n hX 1 dX6_addMeter_52 rfl rfl ?_
  refine zt_iconst hX dX6_addMeter_53 (v := (1 : Int32)) (by decide) ?_
  refine zt_iconst hX dX6_addMeter_54 (v := (1 : Int32)) (by decide) ?_
  refine zt_callvV hX hY (av := [.int x2, .int (1 : Int32), .int (1 : Int32)]) (c_X6_sets hf) dX6_addMeter_55 rfl kw_716 kw_718 kw_23 kw_67 kw_719 ⟨rfl, rfl⟩ hy_X6_sets ⟨by decide, by decide⟩ ⟨by decide, by decide⟩ (Nat.le_of_ble_eq_true rfl) (by decide) (zE_73 _ _) rfl rfl (fun σ11 hf => ?_)
  refine zt_aload_n hX 0 dX6_addMeter_58 rfl rfl ?_
  refine zt_iload_n hX 1 dX6_addMeter_59 rfl rfl ?_
  refine zt_iconst hX dX6_addMeter_60 (v := (2 : Int32)) (by decide) ?_
  refine zt_iconst hX dX6_addMeter_61 (v := (5 : Int32)) (by decide) ?_
  refine zt_callvV hX hY (av := [.int x2, .int (2 : Int32), .int (5 : Int32)]) (c_X6_sets hf) dX6_addMeter_62 rfl kw_716 kw_718 kw_23 kw_67 kw_719 ⟨rfl, rfl⟩ hy_X6_sets ⟨by decide, by decide⟩ ⟨by decide, by decide⟩ (Nat.le_of_ble_eq_true rfl) (by decide) (zE_73 _ _) rfl rfl (fun σ13 hf => ?_)
  refine zt_aload_n hX 0 dX6_addMeter_65 rfl rfl ?_
  refine zt_iload_n hX 1 dX6_addMeter_66 rfl rfl ?_
  refine zt_iconst hX dX6_addMeter_67 (v := (3 : Int32)) (by decide) ?_
  refine zt_sipush hX dX6_addMeter_68 (v := (10000 : Int32)) (by decide) ?_
  refine zt_callvV hX hY (av := [.int x2, .int (3 : Int32), .int (10000 : Int32)]) (c_X6_sets hf) dX6_addMeter_71 rfl kw_716 kw_718 kw_23 kw_67 kw_719 ⟨rfl, rfl⟩ hy_X6_sets ⟨by decide, by decide⟩ ⟨by decide, by decide⟩ (Nat.le_of_ble_eq_true rfl) (by decide) (zE_73 _ _) rfl rfl (fun σ15 hf => ?_)
  refine zt_aload_n hX 0 dX6_addMeter_74 rfl rfl ?_
  refine zt_iload_n hX 1 dX6_addMeter_75 rfl rfl ?_
  refine zt_iconst hX dX6_addMeter_76 (v := (4 : Int32)) (by decide) ?_
  refine zt_iconst hX dX6_addMeter_77 (v := (1 : Int32)) (by decide) ?_
  refine zt_callvV hX hY (av := [.int x2, .int (4 : Int32), .int (1 : Int32)]) (c_X6_sets hf) dX6_addMeter_78 rfl kw_716 kw_718 kw_23 kw_67 kw_719 ⟨rfl, rfl⟩ hy_X6_sets ⟨by decide, by decide⟩ ⟨by decide, by decide⟩ (Nat.le_of_ble_eq_true rfl) (by decide) (zE_73 _ _) rfl rfl (fun σ17 hf => ?_)
  refine zt_aload_n hX 0 dX6_addMeter_81 rfl rfl ?_
  refine zt_iload_n hX 1 dX6_addMeter_82 rfl rfl ?_
  refine zt_callvV hX hY (av := [.int x2]) (c_X6_noReadings hf) dX6_addMeter_83 rfl kw_720 kw_722 kw_24 kw_67 kw_723 ⟨rfl, rfl⟩ hy_X6_noReadings ⟨by decide, by decide⟩ ⟨by decide, by decide⟩ (Nat.le_of_ble_eq_true rfl) (by decide) (zE_73 _ _) rfl rfl (fun σ19 hf => ?_)
  refine zt_aload_n hX 0 dX6_addMeter_86 rfl rfl ?_
  refine zt_get_X6 hX (by decide) (zE_73 _ _) 0 (by decide) kw_654 rfl rfl dX6_addMeter_87 ?_
  refine zt_iconst hX dX6_addMeter_90 (v := (0 : Int32)) (by decide) ?_
  refine zt_dup2 hX dX6_addMeter_91 rfl rfl ?_
  obtain ⟨h20, hf⟩ := hf
  refine zt_iaload hX dX6_addMeter_92 (by decide) rfl h20 ?_
  refine zt_iconst hX dX6_addMeter_93 (v := (1 : Int32)) (by decide) ?_
  refine zt_iadd hX dX6_addMeter_94 ?_
  obtain ⟨h21, hf⟩ := hf
  refine zt_iastore hX dX6_addMeter_95 (by decide) rfl h21 ?_
  refine zt_nms (fun σ22 d22 => ?_)
  replace hf := hf σ22 d22
  refine zt_iload_n hX 1 dX6_addMeter_96 rfl rfl ?_
  exact zt_iret hX hY dX6_addMeter_97 hf
set_option maxHeartbeats 4000000 in
set_option maxRecDepth 100000 in
theorem t_X6_addMeter_22 {l : Launch} {D : va_G} {cI cJ cM cS : ClassId} {n0 : Nat} {p : Program} {e : Env} {s : State} {m : MethodId} {args : Array Value} {below : List Frame} {meth : Method} {c : Code}  {Q : Int32 → z_S → Prop} (hX : z_X D cI cJ cM cS p s m args c cX6_addMeter 3 yX6_addMeter.cls) (hY : z_Y s meth (some .int))  (x1 : Int32) (x2 : Int32) (σ : z_S) (hf : w_X6_addMeter_22  Q x1 x2 σ) : z_t D cI cJ cM cS n0 p l e rm_X6_addMeter s m args below meth c 3 (MQ below (va_Qi Q (fun u t => z_Bq D cI cJ cM cS n0 u t) (z_Ab n0)) args s 0 0 (z_Ab n0)) 0 0 22 [(0, .ref (n0 + 73)), (1, .int x1), (2, .int x2)] [] σ := by
  unfold w_X6_addMeter_22 at hf
  refine zt_iload_n hX 2 dX6_addMeter_22 rfl rfl ?_
  refine zt_bipush hX dX6_addMeter_23 (v := (10 : Int32)) (by decide) ?_
  refine zt_icmp_ne hX dX6_addMeter_25 (tgt := 31) (by decide) (fun c4 => ?_) (fun c4 => ?_)
  · replace hf := z_neg hf c4
    refine zt_aload_n hX 0 dX6_addMeter_31 rfl rfl ?_
    refine zt_callvV hX hY (av := []) (c_X6_saves hf) dX6_addMeter_32 rfl kw_707 kw_709 kw_21 kw_67 kw_710 ⟨rfl, rfl⟩ hy_X6_saves ⟨by decide, by decide⟩ ⟨by decide, by decide⟩ (Nat.le_of_ble_eq_true rfl) (by decide) (zE_73 _ _) rfl rfl (fun σ6 hf => ?_)
    refine zt_aload_n hX 0 dX6_addMeter_35 rfl rfl ?_
    refine zt_iload_n hX 2 dX6_addMeter_36 rfl rfl ?_
    refine zt_iconst hX dX6_addMeter_37 (v := (0 : Int32)) (by decide) ?_
    refine zt_iload_n hX 2 dX6_addMeter_38 rfl rfl ?_
    refine zt_if_ne hX dX6_addMeter_39 (tgt := 47) (by decide) (fun c7 => ?_) (fun c7 => ?_)
    · replace hf := z_neg hf c7
      refine zt_iload_n hX 1 dX6_addMeter_47 rfl rfl ?_
      exact zt_sub [0, 2] rfl (t_X6_addMeter_48 hX hY _ _ _ _ _ hf)
    · replace hf := z_pos hf c7
      refine zt_ldc hX dX6_addMeter_42 kw_715 ?_
      refine zt_goto hX dX6_addMeter_44 (tgt := 48) (by decide) ?_
      exact zt_sub [0, 2] rfl (t_X6_addMeter_48 hX hY _ _ _ _ _ hf)
  · replace hf := z_pos hf c4
    refine zt_ldc hX dX6_addMeter_28 kw_706 ?_
    exact zt_iret hX hY dX6_addMeter_30 hf
set_option maxHeartbeats 4000000 in
set_option maxRecDepth 100000 in
theorem c_X6_addMeter {l : Launch} {D : va_G} {cI cJ cM cS : ClassId} {n0 : Nat} {a1 : Int32} {σ : z_S} {Q : Int32 → z_S → Prop} (hf : w_X6_addMeter a1 σ Q) : z_ci l D cI cJ cM cS n0 yX6_addMeter cX6_addMeter 3 .int rm_X6_addMeter 0 0 [.ref (n0 + 73), .int a1] σ Q := by
  refine z_ofi (by decide +kernel) (Nat.le_of_ble_eq_true rfl) (fun p e s m args below meth c hX hY => ?_)
  unfold w_X6_addMeter at hf
  refine zt_L (L' := [(0, .ref (n0 + 73)), (1, .int a1)]) rfl ?_
  refine zt_aload_n hX 0 dX6_addMeter_0 rfl rfl ?_
  refine zt_get_X6 hX (by decide) (zE_73 _ _) 0 (by decide) kw_654 rfl rfl dX6_addMeter_1 ?_
  refine zt_iconst hX dX6_addMeter_4 (v := (0 : Int32)) (by decide) ?_
  obtain ⟨h1, hf⟩ := hf
  refine zt_iaload hX dX6_addMeter_5 (by decide) rfl h1 ?_
  refine zt_nmi (fun y2 e2 => ?_)
  replace hf := hf y2 e2
  refine zt_istore_n (L' := [(2, .int y2), (0, .ref (n0 + 73)), (1, .int a1)]) hX dX6_addMeter_6 rfl (by decide) rfl ?_
  refine zt_iload_n hX 0 dX6_addMeter_7 rfl rfl ?_
  refine zt_if_le hX dX6_addMeter_8 (tgt := 22) (by decide) (fun c3 => ?_) (fun c3 => ?_)
  · replace hf := z_pos hf c3
    exact zt_sub [1, 2, 0] rfl (t_X6_addMeter_22 hX hY _ _ _ hf)
  · replace hf := z_neg hf c3
    refine zt_aload_n hX 1 dX6_addMeter_11 rfl rfl ?_
    refine zt_iload_n hX 2 dX6_addMeter_12 rfl rfl ?_
    refine zt_calliV hX hY (av := [.int a1]) (c_X6_isMeter hf) dX6_addMeter_13 rfl kw_698 kw_700 kw_20 kw_67 kw_701 ⟨rfl, rfl⟩ hy_X6_isMeter ⟨by decide, by decide⟩ ⟨by decide, by decide⟩ (Nat.le_of_ble_eq_true rfl) (by decide) (zE_73 _ _) rfl rfl (fun r23 σ24 hf => ?_)
    refine zt_if_ne hX dX6_addMeter_16 (tgt := 22) (by decide) (fun c25 => ?_) (fun c25 => ?_)
    · replace hf := z_neg hf c25
      exact zt_sub [1, 2, 0] rfl (t_X6_addMeter_22 hX hY _ _ _ hf)
    · replace hf := z_pos hf c25
      refine zt_ldc hX dX6_addMeter_19 kw_705 ?_
      exact zt_iret hX hY dX6_addMeter_21 hf

theorem dX6_setMeter_0 : decode cX6_setMeter 0 = .ok (.aload_n 0, 1) := by decide +kernel
theorem dX6_setMeter_1 : decode cX6_setMeter 1 = .ok (.iload_n 1, 1) := by decide +kernel
theorem dX6_setMeter_2 : decode cX6_setMeter 2 = .ok (.invokevirtual 53, 3) := by decide +kernel
theorem dX6_setMeter_5 : decode cX6_setMeter 5 = .ok (.ifCond .ne 6, 3) := by decide +kernel
theorem dX6_setMeter_8 : decode cX6_setMeter 8 = .ok (.ldc 57, 2) := by decide +kernel
theorem dX6_setMeter_10 : decode cX6_setMeter 10 = .ok (.ireturn, 1) := by decide +kernel
theorem dX6_setMeter_11 : decode cX6_setMeter 11 = .ok (.iload_n 2, 1) := by decide +kernel
theorem dX6_setMeter_12 : decode cX6_setMeter 12 = .ok (.iconst 1, 1) := by decide +kernel
theorem dX6_setMeter_13 : decode cX6_setMeter 13 = .ok (.bipush 100, 2) := by decide +kernel
theorem dX6_setMeter_15 : decode cX6_setMeter 15 = .ok (.invokestatic 40, 3) := by decide +kernel
theorem dX6_setMeter_18 : decode cX6_setMeter 18 = .ok (.ifCond .eq 13, 3) := by decide +kernel
theorem dX6_setMeter_21 : decode cX6_setMeter 21 = .ok (.iload_n 3, 1) := by decide +kernel
theorem dX6_setMeter_22 : decode cX6_setMeter 22 = .ok (.iconst 1, 1) := by decide +kernel
theorem dX6_setMeter_23 : decode cX6_setMeter 23 = .ok (.bipush 100, 2) := by decide +kernel
theorem dX6_setMeter_25 : decode cX6_setMeter 25 = .ok (.invokestatic 40, 3) := by decide +kernel
theorem dX6_setMeter_28 : decode cX6_setMeter 28 = .ok (.ifCond .ne 6, 3) := by decide +kernel
theorem dX6_setMeter_31 : decode cX6_setMeter 31 = .ok (.ldc 66, 2) := by decide +kernel
theorem dX6_setMeter_33 : decode cX6_setMeter 33 = .ok (.ireturn, 1) := by decide +kernel
theorem dX6_setMeter_34 : decode cX6_setMeter 34 = .ok (.aload_n 0, 1) := by decide +kernel
theorem dX6_setMeter_35 : decode cX6_setMeter 35 = .ok (.invokevirtual 59, 3) := by decide +kernel
theorem dX6_setMeter_38 : decode cX6_setMeter 38 = .ok (.aload_n 0, 1) := by decide +kernel
theorem dX6_setMeter_39 : decode cX6_setMeter 39 = .ok (.iload_n 1, 1) := by decide +kernel
theorem dX6_setMeter_40 : decode cX6_setMeter 40 = .ok (.iconst 1, 1) := by decide +kernel
theorem dX6_setMeter_41 : decode cX6_setMeter 41 = .ok (.invokevirtual 44, 3) := by decide +kernel
theorem dX6_setMeter_44 : decode cX6_setMeter 44 = .ok (.istore 4, 2) := by decide +kernel
theorem dX6_setMeter_46 : decode cX6_setMeter 46 = .ok (.aload_n 0, 1) := by decide +kernel
theorem dX6_setMeter_47 : decode cX6_setMeter 47 = .ok (.iload_n 1, 1) := by decide +kernel
theorem dX6_setMeter_48 : decode cX6_setMeter 48 = .ok (.iconst 1, 1) := by decide +kernel
theorem dX6_setMeter_49 : decode cX6_setMeter 49 = .ok (.iload_n 2, 1) := by decide +kernel
theorem dX6_setMeter_50 : decode cX6_setMeter 50 = .ok (.invokevirtual 49, 3) := by decide +kernel
theorem dX6_setMeter_53 : decode cX6_setMeter 53 = .ok (.aload_n 0, 1) := by decide +kernel
theorem dX6_setMeter_54 : decode cX6_setMeter 54 = .ok (.iload_n 1, 1) := by decide +kernel
theorem dX6_setMeter_55 : decode cX6_setMeter 55 = .ok (.iconst 4, 1) := by decide +kernel
theorem dX6_setMeter_56 : decode cX6_setMeter 56 = .ok (.iload_n 3, 1) := by decide +kernel
theorem dX6_setMeter_57 : decode cX6_setMeter 57 = .ok (.invokevirtual 49, 3) := by decide +kernel
theorem dX6_setMeter_60 : decode cX6_setMeter 60 = .ok (.iload 4, 2) := by decide +kernel
theorem dX6_setMeter_62 : decode cX6_setMeter 62 = .ok (.ireturn, 1) := by decide +kernel
abbrev rm_X6_setMeter : Room := { frames := 2, cells := 0, slots := 0, locals := 44 }
theorem hy_X6_setMeter : yX6_setMeter.cls ≠ "java/lang/invoke/MethodHandle" ∧ yX6_setMeter.cls ≠ "java/lang/invoke/VarHandle" ∧ (parseMethodDescriptor yX6_setMeter.desc).map (fun d => d.parameters.length) = some 3 := by decide +kernel
def w_X6_setMeter (a1 : Int32) (a2 : Int32) (a3 : Int32) (σ : z_S) (Q : Int32 → z_S → Prop) : Prop :=
  w_X6_isMeter a1 σ (fun r1 σ2 => if r1 = 0 then (Q (-2000000001 : Int32) σ2) else (w_X6_in a2 (1 : Int32) (100 : Int32) σ2 (fun r4 σ5 => if r4 = 0 then (Q (-2000000002 : Int32) σ5) else (w_X6_in a3 (1 : Int32) (100 : Int32) σ5 (fun r7 σ8 => if r7 = 0 then (Q (-2000000002 : Int32) σ8) else (w_X6_saves σ8 (fun σ11 => w_X6_of a1 (1 : Int32) σ11 (fun r12 σ13 => w_X6_sets a1 (1 : Int32) a2 σ13 (fun σ15 => w_X6_sets a1 (4 : Int32) a3 σ15 (fun σ17 => Q r12 σ17))))))))))
set_option maxHeartbeats 4000000 in
set_option maxRecDepth 100000 in
theorem c_X6_setMeter {l : Launch} {D : va_G} {cI cJ cM cS : ClassId} {n0 : Nat} {a1 : Int32} {a2 : Int32} {a3 : Int32} {σ : z_S} {Q : Int32 → z_S → Prop} (hf : w_X6_setMeter a1 a2 a3 σ Q) : z_ci l D cI cJ cM cS n0 yX6_setMeter cX6_setMeter 5 .int rm_X6_setMeter 0 0 [.ref (n0 + 73), .int a1, .int a2, .int a3] σ Q := by
  refine z_ofi (by decide +kernel) (Nat.le_of_ble_eq_true rfl) (fun p e s m args below meth c hX hY => ?_)
  unfold w_X6_setMeter at hf
  refine zt_L (L' := [(0, .ref (n0 + 73)), (1, .int a1), (2, .int a2), (3, .int a3)]) rfl ?_
  refine zt_aload_n hX 0 dX6_setMeter_0 rfl rfl ?_
  refine zt_iload_n hX 1 dX6_setMeter_1 rfl rfl ?_
  refine zt_calliV hX hY (av := [.int a1]) (c_X6_isMeter hf) dX6_setMeter_2 rfl kw_698 kw_700 kw_20 kw_67 kw_701 ⟨rfl, rfl⟩ hy_X6_isMeter ⟨by decide, by decide⟩ ⟨by decide, by decide⟩ (Nat.le_of_ble_eq_true rfl) (by decide) (zE_73 _ _) rfl rfl (fun r1 σ2 hf => ?_)
  refine zt_if_ne hX dX6_setMeter_5 (tgt := 11) (by decide) (fun c3 => ?_) (fun c3 => ?_)
  · replace hf := z_neg hf c3
    refine zt_iload_n hX 2 dX6_setMeter_11 rfl rfl ?_
    refine zt_iconst hX dX6_setMeter_12 (v := (1 : Int32)) (by decide) ?_
    refine zt_bipush hX dX6_setMeter_13 (v := (100 : Int32)) (by decide) ?_
    refine zt_calliS hX hY (av := [.int a2, .int (1 : Int32), .int (100 : Int32)]) (c_X6_in hf) dX6_setMeter_15 rfl kw_702 kw_703 kw_67 kw_704 ⟨rfl, rfl⟩ hy_X6_in ⟨by decide, by decide⟩ ⟨by decide, by decide⟩ (Nat.le_of_ble_eq_true rfl) (fun r4 σ5 hf => ?_)
    refine zt_if_eq hX dX6_setMeter_18 (tgt := 31) (by decide) (fun c6 => ?_) (fun c6 => ?_)
    · replace hf := z_pos hf c6
      refine zt_ldc hX dX6_setMeter_31 kw_728 ?_
      exact zt_iret hX hY dX6_setMeter_33 hf
    · replace hf := z_neg hf c6
      refine zt_iload_n hX 3 dX6_setMeter_21 rfl rfl ?_
      refine zt_iconst hX dX6_setMeter_22 (v := (1 : Int32)) (by decide) ?_
      refine zt_bipush hX dX6_setMeter_23 (v := (100 : Int32)) (by decide) ?_
      refine zt_calliS hX hY (av := [.int a3, .int (1 : Int32), .int (100 : Int32)]) (c_X6_in hf) dX6_setMeter_25 rfl kw_702 kw_703 kw_67 kw_704 ⟨rfl, rfl⟩ hy_X6_in ⟨by decide, by decide⟩ ⟨by decide, by decide⟩ (Nat.le_of_ble_eq_true rfl) (fun r7 σ8 hf => ?_)
      refine zt_if_ne hX dX6_setMeter_28 (tgt := 34) (by decide) (fun c9 => ?_) (fun c9 => ?_)
      · replace hf := z_neg hf c9
        refine zt_aload_n hX 0 dX6_setMeter_34 rfl rfl ?_
        refine zt_callvV hX hY (av := []) (c_X6_saves hf) dX6_setMeter_35 rfl kw_707 kw_709 kw_21 kw_67 kw_710 ⟨rfl, rfl⟩ hy_X6_saves ⟨by decide, by decide⟩ ⟨by decide, by decide⟩ (Nat.le_of_ble_eq_true rfl) (by decide) (zE_73 _ _) rfl rfl (fun σ11 hf => ?_)
        refine zt_aload_n hX 0 dX6_setMeter_38 rfl rfl ?_
        refine zt_iload_n hX 1 dX6_setMeter_39 rfl rfl ?_
        refine zt_iconst hX dX6_setMeter_40 (v := (1 : Int32)) (by decide) ?_
        refine zt_calliV hX hY (av := [.int a1, .int (1 : Int32)]) (c_X6_of hf) dX6_setMeter_41 rfl kw_729 kw_731 kw_25 kw_67 kw_732 ⟨rfl, rfl⟩ hy_X6_of ⟨by decide, by decide⟩ ⟨by decide, by decide⟩ (Nat.le_of_ble_eq_true rfl) (by decide) (zE_73 _ _) rfl rfl (fun r12 σ13 hf => ?_)
        refine zt_istore (L' := [(4, .int r12), (0, .ref (n0 + 73)), (1, .int a1), (2, .int a2), (3, .int a3)]) hX dX6_setMeter_44 (by decide) rfl ?_
        refine zt_aload_n hX 1 dX6_setMeter_46 rfl rfl ?_
        refine zt_iload_n hX 2 dX6_setMeter_47 rfl rfl ?_
        refine zt_iconst hX dX6_setMeter_48 (v := (1 : Int32)) (by decide) ?_
        refine zt_iload_n hX 3 dX6_setMeter_49 rfl rfl ?_
        refine zt_callvV hX hY (av := [.int a1, .int (1 : Int32), .int a2]) (c_X6_sets hf) dX6_setMeter_50 rfl kw_716 kw_718 kw_23 kw_67 kw_719 ⟨rfl, rfl⟩ hy_X6_sets ⟨by decide, by decide⟩ ⟨by decide, by decide⟩ (Nat.le_of_ble_eq_true rfl) (by decide) (zE_73 _ _) rfl rfl (fun σ15 hf => ?_)
        refine zt_aload_n hX 1 dX6_setMeter_53 rfl rfl ?_
        refine zt_iload_n hX 2 dX6_setMeter_54 rfl rfl ?_
        refine zt_iconst hX dX6_setMeter_55 (v := (4 : Int32)) (by decide) ?_
        refine zt_iload_n hX 4 dX6_setMeter_56 rfl rfl ?_
        refine zt_callvV hX hY (av := [.int a1, .int (4 : Int32), .int a3]) (c_X6_sets hf) dX6_setMeter_57 rfl kw_716 kw_718 kw_23 kw_67 kw_719 ⟨rfl, rfl⟩ hy_X6_sets ⟨by decide, by decide⟩ ⟨by decide, by decide⟩ (Nat.le_of_ble_eq_true rfl) (by decide) (zE_73 _ _) rfl rfl (fun σ17 hf => ?_)
        refine zt_iload hX 0 dX6_setMeter_60 rfl ?_
        exact zt_iret hX hY dX6_setMeter_62 hf
      · replace hf := z_pos hf c9
        refine zt_ldc hX dX6_setMeter_31 kw_728 ?_
        exact zt_iret hX hY dX6_setMeter_33 hf
  · replace hf := z_pos hf c3
    refine zt_ldc hX dX6_setMeter_8 kw_705 ?_
    exact zt_iret hX hY dX6_setMeter_10 hf

theorem dX6_setRegister_0 : decode cX6_setRegister 0 = .ok (.aload_n 0, 1) := by decide +kernel
theorem dX6_setRegister_1 : decode cX6_setRegister 1 = .ok (.iload_n 1, 1) := by decide +kernel
theorem dX6_setRegister_2 : decode cX6_setRegister 2 = .ok (.invokevirtual 53, 3) := by decide +kernel
theorem dX6_setRegister_5 : decode cX6_setRegister 5 = .ok (.ifCond .ne 6, 3) := by decide +kernel
theorem dX6_setRegister_8 : decode cX6_setRegister 8 = .ok (.ldc 57, 2) := by decide +kernel
theorem dX6_setRegister_10 : decode cX6_setRegister 10 = .ok (.ireturn, 1) := by decide +kernel
theorem dX6_setRegister_11 : decode cX6_setRegister 11 = .ok (.iload_n 2, 1) := by decide +kernel
theorem dX6_setRegister_12 : decode cX6_setRegister 12 = .ok (.iconst 3, 1) := by decide +kernel
theorem dX6_setRegister_13 : decode cX6_setRegister 13 = .ok (.bipush 6, 2) := by decide +kernel
theorem dX6_setRegister_15 : decode cX6_setRegister 15 = .ok (.invokestatic 40, 3) := by decide +kernel
theorem dX6_setRegister_18 : decode cX6_setRegister 18 = .ok (.ifCond .eq 13, 3) := by decide +kernel
theorem dX6_setRegister_21 : decode cX6_setRegister 21 = .ok (.iload_n 3, 1) := by decide +kernel
theorem dX6_setRegister_22 : decode cX6_setRegister 22 = .ok (.iconst 1, 1) := by decide +kernel
theorem dX6_setRegister_23 : decode cX6_setRegister 23 = .ok (.ldc 67, 2) := by decide +kernel
theorem dX6_setRegister_25 : decode cX6_setRegister 25 = .ok (.invokestatic 40, 3) := by decide +kernel
theorem dX6_setRegister_28 : decode cX6_setRegister 28 = .ok (.ifCond .ne 6, 3) := by decide +kernel
theorem dX6_setRegister_31 : decode cX6_setRegister 31 = .ok (.ldc 66, 2) := by decide +kernel
theorem dX6_setRegister_33 : decode cX6_setRegister 33 = .ok (.ireturn, 1) := by decide +kernel
theorem dX6_setRegister_34 : decode cX6_setRegister 34 = .ok (.aload_n 0, 1) := by decide +kernel
theorem dX6_setRegister_35 : decode cX6_setRegister 35 = .ok (.invokevirtual 59, 3) := by decide +kernel
theorem dX6_setRegister_38 : decode cX6_setRegister 38 = .ok (.aload_n 0, 1) := by decide +kernel
theorem dX6_setRegister_39 : decode cX6_setRegister 39 = .ok (.iload_n 1, 1) := by decide +kernel
theorem dX6_setRegister_40 : decode cX6_setRegister 40 = .ok (.iconst 2, 1) := by decide +kernel
theorem dX6_setRegister_41 : decode cX6_setRegister 41 = .ok (.invokevirtual 44, 3) := by decide +kernel
theorem dX6_setRegister_44 : decode cX6_setRegister 44 = .ok (.istore 4, 2) := by decide +kernel
theorem dX6_setRegister_46 : decode cX6_setRegister 46 = .ok (.aload_n 0, 1) := by decide +kernel
theorem dX6_setRegister_47 : decode cX6_setRegister 47 = .ok (.iload_n 1, 1) := by decide +kernel
theorem dX6_setRegister_48 : decode cX6_setRegister 48 = .ok (.iconst 2, 1) := by decide +kernel
theorem dX6_setRegister_49 : decode cX6_setRegister 49 = .ok (.iload_n 2, 1) := by decide +kernel
theorem dX6_setRegister_50 : decode cX6_setRegister 50 = .ok (.invokevirtual 49, 3) := by decide +kernel
theorem dX6_setRegister_53 : decode cX6_setRegister 53 = .ok (.aload_n 0, 1) := by decide +kernel
theorem dX6_setRegister_54 : decode cX6_setRegister 54 = .ok (.iload_n 1, 1) := by decide +kernel
theorem dX6_setRegister_55 : decode cX6_setRegister 55 = .ok (.iconst 3, 1) := by decide +kernel
theorem dX6_setRegister_56 : decode cX6_setRegister 56 = .ok (.iload_n 3, 1) := by decide +kernel
theorem dX6_setRegister_57 : decode cX6_setRegister 57 = .ok (.invokevirtual 49, 3) := by decide +kernel
theorem dX6_setRegister_60 : decode cX6_setRegister 60 = .ok (.iload 4, 2) := by decide +kernel
theorem dX6_setRegister_62 : decode cX6_setRegister 62 = .ok (.iload_n 2, 1) := by decide +kernel
theorem dX6_setRegister_63 : decode cX6_setRegister 63 = .ok (.if_icmp .eq 8, 3) := by decide +kernel
theorem dX6_setRegister_66 : decode cX6_setRegister 66 = .ok (.aload_n 0, 1) := by decide +kernel
theorem dX6_setRegister_67 : decode cX6_setRegister 67 = .ok (.iload_n 1, 1) := by decide +kernel
theorem dX6_setRegister_68 : decode cX6_setRegister 68 = .ok (.invokevirtual 62, 3) := by decide +kernel
theorem dX6_setRegister_71 : decode cX6_setRegister 71 = .ok (.iload 4, 2) := by decide +kernel
theorem dX6_setRegister_73 : decode cX6_setRegister 73 = .ok (.ireturn, 1) := by decide +kernel
abbrev rm_X6_setRegister : Room := { frames := 2, cells := 0, slots := 0, locals := 45 }
theorem hy_X6_setRegister : yX6_setRegister.cls ≠ "java/lang/invoke/MethodHandle" ∧ yX6_setRegister.cls ≠ "java/lang/invoke/VarHandle" ∧ (parseMethodDescriptor yX6_setRegister.desc).map (fun d => d.parameters.length) = some 3 := by decide +kernel
def w_X6_setRegister (a1 : Int32) (a2 : Int32) (a3 : Int32) (σ : z_S) (Q : Int32 → z_S → Prop) : Prop :=
  w_X6_isMeter a1 σ (fun r1 σ2 => if r1 = 0 then (Q (-2000000001 : Int32) σ2) else (w_X6_in a2 (3 : Int32) (6 : Int32) σ2 (fun r4 σ5 => if r4 = 0 then (Q (-2000000002 : Int32) σ5) else (w_X6_in a3 (1 : Int32) (50000 : Int32) σ5 (fun r7 σ8 => if r7 = 0 then (Q (-2000000002 : Int32) σ8) else (w_X6_saves σ8 (fun σ11 => w_X6_of a1 (2 : Int32) σ11 (fun r12 σ13 => w_X6_sets a1 (2 : Int32) a2 σ13 (fun σ15 => w_X6_sets a1 (3 : Int32) a3 σ15 (fun σ17 => if r12 = a2 then (Q r12 σ17) else (w_X6_noReadings a1 σ17 (fun σ20 => Q r12 σ20))))))))))))
set_option maxHeartbeats 4000000 in
set_option maxRecDepth 100000 in
theorem c_X6_setRegister {l : Launch} {D : va_G} {cI cJ cM cS : ClassId} {n0 : Nat} {a1 : Int32} {a2 : Int32} {a3 : Int32} {σ : z_S} {Q : Int32 → z_S → Prop} (hf : w_X6_setRegister a1 a2 a3 σ Q) : z_ci l D cI cJ cM cS n0 yX6_setRegister cX6_setRegister 5 .int rm_X6_setRegister 0 0 [.ref (n0 + 73), .int a1, .int a2, .int a3] σ Q := by
  refine z_ofi (by decide +kernel) (Nat.le_of_ble_eq_true rfl) (fun p e s m args below meth c hX hY => ?_)
  unfold w_X6_setRegister at hf
  refine zt_L (L' := [(0, .ref (n0 + 73)), (1, .int a1), (2, .int a2), (3, .int a3)]) rfl ?_
  refine zt_aload_n hX 0 dX6_setRegister_0 rfl rfl ?_
  refine zt_iload_n hX 1 dX6_setRegister_1 rfl rfl ?_
  refine zt_calliV hX hY (av := [.int a1]) (c_X6_isMeter hf) dX6_setRegister_2 rfl kw_698 kw_700 kw_20 kw_67 kw_701 ⟨rfl, rfl⟩ hy_X6_isMeter ⟨by decide, by decide⟩ ⟨by decide, by decide⟩ (Nat.le_of_ble_eq_true rfl) (by decide) (zE_73 _ _) rfl rfl (fun r1 σ2 hf => ?_)
  refine zt_if_ne hX dX6_setRegister_5 (tgt := 11) (by decide) (fun c3 => ?_) (fun c3 => ?_)
  · replace hf := z_neg hf c3
    refine zt_iload_n hX 2 dX6_setRegister_11 rfl rfl ?_
    refine zt_iconst hX dX6_setRegister_12 (v := (3 : Int32)) (by decide) ?_
    refine zt_bipush hX dX6_setRegister_13 (v := (6 : Int32)) (by decide) ?_
    refine zt_calliS hX hY (av := [.int a2, .int (3 : Int32), .int (6 : Int32)]) (c_X6_in hf) dX6_setRegister_15 rfl kw_702 kw_703 kw_67 kw_704 ⟨rfl, rfl⟩ hy_X6_in ⟨by decide, by decide⟩ ⟨by decide, by decide⟩ (Nat.le_of_ble_eq_true rfl) (fun r4 σ5 hf => ?_)
    refine zt_if_eq hX dX6_setRegister_18 (tgt := 31) (by decide) (fun c6 => ?_) (fun c6 => ?_)
    · replace hf := z_pos hf c6
      refine zt_ldc hX dX6_setRegister_31 kw_728 ?_
      exact zt_iret hX hY dX6_setRegister_33 hf
    · replace hf := z_neg hf c6
      refine zt_iload_n hX 3 dX6_setRegister_21 rfl rfl ?_
      refine zt_iconst hX dX6_setRegister_22 (v := (1 : Int32)) (by decide) ?_
      refine zt_ldc hX dX6_setRegister_23 kw_737 ?_
      refine zt_calliS hX hY (av := [.int a3, .int (1 : Int32), .int (50000 : Int32)]) (c_X6_in hf) dX6_setRegister_25 rfl kw_702 kw_703 kw_67 kw_704 ⟨rfl, rfl⟩ hy_X6_in ⟨by decide, by decide⟩ ⟨by decide, by decide⟩ (Nat.le_of_ble_eq_true rfl) (fun r7 σ8 hf => ?_)
      refine zt_if_ne hX dX6_setRegister_28 (tgt := 34) (by decide) (fun c9 => ?_) (fun c9 => ?_)
      · replace hf := z_neg hf c9
        refine zt_aload_n hX 0 dX6_setRegister_34 rfl rfl ?_
        refine zt_callvV hX hY (av := []) (c_X6_saves hf) dX6_setRegister_35 rfl kw_707 kw_709 kw_21 kw_67 kw_710 ⟨rfl, rfl⟩ hy_X6_saves ⟨by decide, by decide⟩ ⟨by decide, by decide⟩ (Nat.le_of_ble_eq_true rfl) (by decide) (zE_73 _ _) rfl rfl (fun σ11 hf => ?_)
        refine zt_aload_n hX 0 dX6_setRegister_38 rfl rfl ?_
        refine zt_iload_n hX 1 dX6_setRegister_39 rfl rfl ?_
        refine zt_iconst hX dX6_setRegister_40 (v := (2 : Int32)) (by decide) ?_
        refine zt_calliV hX hY (av := [.int a1, .int (2 : Int32)]) (c_X6_of hf) dX6_setRegister_41 rfl kw_729 kw_731 kw_25 kw_67 kw_732 ⟨rfl, rfl⟩ hy_X6_of ⟨by decide, by decide⟩ ⟨by decide, by decide⟩ (Nat.le_of_ble_eq_true rfl) (by decide) (zE_73 _ _) rfl rfl (fun r12 σ13 hf => ?_)
        refine zt_istore (L' := [(4, .int r12), (0, .ref (n0 + 73)), (1, .int a1), (2, .int a2), (3, .int a3)]) hX dX6_setRegister_44 (by decide) rfl ?_
        refine zt_aload_n hX 1 dX6_setRegister_46 rfl rfl ?_
        refine zt_iload_n hX 2 dX6_setRegister_47 rfl rfl ?_
        refine zt_iconst hX dX6_setRegister_48 (v := (2 : Int32)) (by decide) ?_
        refine zt_iload_n hX 3 dX6_setRegister_49 rfl rfl ?_
        refine zt_callvV hX hY (av := [.int a1, .int (2 : Int32), .int a2]) (c_X6_sets hf) dX6_setRegister_50 rfl kw_716 kw_718 kw_23 kw_67 kw_719 ⟨rfl, rfl⟩ hy_X6_sets ⟨by decide, by decide⟩ ⟨by decide, by decide⟩ (Nat.le_of_ble_eq_true rfl) (by decide) (zE_73 _ _) rfl rfl (fun σ15 hf => ?_)
        refine zt_aload_n hX 1 dX6_setRegister_53 rfl rfl ?_
        refine zt_iload_n hX 2 dX6_setRegister_54 rfl rfl ?_
        refine zt_iconst hX dX6_setRegister_55 (v := (3 : Int32)) (by decide) ?_
        refine zt_iload_n hX 4 dX6_setRegister_56 rfl rfl ?_
        refine zt_callvV hX hY (av := [.int a1, .int (3 : Int32), .int a3]) (c_X6_sets hf) dX6_setRegister_57 rfl kw_716 kw_718 kw_23 kw_67 kw_719 ⟨rfl, rfl⟩ hy_X6_sets ⟨by decide, by decide⟩ ⟨by decide, by decide⟩ (Nat.le_of_ble_eq_true rfl) (by decide) (zE_73 _ _) rfl rfl (fun σ17 hf => ?_)
        refine zt_iload hX 0 dX6_setRegister_60 rfl ?_
        refine zt_iload_n hX 3 dX6_setRegister_62 rfl rfl ?_
        refine zt_icmp_eq hX dX6_setRegister_63 (tgt := 71) (by decide) (fun c18 => ?_) (fun c18 => ?_)
        · replace hf := z_pos hf c18
          refine zt_iload hX 0 dX6_setRegister_71 rfl ?_
          exact zt_iret hX hY dX6_setRegister_73 hf
        · replace hf := z_neg hf c18
          refine zt_aload_n hX 1 dX6_setRegister_66 rfl rfl ?_
          refine zt_iload_n hX 2 dX6_setRegister_67 rfl rfl ?_
          refine zt_callvV hX hY (av := [.int a1]) (c_X6_noReadings hf) dX6_setRegister_68 rfl kw_720 kw_722 kw_24 kw_67 kw_723 ⟨rfl, rfl⟩ hy_X6_noReadings ⟨by decide, by decide⟩ ⟨by decide, by decide⟩ (Nat.le_of_ble_eq_true rfl) (by decide) (zE_73 _ _) rfl rfl (fun σ20 hf => ?_)
          refine zt_iload hX 0 dX6_setRegister_71 rfl ?_
          exact zt_iret hX hY dX6_setRegister_73 hf
      · replace hf := z_pos hf c9
        refine zt_ldc hX dX6_setRegister_31 kw_728 ?_
        exact zt_iret hX hY dX6_setRegister_33 hf
  · replace hf := z_pos hf c3
    refine zt_ldc hX dX6_setRegister_8 kw_705 ?_
    exact zt_iret hX hY dX6_setRegister_10 hf

theorem dX6_setRules_0 : decode cX6_setRules 0 = .ok (.iload_n 1, 1) := by decide +kernel
theorem dX6_setRules_1 : decode cX6_setRules 1 = .ok (.iconst 2, 1) := by decide +kernel
theorem dX6_setRules_2 : decode cX6_setRules 2 = .ok (.bipush 20, 2) := by decide +kernel
theorem dX6_setRules_4 : decode cX6_setRules 4 = .ok (.invokestatic 40, 3) := by decide +kernel
theorem dX6_setRules_7 : decode cX6_setRules 7 = .ok (.ifCond .eq 14, 3) := by decide +kernel
theorem dX6_setRules_10 : decode cX6_setRules 10 = .ok (.iload_n 2, 1) := by decide +kernel
theorem dX6_setRules_11 : decode cX6_setRules 11 = .ok (.iconst 0, 1) := by decide +kernel
theorem dX6_setRules_12 : decode cX6_setRules 12 = .ok (.sipush 1000, 3) := by decide +kernel
theorem dX6_setRules_15 : decode cX6_setRules 15 = .ok (.invokestatic 40, 3) := by decide +kernel
theorem dX6_setRules_18 : decode cX6_setRules 18 = .ok (.ifCond .ne 6, 3) := by decide +kernel
theorem dX6_setRules_21 : decode cX6_setRules 21 = .ok (.ldc 66, 2) := by decide +kernel
theorem dX6_setRules_23 : decode cX6_setRules 23 = .ok (.ireturn, 1) := by decide +kernel
theorem dX6_setRules_24 : decode cX6_setRules 24 = .ok (.aload_n 0, 1) := by decide +kernel
theorem dX6_setRules_25 : decode cX6_setRules 25 = .ok (.invokevirtual 59, 3) := by decide +kernel
theorem dX6_setRules_28 : decode cX6_setRules 28 = .ok (.aload_n 0, 1) := by decide +kernel
theorem dX6_setRules_29 : decode cX6_setRules 29 = .ok (.getfield 7, 3) := by decide +kernel
theorem dX6_setRules_32 : decode cX6_setRules 32 = .ok (.iconst 1, 1) := by decide +kernel
theorem dX6_setRules_33 : decode cX6_setRules 33 = .ok (.iaload, 1) := by decide +kernel
theorem dX6_setRules_34 : decode cX6_setRules 34 = .ok (.istore_n 3, 1) := by decide +kernel
theorem dX6_setRules_35 : decode cX6_setRules 35 = .ok (.aload_n 0, 1) := by decide +kernel
theorem dX6_setRules_36 : decode cX6_setRules 36 = .ok (.getfield 7, 3) := by decide +kernel
theorem dX6_setRules_39 : decode cX6_setRules 39 = .ok (.iconst 1, 1) := by decide +kernel
theorem dX6_setRules_40 : decode cX6_setRules 40 = .ok (.iload_n 1, 1) := by decide +kernel
theorem dX6_setRules_41 : decode cX6_setRules 41 = .ok (.iastore, 1) := by decide +kernel
theorem dX6_setRules_42 : decode cX6_setRules 42 = .ok (.aload_n 0, 1) := by decide +kernel
theorem dX6_setRules_43 : decode cX6_setRules 43 = .ok (.getfield 7, 3) := by decide +kernel
theorem dX6_setRules_46 : decode cX6_setRules 46 = .ok (.iconst 2, 1) := by decide +kernel
theorem dX6_setRules_47 : decode cX6_setRules 47 = .ok (.iload_n 2, 1) := by decide +kernel
theorem dX6_setRules_48 : decode cX6_setRules 48 = .ok (.iastore, 1) := by decide +kernel
theorem dX6_setRules_49 : decode cX6_setRules 49 = .ok (.iload_n 3, 1) := by decide +kernel
theorem dX6_setRules_50 : decode cX6_setRules 50 = .ok (.ireturn, 1) := by decide +kernel
abbrev rm_X6_setRules : Room := { frames := 2, cells := 0, slots := 0, locals := 44 }
theorem hy_X6_setRules : yX6_setRules.cls ≠ "java/lang/invoke/MethodHandle" ∧ yX6_setRules.cls ≠ "java/lang/invoke/VarHandle" ∧ (parseMethodDescriptor yX6_setRules.desc).map (fun d => d.parameters.length) = some 2 := by decide +kernel
def w_X6_setRules (a1 : Int32) (a2 : Int32) (σ : z_S) (Q : Int32 → z_S → Prop) : Prop :=
  w_X6_in a1 (2 : Int32) (20 : Int32) σ (fun r1 σ2 => if r1 = 0 then (Q (-2000000002 : Int32) σ2) else (w_X6_in a2 (0 : Int32) (1000 : Int32) σ2 (fun r4 σ5 => if r4 = 0 then (Q (-2000000002 : Int32) σ5) else (w_X6_saves σ5 (fun σ8 => vp_in (1 : Int32) 1584 ∧ ∀ y10 : Int32, y10 = (zg_i σ8 74 (1 : Int32).toNatClampNeg) → vp_in (1 : Int32) 1584 ∧ ∀ σ12 : z_S, σ12 = zs_i σ8 74 (1 : Int32).toNatClampNeg a1 → vp_in (2 : Int32) 1584 ∧ ∀ σ14 : z_S, σ14 = zs_i σ12 74 (2 : Int32).toNatClampNeg a2 → Q y10 σ14)))))
set_option maxHeartbeats 4000000 in
set_option maxRecDepth 100000 in
theorem c_X6_setRules {l : Launch} {D : va_G} {cI cJ cM cS : ClassId} {n0 : Nat} {a1 : Int32} {a2 : Int32} {σ : z_S} {Q : Int32 → z_S → Prop} (hf : w_X6_setRules a1 a2 σ Q) : z_ci l D cI cJ cM cS n0 yX6_setRules cX6_setRules 4 .int rm_X6_setRules 0 0 [.ref (n0 + 73), .int a1, .int a2] σ Q := by
  refine z_ofi (by decide +kernel) (Nat.le_of_ble_eq_true rfl) (fun p e s m args below meth c hX hY => ?_)
  unfold w_X6_setRules at hf
  refine zt_L (L' := [(0, .ref (n0 + 73)), (1, .int a1), (2, .int a2)]) rfl ?_
  refine zt_iload_n hX 1 dX6_setRules_0 rfl rfl ?_
  refine zt_iconst hX dX6_setRules_1 (v := (2 : Int32)) (by decide) ?_
  refine zt_bipush hX dX6_setRules_2 (v := (20 : Int32)) (by decide) ?_
  refine zt_calliS hX hY (av := [.int a1, .int (2 : Int32), .int (20 : Int32)]) (c_X6_in hf) dX6_setRules_4 rfl kw_702 kw_703 kw_67 kw_704 ⟨rfl, rfl⟩ hy_X6_in ⟨by decide, by decide⟩ ⟨by decide, by decide⟩ (Nat.le_of_ble_eq_true rfl) (fun r1 σ2 hf => ?_)
  refine zt_if_eq hX dX6_setRules_7 (tgt := 21) (by decide) (fun c3 => ?_) (fun c3 => ?_)
  · replace hf := z_pos hf c3
    refine zt_ldc hX dX6_setRules_21 kw_728 ?_
    exact zt_iret hX hY dX6_setRules_23 hf
  · replace hf := z_neg hf c3
    refine zt_iload_n hX 2 dX6_setRules_10 rfl rfl ?_
    refine zt_iconst hX dX6_setRules_11 (v := (0 : Int32)) (by decide) ?_
    refine zt_sipush hX dX6_setRules_12 (v := (1000 : Int32)) (by decide) ?_
    refine zt_calliS hX hY (av := [.int a2, .int (0 : Int32), .int (1000 : Int32)]) (c_X6_in hf) dX6_setRules_15 rfl kw_702 kw_703 kw_67 kw_704 ⟨rfl, rfl⟩ hy_X6_in ⟨by decide, by decide⟩ ⟨by decide, by decide⟩ (Nat.le_of_ble_eq_true rfl) (fun r4 σ5 hf => ?_)
    refine zt_if_ne hX dX6_setRules_18 (tgt := 24) (by decide) (fun c6 => ?_) (fun c6 => ?_)
    · replace hf := z_neg hf c6
      refine zt_aload_n hX 0 dX6_setRules_24 rfl rfl ?_
      refine zt_callvV hX hY (av := []) (c_X6_saves hf) dX6_setRules_25 rfl kw_707 kw_709 kw_21 kw_67 kw_710 ⟨rfl, rfl⟩ hy_X6_saves ⟨by decide, by decide⟩ ⟨by decide, by decide⟩ (Nat.le_of_ble_eq_true rfl) (by decide) (zE_73 _ _) rfl rfl (fun σ8 hf => ?_)
      refine zt_aload_n hX 0 dX6_setRules_28 rfl rfl ?_
      refine zt_get_X6 hX (by decide) (zE_73 _ _) 0 (by decide) kw_654 rfl rfl dX6_setRules_29 ?_
      refine zt_iconst hX dX6_setRules_32 (v := (1 : Int32)) (by decide) ?_
      obtain ⟨h9, hf⟩ := hf
      refine zt_iaload hX dX6_setRules_33 (by decide) rfl h9 ?_
      refine zt_nmi (fun y10 e10 => ?_)
      replace hf := hf y10 e10
      refine zt_istore_n (L' := [(3, .int y10), (0, .ref (n0 + 73)), (1, .int a1), (2, .int a2)]) hX dX6_setRules_34 rfl (by decide) rfl ?_
      refine zt_aload_n hX 1 dX6_setRules_35 rfl rfl ?_
      refine zt_get_X6 hX (by decide) (zE_73 _ _) 0 (by decide) kw_654 rfl rfl dX6_setRules_36 ?_
      refine zt_iconst hX dX6_setRules_39 (v := (1 : Int32)) (by decide) ?_
      refine zt_iload_n hX 2 dX6_setRules_40 rfl rfl ?_
      obtain ⟨h11, hf⟩ := hf
      refine zt_iastore hX dX6_setRules_41 (by decide) rfl h11 ?_
      refine zt_nms (fun σ12 d12 => ?_)
      replace hf := hf σ12 d12
      refine zt_aload_n hX 1 dX6_setRules_42 rfl rfl ?_
      refine zt_get_X6 hX (by decide) (zE_73 _ _) 0 (by decide) kw_654 rfl rfl dX6_setRules_43 ?_
      refine zt_iconst hX dX6_setRules_46 (v := (2 : Int32)) (by decide) ?_
      refine zt_iload_n hX 3 dX6_setRules_47 rfl rfl ?_
      obtain ⟨h13, hf⟩ := hf
      refine zt_iastore hX dX6_setRules_48 (by decide) rfl h13 ?_
      refine zt_nms (fun σ14 d14 => ?_)
      replace hf := hf σ14 d14
      refine zt_iload_n hX 0 dX6_setRules_49 rfl rfl ?_
      exact zt_iret hX hY dX6_setRules_50 hf
    · replace hf := z_pos hf c6
      refine zt_ldc hX dX6_setRules_21 kw_728 ?_
      exact zt_iret hX hY dX6_setRules_23 hf

theorem dX6_meters_0 : decode cX6_meters 0 = .ok (.aload_n 0, 1) := by decide +kernel
theorem dX6_meters_1 : decode cX6_meters 1 = .ok (.getfield 7, 3) := by decide +kernel
theorem dX6_meters_4 : decode cX6_meters 4 = .ok (.iconst 0, 1) := by decide +kernel
theorem dX6_meters_5 : decode cX6_meters 5 = .ok (.iaload, 1) := by decide +kernel
theorem dX6_meters_6 : decode cX6_meters 6 = .ok (.ireturn, 1) := by decide +kernel
abbrev rm_X6_meters : Room := { frames := 0, cells := 0, slots := 0, locals := 0 }
theorem hy_X6_meters : yX6_meters.cls ≠ "java/lang/invoke/MethodHandle" ∧ yX6_meters.cls ≠ "java/lang/invoke/VarHandle" ∧ (parseMethodDescriptor yX6_meters.desc).map (fun d => d.parameters.length) = some 0 := by decide +kernel
def w_X6_meters  (σ : z_S) (Q : Int32 → z_S → Prop) : Prop :=
  vp_in (0 : Int32) 1584 ∧ Q (zg_i σ 74 (0 : Int32).toNatClampNeg) σ
set_option maxHeartbeats 4000000 in
set_option maxRecDepth 100000 in
theorem c_X6_meters {l : Launch} {D : va_G} {cI cJ cM cS : ClassId} {n0 : Nat}  {σ : z_S} {Q : Int32 → z_S → Prop} (hf : w_X6_meters  σ Q) : z_ci l D cI cJ cM cS n0 yX6_meters cX6_meters 1 .int rm_X6_meters 0 0 [.ref (n0 + 73)] σ Q := by
  refine z_ofi (by decide +kernel) (Nat.le_of_ble_eq_true rfl) (fun p e s m args below meth c hX hY => ?_)
  unfold w_X6_meters at hf
  refine zt_L (L' := [(0, .ref (n0 + 73))]) rfl ?_
  refine zt_aload_n hX 0 dX6_meters_0 rfl rfl ?_
  refine zt_get_X6 hX (by decide) (zE_73 _ _) 0 (by decide) kw_654 rfl rfl dX6_meters_1 ?_
  refine zt_iconst hX dX6_meters_4 (v := (0 : Int32)) (by decide) ?_
  obtain ⟨h1, hf⟩ := hf
  refine zt_iaload hX dX6_meters_5 (by decide) rfl h1 ?_
  exact zt_iret hX hY dX6_meters_6 hf

theorem dX6_above_0 : decode cX6_above 0 = .ok (.iconst 0, 1) := by decide +kernel
theorem dX6_above_1 : decode cX6_above 1 = .ok (.istore_n 2, 1) := by decide +kernel
theorem dX6_above_2 : decode cX6_above 2 = .ok (.iload_n 1, 1) := by decide +kernel
theorem dX6_above_3 : decode cX6_above 3 = .ok (.istore_n 3, 1) := by decide +kernel
theorem dX6_above_4 : decode cX6_above 4 = .ok (.iload_n 3, 1) := by decide +kernel
theorem dX6_above_5 : decode cX6_above 5 = .ok (.ifCond .le 16, 3) := by decide +kernel
theorem dX6_above_8 : decode cX6_above 8 = .ok (.aload_n 0, 1) := by decide +kernel
theorem dX6_above_9 : decode cX6_above 9 = .ok (.iload_n 3, 1) := by decide +kernel
theorem dX6_above_10 : decode cX6_above 10 = .ok (.iconst 0, 1) := by decide +kernel
theorem dX6_above_11 : decode cX6_above 11 = .ok (.invokevirtual 44, 3) := by decide +kernel
theorem dX6_above_14 : decode cX6_above 14 = .ok (.istore_n 3, 1) := by decide +kernel
theorem dX6_above_15 : decode cX6_above 15 = .ok (.iinc 2 1, 3) := by decide +kernel
theorem dX6_above_18 : decode cX6_above 18 = .ok (.goto (-14), 3) := by decide +kernel
theorem dX6_above_21 : decode cX6_above 21 = .ok (.iload_n 2, 1) := by decide +kernel
theorem dX6_above_22 : decode cX6_above 22 = .ok (.ireturn, 1) := by decide +kernel
abbrev rm_X6_above : Room := { frames := 1, cells := 0, slots := 0, locals := 22 }
theorem hy_X6_above : yX6_above.cls ≠ "java/lang/invoke/MethodHandle" ∧ yX6_above.cls ≠ "java/lang/invoke/VarHandle" ∧ (parseMethodDescriptor yX6_above.desc).map (fun d => d.parameters.length) = some 1 := by decide +kernel
def wb_X6_above_4  (Q : Int32 → z_S → Prop) (k4 : Int32 → Int32 → z_S → Prop) (x2 : Int32) (x3 : Int32) (σ : z_S) : Prop :=
  if x3 ≤ 0 then (Q x2 σ) else (w_X6_of x3 (0 : Int32) σ (fun r2 σ3 => ∀ y4 : Int32, y4 = (x2 + (1 : Int32)) → k4 y4 r2 σ3))
def w_X6_above_4  (Q : Int32 → z_S → Prop) : Nat → Int32 → Int32 → z_S → Prop
  | 0 => fun _ _ _ => False
  | n + 1 => wb_X6_above_4  Q (w_X6_above_4  Q n)
def w_X6_above (a1 : Int32) (σ : z_S) (Q : Int32 → z_S → Prop) : Prop :=
  w_X6_above_4 Q 400 (0 : Int32) a1 σ
set_option maxHeartbeats 4000000 in
set_option maxRecDepth 100000 in
theorem t_X6_above_4 {l : Launch} {D : va_G} {cI cJ cM cS : ClassId} {n0 : Nat} {p : Program} {e : Env} {s : State} {m : MethodId} {args : Array Value} {below : List Frame} {meth : Method} {c : Code}  {Q : Int32 → z_S → Prop} (hX : z_X D cI cJ cM cS p s m args c cX6_above 4 yX6_above.cls) (hY : z_Y s meth (some .int))  : ∀ (n : Nat) (x2 : Int32) (x3 : Int32) (σ : z_S), w_X6_above_4  Q n x2 x3 σ → z_t D cI cJ cM cS n0 p l e rm_X6_above s m args below meth c 4 (MQ below (va_Qi Q (fun u t => z_Bq D cI cJ cM cS n0 u t) (z_Ab n0)) args s 0 0 (z_Ab n0)) 0 0 4 [(0, .ref (n0 + 73)), (2, .int x2), (3, .int x3)] [] σ := by
  intro n
  induction n with
  | zero => intro _ _ _ hf; exact hf.elim
  | succ n ih4 =>
    intro x2 x3 σ hf
    have hf : wb_X6_above_4  Q (w_X6_above_4  Q n) x2 x3 σ := hf
    unfold wb_X6_above_4 at hf
    refine zt_iload_n hX 2 dX6_above_4 rfl rfl ?_
    refine zt_if_le hX dX6_above_5 (tgt := 21) (by decide) (fun c1 => ?_) (fun c1 => ?_)
    · replace hf := z_pos hf c1
      refine zt_iload_n hX 1 dX6_above_21 rfl rfl ?_
      exact zt_iret hX hY dX6_above_22 hf
    · replace hf := z_neg hf c1
      refine zt_aload_n hX 0 dX6_above_8 rfl rfl ?_
      refine zt_iload_n hX 2 dX6_above_9 rfl rfl ?_
      refine zt_iconst hX dX6_above_10 (v := (0 : Int32)) (by decide) ?_
      refine zt_calliV hX hY (av := [.int x3, .int (0 : Int32)]) (c_X6_of hf) dX6_above_11 rfl kw_729 kw_731 kw_25 kw_67 kw_732 ⟨rfl, rfl⟩ hy_X6_of ⟨by decide, by decide⟩ ⟨by decide, by decide⟩ (Nat.le_of_ble_eq_true rfl) (by decide) (zE_73 _ _) rfl rfl (fun r2 σ3 hf => ?_)
      refine zt_istore_n (L' := [(3, .int r2), (0, .ref (n0 + 73)), (2, .int x2)]) hX dX6_above_14 rfl (by decide) rfl ?_
      obtain ⟨y4, e4⟩ : ∃ y : Int32, y = (x2 + (1 : Int32)) := ⟨_, rfl⟩
      replace hf := hf y4 e4
      refine zt_iinc (L' := [(2, .int y4), (3, .int r2), (0, .ref (n0 + 73))]) hX 2 dX6_above_15 rfl (v := y4) (by rw [e4]; rfl) (by decide) rfl ?_
      refine zt_goto hX dX6_above_18 (tgt := 4) (by decide) ?_
      exact zt_sub [2, 0, 1] rfl (ih4 _ _ _ hf)
set_option maxHeartbeats 4000000 in
set_option maxRecDepth 100000 in
theorem c_X6_above {l : Launch} {D : va_G} {cI cJ cM cS : ClassId} {n0 : Nat} {a1 : Int32} {σ : z_S} {Q : Int32 → z_S → Prop} (hf : w_X6_above a1 σ Q) : z_ci l D cI cJ cM cS n0 yX6_above cX6_above 4 .int rm_X6_above 0 0 [.ref (n0 + 73), .int a1] σ Q := by
  refine z_ofi (by decide +kernel) (Nat.le_of_ble_eq_true rfl) (fun p e s m args below meth c hX hY => ?_)
  unfold w_X6_above at hf
  refine zt_L (L' := [(0, .ref (n0 + 73)), (1, .int a1)]) rfl ?_
  refine zt_iconst hX dX6_above_0 (v := (0 : Int32)) (by decide) ?_
  refine zt_istore_n (L' := [(2, .int (0 : Int32)), (0, .ref (n0 + 73)), (1, .int a1)]) hX dX6_above_1 rfl (by decide) rfl ?_
  refine zt_iload_n hX 2 dX6_above_2 rfl rfl ?_
  refine zt_istore_n (L' := [(3, .int a1), (2, .int (0 : Int32)), (0, .ref (n0 + 73)), (1, .int a1)]) hX dX6_above_3 rfl (by decide) rfl ?_
  exact zt_sub [2, 1, 0] rfl (t_X6_above_4 hX hY 400 _ _ _ hf)

theorem dX6_meter_0 : decode cX6_meter 0 = .ok (.aload_n 0, 1) := by decide +kernel
theorem dX6_meter_1 : decode cX6_meter 1 = .ok (.iload_n 1, 1) := by decide +kernel
theorem dX6_meter_2 : decode cX6_meter 2 = .ok (.invokevirtual 53, 3) := by decide +kernel
theorem dX6_meter_5 : decode cX6_meter 5 = .ok (.ifCond .ne 6, 3) := by decide +kernel
theorem dX6_meter_8 : decode cX6_meter 8 = .ok (.ldc 57, 2) := by decide +kernel
theorem dX6_meter_10 : decode cX6_meter 10 = .ok (.ireturn, 1) := by decide +kernel
theorem dX6_meter_11 : decode cX6_meter 11 = .ok (.iload_n 2, 1) := by decide +kernel
theorem dX6_meter_12 : decode cX6_meter 12 = .ok (.iconst 0, 1) := by decide +kernel
theorem dX6_meter_13 : decode cX6_meter 13 = .ok (.bipush 6, 2) := by decide +kernel
theorem dX6_meter_15 : decode cX6_meter 15 = .ok (.invokestatic 40, 3) := by decide +kernel
theorem dX6_meter_18 : decode cX6_meter 18 = .ok (.ifCond .ne 6, 3) := by decide +kernel
theorem dX6_meter_21 : decode cX6_meter 21 = .ok (.ldc 66, 2) := by decide +kernel
theorem dX6_meter_23 : decode cX6_meter 23 = .ok (.ireturn, 1) := by decide +kernel
theorem dX6_meter_24 : decode cX6_meter 24 = .ok (.iload_n 2, 1) := by decide +kernel
theorem dX6_meter_25 : decode cX6_meter 25 = .ok (.iconst 5, 1) := by decide +kernel
theorem dX6_meter_26 : decode cX6_meter 26 = .ok (.if_icmp .ge 12, 3) := by decide +kernel
theorem dX6_meter_29 : decode cX6_meter 29 = .ok (.aload_n 0, 1) := by decide +kernel
theorem dX6_meter_30 : decode cX6_meter 30 = .ok (.iload_n 1, 1) := by decide +kernel
theorem dX6_meter_31 : decode cX6_meter 31 = .ok (.iload_n 2, 1) := by decide +kernel
theorem dX6_meter_32 : decode cX6_meter 32 = .ok (.invokevirtual 44, 3) := by decide +kernel
theorem dX6_meter_35 : decode cX6_meter 35 = .ok (.goto 21, 3) := by decide +kernel
theorem dX6_meter_38 : decode cX6_meter 38 = .ok (.iload_n 2, 1) := by decide +kernel
theorem dX6_meter_39 : decode cX6_meter 39 = .ok (.iconst 5, 1) := by decide +kernel
theorem dX6_meter_40 : decode cX6_meter 40 = .ok (.if_icmp .ne 11, 3) := by decide +kernel
theorem dX6_meter_43 : decode cX6_meter 43 = .ok (.aload_n 0, 1) := by decide +kernel
theorem dX6_meter_44 : decode cX6_meter 44 = .ok (.iload_n 1, 1) := by decide +kernel
theorem dX6_meter_45 : decode cX6_meter 45 = .ok (.invokevirtual 68, 3) := by decide +kernel
theorem dX6_meter_48 : decode cX6_meter 48 = .ok (.goto 8, 3) := by decide +kernel
theorem dX6_meter_51 : decode cX6_meter 51 = .ok (.aload_n 0, 1) := by decide +kernel
theorem dX6_meter_52 : decode cX6_meter 52 = .ok (.iload_n 1, 1) := by decide +kernel
theorem dX6_meter_53 : decode cX6_meter 53 = .ok (.invokevirtual 72, 3) := by decide +kernel
theorem dX6_meter_56 : decode cX6_meter 56 = .ok (.ireturn, 1) := by decide +kernel
abbrev rm_X6_meter : Room := { frames := 2, cells := 0, slots := 0, locals := 45 }
theorem hy_X6_meter : yX6_meter.cls ≠ "java/lang/invoke/MethodHandle" ∧ yX6_meter.cls ≠ "java/lang/invoke/VarHandle" ∧ (parseMethodDescriptor yX6_meter.desc).map (fun d => d.parameters.length) = some 2 := by decide +kernel
def w_X6_meter (a1 : Int32) (a2 : Int32) (σ : z_S) (Q : Int32 → z_S → Prop) : Prop :=
  w_X6_isMeter a1 σ (fun r1 σ2 => if r1 = 0 then (Q (-2000000001 : Int32) σ2) else (w_X6_in a2 (0 : Int32) (6 : Int32) σ2 (fun r4 σ5 => if r4 = 0 then (Q (-2000000002 : Int32) σ5) else (if (5 : Int32) ≤ a2 then (if a2 = (5 : Int32) then (w_X6_children a1 σ5 (fun r11 σ12 => Q r11 σ12)) else (w_X6_above a1 σ5 (fun r9 σ10 => Q r9 σ10))) else (w_X6_of a1 a2 σ5 (fun r13 σ14 => Q r13 σ14))))))
set_option maxHeartbeats 4000000 in
set_option maxRecDepth 100000 in
theorem c_X6_meter {l : Launch} {D : va_G} {cI cJ cM cS : ClassId} {n0 : Nat} {a1 : Int32} {a2 : Int32} {σ : z_S} {Q : Int32 → z_S → Prop} (hf : w_X6_meter a1 a2 σ Q) : z_ci l D cI cJ cM cS n0 yX6_meter cX6_meter 3 .int rm_X6_meter 0 0 [.ref (n0 + 73), .int a1, .int a2] σ Q := by
  refine z_ofi (by decide +kernel) (Nat.le_of_ble_eq_true rfl) (fun p e s m args below meth c hX hY => ?_)
  unfold w_X6_meter at hf
  refine zt_L (L' := [(0, .ref (n0 + 73)), (1, .int a1), (2, .int a2)]) rfl ?_
  refine zt_aload_n hX 0 dX6_meter_0 rfl rfl ?_
  refine zt_iload_n hX 1 dX6_meter_1 rfl rfl ?_
  refine zt_calliV hX hY (av := [.int a1]) (c_X6_isMeter hf) dX6_meter_2 rfl kw_698 kw_700 kw_20 kw_67 kw_701 ⟨rfl, rfl⟩ hy_X6_isMeter ⟨by decide, by decide⟩ ⟨by decide, by decide⟩ (Nat.le_of_ble_eq_true rfl) (by decide) (zE_73 _ _) rfl rfl (fun r1 σ2 hf => ?_)
  refine zt_if_ne hX dX6_meter_5 (tgt := 11) (by decide) (fun c3 => ?_) (fun c3 => ?_)
  · replace hf := z_neg hf c3
    refine zt_iload_n hX 2 dX6_meter_11 rfl rfl ?_
    refine zt_iconst hX dX6_meter_12 (v := (0 : Int32)) (by decide) ?_
    refine zt_bipush hX dX6_meter_13 (v := (6 : Int32)) (by decide) ?_
    refine zt_calliS hX hY (av := [.int a2, .int (0 : Int32), .int (6 : Int32)]) (c_X6_in hf) dX6_meter_15 rfl kw_702 kw_703 kw_67 kw_704 ⟨rfl, rfl⟩ hy_X6_in ⟨by decide, by decide⟩ ⟨by decide, by decide⟩ (Nat.le_of_ble_eq_true rfl) (fun r4 σ5 hf => ?_)
    refine zt_if_ne hX dX6_meter_18 (tgt := 24) (by decide) (fun c6 => ?_) (fun c6 => ?_)
    · replace hf := z_neg hf c6
      refine zt_iload_n hX 2 dX6_meter_24 rfl rfl ?_
      refine zt_iconst hX dX6_meter_25 (v := (5 : Int32)) (by decide) ?_
      refine zt_icmp_ge hX dX6_meter_26 (tgt := 38) (by decide) (fun c7 => ?_) (fun c7 => ?_)
      · replace hf := z_pos hf c7
        refine zt_iload_n hX 2 dX6_meter_38 rfl rfl ?_
        refine zt_iconst hX dX6_meter_39 (v := (5 : Int32)) (by decide) ?_
        refine zt_icmp_ne hX dX6_meter_40 (tgt := 51) (by decide) (fun c8 => ?_) (fun c8 => ?_)
        · replace hf := z_neg hf c8
          refine zt_aload_n hX 0 dX6_meter_51 rfl rfl ?_
          refine zt_iload_n hX 1 dX6_meter_52 rfl rfl ?_
          refine zt_calliV hX hY (av := [.int a1]) (c_X6_above hf) dX6_meter_53 rfl kw_754 kw_756 kw_27 kw_67 kw_757 ⟨rfl, rfl⟩ hy_X6_above ⟨by decide, by decide⟩ ⟨by decide, by decide⟩ (Nat.le_of_ble_eq_true rfl) (by decide) (zE_73 _ _) rfl rfl (fun r9 σ10 hf => ?_)
          exact zt_iret hX hY dX6_meter_56 hf
        · replace hf := z_pos hf c8
          refine zt_aload_n hX 0 dX6_meter_43 rfl rfl ?_
          refine zt_iload_n hX 1 dX6_meter_44 rfl rfl ?_
          refine zt_calliV hX hY (av := [.int a1]) (c_X6_children hf) dX6_meter_45 rfl kw_750 kw_752 kw_26 kw_67 kw_753 ⟨rfl, rfl⟩ hy_X6_children ⟨by decide, by decide⟩ ⟨by decide, by decide⟩ (Nat.le_of_ble_eq_true rfl) (by decide) (zE_73 _ _) rfl rfl (fun r11 σ12 hf => ?_)
          refine zt_goto hX dX6_meter_48 (tgt := 56) (by decide) ?_
          exact zt_iret hX hY dX6_meter_56 hf
      · replace hf := z_neg hf c7
        refine zt_aload_n hX 0 dX6_meter_29 rfl rfl ?_
        refine zt_iload_n hX 1 dX6_meter_30 rfl rfl ?_
        refine zt_iload_n hX 2 dX6_meter_31 rfl rfl ?_
        refine zt_calliV hX hY (av := [.int a1, .int a2]) (c_X6_of hf) dX6_meter_32 rfl kw_729 kw_731 kw_25 kw_67 kw_732 ⟨rfl, rfl⟩ hy_X6_of ⟨by decide, by decide⟩ ⟨by decide, by decide⟩ (Nat.le_of_ble_eq_true rfl) (by decide) (zE_73 _ _) rfl rfl (fun r13 σ14 hf => ?_)
        refine zt_goto hX dX6_meter_35 (tgt := 56) (by decide) ?_
        exact zt_iret hX hY dX6_meter_56 hf
    · replace hf := z_pos hf c6
      refine zt_ldc hX dX6_meter_21 kw_728 ?_
      exact zt_iret hX hY dX6_meter_23 hf
  · replace hf := z_pos hf c3
    refine zt_ldc hX dX6_meter_8 kw_705 ?_
    exact zt_iret hX hY dX6_meter_10 hf

theorem dX6_childOf_0 : decode cX6_childOf 0 = .ok (.iload_n 2, 1) := by decide +kernel
theorem dX6_childOf_1 : decode cX6_childOf 1 = .ok (.istore_n 3, 1) := by decide +kernel
theorem dX6_childOf_2 : decode cX6_childOf 2 = .ok (.iconst 1, 1) := by decide +kernel
theorem dX6_childOf_3 : decode cX6_childOf 3 = .ok (.istore 4, 2) := by decide +kernel
theorem dX6_childOf_5 : decode cX6_childOf 5 = .ok (.iload 4, 2) := by decide +kernel
theorem dX6_childOf_7 : decode cX6_childOf 7 = .ok (.aload_n 0, 1) := by decide +kernel
theorem dX6_childOf_8 : decode cX6_childOf 8 = .ok (.getfield 7, 3) := by decide +kernel
theorem dX6_childOf_11 : decode cX6_childOf 11 = .ok (.iconst 0, 1) := by decide +kernel
theorem dX6_childOf_12 : decode cX6_childOf 12 = .ok (.iaload, 1) := by decide +kernel
theorem dX6_childOf_13 : decode cX6_childOf 13 = .ok (.if_icmp .ge 30, 3) := by decide +kernel
theorem dX6_childOf_16 : decode cX6_childOf 16 = .ok (.aload_n 0, 1) := by decide +kernel
theorem dX6_childOf_17 : decode cX6_childOf 17 = .ok (.iload 4, 2) := by decide +kernel
theorem dX6_childOf_19 : decode cX6_childOf 19 = .ok (.iconst 0, 1) := by decide +kernel
theorem dX6_childOf_20 : decode cX6_childOf 20 = .ok (.invokevirtual 44, 3) := by decide +kernel
theorem dX6_childOf_23 : decode cX6_childOf 23 = .ok (.iload_n 1, 1) := by decide +kernel
theorem dX6_childOf_24 : decode cX6_childOf 24 = .ok (.if_icmp .ne 13, 3) := by decide +kernel
theorem dX6_childOf_27 : decode cX6_childOf 27 = .ok (.iload_n 3, 1) := by decide +kernel
theorem dX6_childOf_28 : decode cX6_childOf 28 = .ok (.ifCond .ne 6, 3) := by decide +kernel
theorem dX6_childOf_31 : decode cX6_childOf 31 = .ok (.iload 4, 2) := by decide +kernel
theorem dX6_childOf_33 : decode cX6_childOf 33 = .ok (.ireturn, 1) := by decide +kernel
theorem dX6_childOf_34 : decode cX6_childOf 34 = .ok (.iinc 3 (-1), 3) := by decide +kernel
theorem dX6_childOf_37 : decode cX6_childOf 37 = .ok (.iinc 4 1, 3) := by decide +kernel
theorem dX6_childOf_40 : decode cX6_childOf 40 = .ok (.goto (-35), 3) := by decide +kernel
theorem dX6_childOf_43 : decode cX6_childOf 43 = .ok (.ldc 57, 2) := by decide +kernel
theorem dX6_childOf_45 : decode cX6_childOf 45 = .ok (.ireturn, 1) := by decide +kernel
abbrev rm_X6_childOf : Room := { frames := 1, cells := 0, slots := 0, locals := 22 }
theorem hy_X6_childOf : yX6_childOf.cls ≠ "java/lang/invoke/MethodHandle" ∧ yX6_childOf.cls ≠ "java/lang/invoke/VarHandle" ∧ (parseMethodDescriptor yX6_childOf.desc).map (fun d => d.parameters.length) = some 2 := by decide +kernel
def w_X6_childOf_37 (k5 : Int32 → Int32 → Int32 → z_S → Prop) (Q : Int32 → z_S → Prop) (x1 : Int32) (x3 : Int32) (x4 : Int32) (σ : z_S) : Prop :=
  ∀ y6 : Int32, y6 = (x4 + (1 : Int32)) → k5 x1 x3 y6 σ
def wb_X6_childOf_5  (Q : Int32 → z_S → Prop) (k5 : Int32 → Int32 → Int32 → z_S → Prop) (x1 : Int32) (x3 : Int32) (x4 : Int32) (σ : z_S) : Prop :=
  vp_in (0 : Int32) 1584 ∧ if (zg_i σ 74 (0 : Int32).toNatClampNeg) ≤ x4 then (Q (-2000000001 : Int32) σ) else (w_X6_of x4 (0 : Int32) σ (fun r3 σ4 => if r3 = x1 then (if x3 = 0 then (Q x4 σ4) else (∀ y8 : Int32, y8 = (x3 + (-1 : Int32)) → w_X6_childOf_37 k5 Q x1 y8 x4 σ4)) else (w_X6_childOf_37 k5 Q x1 x3 x4 σ4)))
def w_X6_childOf_5  (Q : Int32 → z_S → Prop) : Nat → Int32 → Int32 → Int32 → z_S → Prop
  | 0 => fun _ _ _ _ => False
  | n + 1 => wb_X6_childOf_5  Q (w_X6_childOf_5  Q n)
def w_X6_childOf (a1 : Int32) (a2 : Int32) (σ : z_S) (Q : Int32 → z_S → Prop) : Prop :=
  w_X6_childOf_5 Q 400 a1 a2 (1 : Int32) σ
set_option maxHeartbeats 4000000 in
set_option maxRecDepth 100000 in
theorem t_X6_childOf_37 {l : Launch} {D : va_G} {cI cJ cM cS : ClassId} {n0 : Nat} {p : Program} {e : Env} {s : State} {m : MethodId} {args : Array Value} {below : List Frame} {meth : Method} {c : Code} {k5 : Int32 → Int32 → Int32 → z_S → Prop} {Q : Int32 → z_S → Prop} (hX : z_X D cI cJ cM cS p s m args c cX6_childOf 5 yX6_childOf.cls) (hY : z_Y s meth (some .int)) (hk5 : ∀ (x1 : Int32) (x3 : Int32) (x4 : Int32) (σ : z_S), k5 x1 x3 x4 σ → z_t D cI cJ cM cS n0 p l e rm_X6_childOf s m args below meth c 5 (MQ below (va_Qi Q (fun u t => z_Bq D cI cJ cM cS n0 u t) (z_Ab n0)) args s 0 0 (z_Ab n0)) 0 0 5 [(0, .ref (n0 + 73)), (1, .int x1), (3, .int x3), (4, .int x4)] [] σ) (x1 : Int32) (x3 : Int32) (x4 : Int32) (σ : z_S) (hf : w_X6_childOf_37 k5 Q x1 x3 x4 σ) : z_t D cI cJ cM cS n0 p l e rm_X6_childOf s m args below meth c 5 (MQ below (va_Qi Q (fun u t => z_Bq D cI cJ cM cS n0 u t) (z_Ab n0)) args s 0 0 (z_Ab n0)) 0 0 37 [(0, .ref (n0 + 73)), (1, .int x1), (3, .int x3), (4, .int x4)] [] σ := by
  unfold w_X6_childOf_37 at hf
  obtain ⟨y6, e6⟩ : ∃ y : Int32, y = (x4 + (1 : Int32)) := ⟨_, rfl⟩
  replace hf := hf y6 e6
  refine zt_iinc (L' := [(4, .int y6), (0, .ref (n0 + 73)), (1, .int x1), (3, .int x3)]) hX 3 dX6_childOf_37 rfl (v := y6) (by rw [e6]; rfl) (by decide) rfl ?_
  refine zt_goto hX dX6_childOf_40 (tgt := 5) (by decide) ?_
  exact zt_sub [1, 2, 3, 0] rfl (hk5 _ _ _ _ hf)
set_option maxHeartbeats 4000000 in
set_option maxRecDepth 100000 in
theorem t_X6_childOf_5 {l : Launch} {D : va_G} {cI cJ cM cS : ClassId} {n0 : Nat} {p : Program} {e : Env} {s : State} {m : MethodId} {args : Array Value} {below : List Frame} {meth : Method} {c : Code}  {Q : Int32 → z_S → Prop} (hX : z_X D cI cJ cM cS p s m args c cX6_childOf 5 yX6_childOf.cls) (hY : z_Y s meth (some .int))  : ∀ (n : Nat) (x1 : Int32) (x3 : Int32) (x4 : Int32) (σ : z_S), w_X6_childOf_5  Q n x1 x3 x4 σ → z_t D cI cJ cM cS n0 p l e rm_X6_childOf s m args below meth c 5 (MQ below (va_Qi Q (fun u t => z_Bq D cI cJ cM cS n0 u t) (z_Ab n0)) args s 0 0 (z_Ab n0)) 0 0 5 [(0, .ref (n0 + 73)), (1, .int x1), (3, .int x3), (4, .int x4)] [] σ := by
  intro n
  induction n with
  | zero => intro _ _ _ _ hf; exact hf.elim
  | succ n ih5 =>
    intro x1 x3 x4 σ hf
    have hf : wb_X6_childOf_5  Q (w_X6_childOf_5  Q n) x1 x3 x4 σ := hf
    unfold wb_X6_childOf_5 at hf
    refine zt_iload hX 3 dX6_childOf_5 rfl ?_
    refine zt_aload_n hX 0 dX6_childOf_7 rfl rfl ?_
    refine zt_get_X6 hX (by decide) (zE_73 _ _) 0 (by decide) kw_654 rfl rfl dX6_childOf_8 ?_
    refine zt_iconst hX dX6_childOf_11 (v := (0 : Int32)) (by decide) ?_
    obtain ⟨h1, hf⟩ := hf
    refine zt_iaload hX dX6_childOf_12 (by decide) rfl h1 ?_
    refine zt_icmp_ge hX dX6_childOf_13 (tgt := 43) (by decide) (fun c2 => ?_) (fun c2 => ?_)
    · replace hf := z_pos hf c2
      refine zt_ldc hX dX6_childOf_43 kw_705 ?_
      exact zt_iret hX hY dX6_childOf_45 hf
    · replace hf := z_neg hf c2
      refine zt_aload_n hX 0 dX6_childOf_16 rfl rfl ?_
      refine zt_iload hX 3 dX6_childOf_17 rfl ?_
      refine zt_iconst hX dX6_childOf_19 (v := (0 : Int32)) (by decide) ?_
      refine zt_calliV hX hY (av := [.int x4, .int (0 : Int32)]) (c_X6_of hf) dX6_childOf_20 rfl kw_729 kw_731 kw_25 kw_67 kw_732 ⟨rfl, rfl⟩ hy_X6_of ⟨by decide, by decide⟩ ⟨by decide, by decide⟩ (Nat.le_of_ble_eq_true rfl) (by decide) (zE_73 _ _) rfl rfl (fun r3 σ4 hf => ?_)
      refine zt_iload_n hX 1 dX6_childOf_23 rfl rfl ?_
      refine zt_icmp_ne hX dX6_childOf_24 (tgt := 37) (by decide) (fun c5 => ?_) (fun c5 => ?_)
      · replace hf := z_neg hf c5
        exact zt_sub [0, 1, 2, 3] rfl (t_X6_childOf_37 hX hY ih5 _ _ _ _ hf)
      · replace hf := z_pos hf c5
        refine zt_iload_n hX 2 dX6_childOf_27 rfl rfl ?_
        refine zt_if_ne hX dX6_childOf_28 (tgt := 34) (by decide) (fun c7 => ?_) (fun c7 => ?_)
        · replace hf := z_neg hf c7
          obtain ⟨y8, e8⟩ : ∃ y : Int32, y = (x3 + (-1 : Int32)) := ⟨_, rfl⟩
          replace hf := hf y8 e8
          refine zt_iinc (L' := [(3, .int y8), (0, .ref (n0 + 73)), (1, .int x1), (4, .int x4)]) hX 2 dX6_childOf_34 rfl (v := y8) (by rw [e8]; rfl) (by decide) rfl ?_
          exact zt_sub [1, 2, 0, 3] rfl (t_X6_childOf_37 hX hY ih5 _ _ _ _ hf)
        · replace hf := z_pos hf c7
          refine zt_iload hX 3 dX6_childOf_31 rfl ?_
          exact zt_iret hX hY dX6_childOf_33 hf
set_option maxHeartbeats 4000000 in
set_option maxRecDepth 100000 in
theorem c_X6_childOf {l : Launch} {D : va_G} {cI cJ cM cS : ClassId} {n0 : Nat} {a1 : Int32} {a2 : Int32} {σ : z_S} {Q : Int32 → z_S → Prop} (hf : w_X6_childOf a1 a2 σ Q) : z_ci l D cI cJ cM cS n0 yX6_childOf cX6_childOf 5 .int rm_X6_childOf 0 0 [.ref (n0 + 73), .int a1, .int a2] σ Q := by
  refine z_ofi (by decide +kernel) (Nat.le_of_ble_eq_true rfl) (fun p e s m args below meth c hX hY => ?_)
  unfold w_X6_childOf at hf
  refine zt_L (L' := [(0, .ref (n0 + 73)), (1, .int a1), (2, .int a2)]) rfl ?_
  refine zt_iload_n hX 2 dX6_childOf_0 rfl rfl ?_
  refine zt_istore_n (L' := [(3, .int a2), (0, .ref (n0 + 73)), (1, .int a1), (2, .int a2)]) hX dX6_childOf_1 rfl (by decide) rfl ?_
  refine zt_iconst hX dX6_childOf_2 (v := (1 : Int32)) (by decide) ?_
  refine zt_istore (L' := [(4, .int (1 : Int32)), (3, .int a2), (0, .ref (n0 + 73)), (1, .int a1), (2, .int a2)]) hX dX6_childOf_3 (by decide) rfl ?_
  exact zt_sub [2, 3, 1, 0] rfl (t_X6_childOf_5 hX hY 400 _ _ _ _ hf)

theorem dX6_child_0 : decode cX6_child 0 = .ok (.aload_n 0, 1) := by decide +kernel
theorem dX6_child_1 : decode cX6_child 1 = .ok (.iload_n 1, 1) := by decide +kernel
theorem dX6_child_2 : decode cX6_child 2 = .ok (.invokevirtual 53, 3) := by decide +kernel
theorem dX6_child_5 : decode cX6_child 5 = .ok (.ifCond .eq 12, 3) := by decide +kernel
theorem dX6_child_8 : decode cX6_child 8 = .ok (.aload_n 0, 1) := by decide +kernel
theorem dX6_child_9 : decode cX6_child 9 = .ok (.iload_n 1, 1) := by decide +kernel
theorem dX6_child_10 : decode cX6_child 10 = .ok (.iload_n 2, 1) := by decide +kernel
theorem dX6_child_11 : decode cX6_child 11 = .ok (.invokevirtual 75, 3) := by decide +kernel
theorem dX6_child_14 : decode cX6_child 14 = .ok (.goto 5, 3) := by decide +kernel
theorem dX6_child_17 : decode cX6_child 17 = .ok (.ldc 57, 2) := by decide +kernel
theorem dX6_child_19 : decode cX6_child 19 = .ok (.ireturn, 1) := by decide +kernel
abbrev rm_X6_child : Room := { frames := 2, cells := 0, slots := 0, locals := 46 }
theorem hy_X6_child : yX6_child.cls ≠ "java/lang/invoke/MethodHandle" ∧ yX6_child.cls ≠ "java/lang/invoke/VarHandle" ∧ (parseMethodDescriptor yX6_child.desc).map (fun d => d.parameters.length) = some 2 := by decide +kernel
def w_X6_child (a1 : Int32) (a2 : Int32) (σ : z_S) (Q : Int32 → z_S → Prop) : Prop :=
  w_X6_isMeter a1 σ (fun r1 σ2 => if r1 = 0 then (Q (-2000000001 : Int32) σ2) else (w_X6_childOf a1 a2 σ2 (fun r4 σ5 => Q r4 σ5)))
set_option maxHeartbeats 4000000 in
set_option maxRecDepth 100000 in
theorem c_X6_child {l : Launch} {D : va_G} {cI cJ cM cS : ClassId} {n0 : Nat} {a1 : Int32} {a2 : Int32} {σ : z_S} {Q : Int32 → z_S → Prop} (hf : w_X6_child a1 a2 σ Q) : z_ci l D cI cJ cM cS n0 yX6_child cX6_child 3 .int rm_X6_child 0 0 [.ref (n0 + 73), .int a1, .int a2] σ Q := by
  refine z_ofi (by decide +kernel) (Nat.le_of_ble_eq_true rfl) (fun p e s m args below meth c hX hY => ?_)
  unfold w_X6_child at hf
  refine zt_L (L' := [(0, .ref (n0 + 73)), (1, .int a1), (2, .int a2)]) rfl ?_
  refine zt_aload_n hX 0 dX6_child_0 rfl rfl ?_
  refine zt_iload_n hX 1 dX6_child_1 rfl rfl ?_
  refine zt_calliV hX hY (av := [.int a1]) (c_X6_isMeter hf) dX6_child_2 rfl kw_698 kw_700 kw_20 kw_67 kw_701 ⟨rfl, rfl⟩ hy_X6_isMeter ⟨by decide, by decide⟩ ⟨by decide, by decide⟩ (Nat.le_of_ble_eq_true rfl) (by decide) (zE_73 _ _) rfl rfl (fun r1 σ2 hf => ?_)
  refine zt_if_eq hX dX6_child_5 (tgt := 17) (by decide) (fun c3 => ?_) (fun c3 => ?_)
  · replace hf := z_pos hf c3
    refine zt_ldc hX dX6_child_17 kw_705 ?_
    exact zt_iret hX hY dX6_child_19 hf
  · replace hf := z_neg hf c3
    refine zt_aload_n hX 0 dX6_child_8 rfl rfl ?_
    refine zt_iload_n hX 1 dX6_child_9 rfl rfl ?_
    refine zt_iload_n hX 2 dX6_child_10 rfl rfl ?_
    refine zt_calliV hX hY (av := [.int a1, .int a2]) (c_X6_childOf hf) dX6_child_11 rfl kw_762 kw_764 kw_28 kw_67 kw_765 ⟨rfl, rfl⟩ hy_X6_childOf ⟨by decide, by decide⟩ ⟨by decide, by decide⟩ (Nat.le_of_ble_eq_true rfl) (by decide) (zE_73 _ _) rfl rfl (fun r4 σ5 hf => ?_)
    refine zt_goto hX dX6_child_14 (tgt := 19) (by decide) ?_
    exact zt_iret hX hY dX6_child_19 hf

theorem dX6_isBoundary_0 : decode cX6_isBoundary 0 = .ok (.aload_n 0, 1) := by decide +kernel
theorem dX6_isBoundary_1 : decode cX6_isBoundary 1 = .ok (.iload_n 1, 1) := by decide +kernel
theorem dX6_isBoundary_2 : decode cX6_isBoundary 2 = .ok (.invokevirtual 53, 3) := by decide +kernel
theorem dX6_isBoundary_5 : decode cX6_isBoundary 5 = .ok (.ifCond .eq 17, 3) := by decide +kernel
theorem dX6_isBoundary_8 : decode cX6_isBoundary 8 = .ok (.iload_n 2, 1) := by decide +kernel
theorem dX6_isBoundary_9 : decode cX6_isBoundary 9 = .ok (.iconst 0, 1) := by decide +kernel
theorem dX6_isBoundary_10 : decode cX6_isBoundary 10 = .ok (.bipush 12, 2) := by decide +kernel
theorem dX6_isBoundary_12 : decode cX6_isBoundary 12 = .ok (.invokestatic 40, 3) := by decide +kernel
theorem dX6_isBoundary_15 : decode cX6_isBoundary 15 = .ok (.ifCond .eq 7, 3) := by decide +kernel
theorem dX6_isBoundary_18 : decode cX6_isBoundary 18 = .ok (.iconst 1, 1) := by decide +kernel
theorem dX6_isBoundary_19 : decode cX6_isBoundary 19 = .ok (.goto 4, 3) := by decide +kernel
theorem dX6_isBoundary_22 : decode cX6_isBoundary 22 = .ok (.iconst 0, 1) := by decide +kernel
theorem dX6_isBoundary_23 : decode cX6_isBoundary 23 = .ok (.ireturn, 1) := by decide +kernel
abbrev rm_X6_isBoundary : Room := { frames := 2, cells := 0, slots := 0, locals := 43 }
theorem hy_X6_isBoundary : yX6_isBoundary.cls ≠ "java/lang/invoke/MethodHandle" ∧ yX6_isBoundary.cls ≠ "java/lang/invoke/VarHandle" ∧ (parseMethodDescriptor yX6_isBoundary.desc).map (fun d => d.parameters.length) = some 2 := by decide +kernel
def w_X6_isBoundary (a1 : Int32) (a2 : Int32) (σ : z_S) (Q : Int32 → z_S → Prop) : Prop :=
  w_X6_isMeter a1 σ (fun r1 σ2 => if r1 = 0 then (((0 : Int32) = 0 ∨ (0 : Int32) = 1) ∧ Q (0 : Int32) σ2) else (w_X6_in a2 (0 : Int32) (12 : Int32) σ2 (fun r4 σ5 => if r4 = 0 then (((0 : Int32) = 0 ∨ (0 : Int32) = 1) ∧ Q (0 : Int32) σ5) else (((1 : Int32) = 0 ∨ (1 : Int32) = 1) ∧ Q (1 : Int32) σ5))))
set_option maxHeartbeats 4000000 in
set_option maxRecDepth 100000 in
theorem c_X6_isBoundary {l : Launch} {D : va_G} {cI cJ cM cS : ClassId} {n0 : Nat} {a1 : Int32} {a2 : Int32} {σ : z_S} {Q : Int32 → z_S → Prop} (hf : w_X6_isBoundary a1 a2 σ Q) : z_ci l D cI cJ cM cS n0 yX6_isBoundary cX6_isBoundary 3 .boolean rm_X6_isBoundary 0 0 [.ref (n0 + 73), .int a1, .int a2] σ Q := by
  refine z_ofi (by decide +kernel) (Nat.le_of_ble_eq_true rfl) (fun p e s m args below meth c hX hY => ?_)
  unfold w_X6_isBoundary at hf
  refine zt_L (L' := [(0, .ref (n0 + 73)), (1, .int a1), (2, .int a2)]) rfl ?_
  refine zt_aload_n hX 0 dX6_isBoundary_0 rfl rfl ?_
  refine zt_iload_n hX 1 dX6_isBoundary_1 rfl rfl ?_
  refine zt_calliV hX hY (av := [.int a1]) (c_X6_isMeter hf) dX6_isBoundary_2 rfl kw_698 kw_700 kw_20 kw_67 kw_701 ⟨rfl, rfl⟩ hy_X6_isMeter ⟨by decide, by decide⟩ ⟨by decide, by decide⟩ (Nat.le_of_ble_eq_true rfl) (by decide) (zE_73 _ _) rfl rfl (fun r1 σ2 hf => ?_)
  refine zt_if_eq hX dX6_isBoundary_5 (tgt := 22) (by decide) (fun c3 => ?_) (fun c3 => ?_)
  · replace hf := z_pos hf c3
    refine zt_iconst hX dX6_isBoundary_22 (v := (0 : Int32)) (by decide) ?_
    exact zt_zret hX hY dX6_isBoundary_23 hf
  · replace hf := z_neg hf c3
    refine zt_iload_n hX 2 dX6_isBoundary_8 rfl rfl ?_
    refine zt_iconst hX dX6_isBoundary_9 (v := (0 : Int32)) (by decide) ?_
    refine zt_bipush hX dX6_isBoundary_10 (v := (12 : Int32)) (by decide) ?_
    refine zt_calliS hX hY (av := [.int a2, .int (0 : Int32), .int (12 : Int32)]) (c_X6_in hf) dX6_isBoundary_12 rfl kw_702 kw_703 kw_67 kw_704 ⟨rfl, rfl⟩ hy_X6_in ⟨by decide, by decide⟩ ⟨by decide, by decide⟩ (Nat.le_of_ble_eq_true rfl) (fun r4 σ5 hf => ?_)
    refine zt_if_eq hX dX6_isBoundary_15 (tgt := 22) (by decide) (fun c6 => ?_) (fun c6 => ?_)
    · replace hf := z_pos hf c6
      refine zt_iconst hX dX6_isBoundary_22 (v := (0 : Int32)) (by decide) ?_
      exact zt_zret hX hY dX6_isBoundary_23 hf
    · replace hf := z_neg hf c6
      refine zt_iconst hX dX6_isBoundary_18 (v := (1 : Int32)) (by decide) ?_
      refine zt_goto hX dX6_isBoundary_19 (tgt := 23) (by decide) ?_
      exact zt_zret hX hY dX6_isBoundary_23 hf

theorem dX6_isReading_0 : decode cX6_isReading 0 = .ok (.iload_n 2, 1) := by decide +kernel
theorem dX6_isReading_1 : decode cX6_isReading 1 = .ok (.iconst 0, 1) := by decide +kernel
theorem dX6_isReading_2 : decode cX6_isReading 2 = .ok (.aload_n 0, 1) := by decide +kernel
theorem dX6_isReading_3 : decode cX6_isReading 3 = .ok (.iload_n 1, 1) := by decide +kernel
theorem dX6_isReading_4 : decode cX6_isReading 4 = .ok (.invokevirtual 78, 3) := by decide +kernel
theorem dX6_isReading_7 : decode cX6_isReading 7 = .ok (.iconst 1, 1) := by decide +kernel
theorem dX6_isReading_8 : decode cX6_isReading 8 = .ok (.isub, 1) := by decide +kernel
theorem dX6_isReading_9 : decode cX6_isReading 9 = .ok (.invokestatic 40, 3) := by decide +kernel
theorem dX6_isReading_12 : decode cX6_isReading 12 = .ok (.ireturn, 1) := by decide +kernel
abbrev rm_X6_isReading : Room := { frames := 2, cells := 0, slots := 0, locals := 45 }
theorem hy_X6_isReading : yX6_isReading.cls ≠ "java/lang/invoke/MethodHandle" ∧ yX6_isReading.cls ≠ "java/lang/invoke/VarHandle" ∧ (parseMethodDescriptor yX6_isReading.desc).map (fun d => d.parameters.length) = some 2 := by decide +kernel
def w_X6_isReading (a1 : Int32) (a2 : Int32) (σ : z_S) (Q : Int32 → z_S → Prop) : Prop :=
  w_X6_whole a1 σ (fun r1 σ2 => w_X6_in a2 (0 : Int32) (r1 - (1 : Int32)) σ2 (fun r3 σ4 => (r3 = 0 ∨ r3 = 1) ∧ Q r3 σ4))
set_option maxHeartbeats 4000000 in
set_option maxRecDepth 100000 in
theorem c_X6_isReading {l : Launch} {D : va_G} {cI cJ cM cS : ClassId} {n0 : Nat} {a1 : Int32} {a2 : Int32} {σ : z_S} {Q : Int32 → z_S → Prop} (hf : w_X6_isReading a1 a2 σ Q) : z_ci l D cI cJ cM cS n0 yX6_isReading cX6_isReading 3 .boolean rm_X6_isReading 0 0 [.ref (n0 + 73), .int a1, .int a2] σ Q := by
  refine z_ofi (by decide +kernel) (Nat.le_of_ble_eq_true rfl) (fun p e s m args below meth c hX hY => ?_)
  unfold w_X6_isReading at hf
  refine zt_L (L' := [(0, .ref (n0 + 73)), (1, .int a1), (2, .int a2)]) rfl ?_
  refine zt_iload_n hX 2 dX6_isReading_0 rfl rfl ?_
  refine zt_iconst hX dX6_isReading_1 (v := (0 : Int32)) (by decide) ?_
  refine zt_aload_n hX 0 dX6_isReading_2 rfl rfl ?_
  refine zt_iload_n hX 1 dX6_isReading_3 rfl rfl ?_
  refine zt_calliV hX hY (av := [.int a1]) (c_X6_whole hf) dX6_isReading_4 rfl kw_778 kw_780 kw_31 kw_67 kw_781 ⟨rfl, rfl⟩ hy_X6_whole ⟨by decide, by decide⟩ ⟨by decide, by decide⟩ (Nat.le_of_ble_eq_true rfl) (by decide) (zE_73 _ _) rfl rfl (fun r1 σ2 hf => ?_)
  refine zt_iconst hX dX6_isReading_7 (v := (1 : Int32)) (by decide) ?_
  refine zt_isub hX dX6_isReading_8 ?_
  refine zt_calliS hX hY (av := [.int a2, .int (0 : Int32), .int (r1 - (1 : Int32))]) (c_X6_in hf) dX6_isReading_9 rfl kw_702 kw_703 kw_67 kw_704 ⟨rfl, rfl⟩ hy_X6_in ⟨by decide, by decide⟩ ⟨by decide, by decide⟩ (Nat.le_of_ble_eq_true rfl) (fun r3 σ4 hf => ?_)
  exact zt_zret hX hY dX6_isReading_12 hf

theorem dX6_becomes_0 : decode cX6_becomes 0 = .ok (.aload_n 0, 1) := by decide +kernel
theorem dX6_becomes_1 : decode cX6_becomes 1 = .ok (.iload_n 1, 1) := by decide +kernel
theorem dX6_becomes_2 : decode cX6_becomes 2 = .ok (.iconst 5, 1) := by decide +kernel
theorem dX6_becomes_3 : decode cX6_becomes 3 = .ok (.iload_n 2, 1) := by decide +kernel
theorem dX6_becomes_4 : decode cX6_becomes 4 = .ok (.iadd, 1) := by decide +kernel
theorem dX6_becomes_5 : decode cX6_becomes 5 = .ok (.invokevirtual 44, 3) := by decide +kernel
theorem dX6_becomes_8 : decode cX6_becomes 8 = .ok (.istore 4, 2) := by decide +kernel
theorem dX6_becomes_10 : decode cX6_becomes 10 = .ok (.aload_n 0, 1) := by decide +kernel
theorem dX6_becomes_11 : decode cX6_becomes 11 = .ok (.iload_n 1, 1) := by decide +kernel
theorem dX6_becomes_12 : decode cX6_becomes 12 = .ok (.iconst 5, 1) := by decide +kernel
theorem dX6_becomes_13 : decode cX6_becomes 13 = .ok (.iload_n 2, 1) := by decide +kernel
theorem dX6_becomes_14 : decode cX6_becomes 14 = .ok (.iadd, 1) := by decide +kernel
theorem dX6_becomes_15 : decode cX6_becomes 15 = .ok (.iload_n 3, 1) := by decide +kernel
theorem dX6_becomes_16 : decode cX6_becomes 16 = .ok (.invokevirtual 49, 3) := by decide +kernel
theorem dX6_becomes_19 : decode cX6_becomes 19 = .ok (.iload 4, 2) := by decide +kernel
theorem dX6_becomes_21 : decode cX6_becomes 21 = .ok (.ireturn, 1) := by decide +kernel
abbrev rm_X6_becomes : Room := { frames := 1, cells := 0, slots := 0, locals := 23 }
theorem hy_X6_becomes : yX6_becomes.cls ≠ "java/lang/invoke/MethodHandle" ∧ yX6_becomes.cls ≠ "java/lang/invoke/VarHandle" ∧ (parseMethodDescriptor yX6_becomes.desc).map (fun d => d.parameters.length) = some 3 := by decide +kernel
def w_X6_becomes (a1 : Int32) (a2 : Int32) (a3 : Int32) (σ : z_S) (Q : Int32 → z_S → Prop) : Prop :=
  w_X6_of a1 ((5 : Int32) + a2) σ (fun r1 σ2 => w_X6_sets a1 ((5 : Int32) + a2) a3 σ2 (fun σ4 => Q r1 σ4))
set_option maxHeartbeats 4000000 in
set_option maxRecDepth 100000 in
theorem c_X6_becomes {l : Launch} {D : va_G} {cI cJ cM cS : ClassId} {n0 : Nat} {a1 : Int32} {a2 : Int32} {a3 : Int32} {σ : z_S} {Q : Int32 → z_S → Prop} (hf : w_X6_becomes a1 a2 a3 σ Q) : z_ci l D cI cJ cM cS n0 yX6_becomes cX6_becomes 5 .int rm_X6_becomes 0 0 [.ref (n0 + 73), .int a1, .int a2, .int a3] σ Q := by
  refine z_ofi (by decide +kernel) (Nat.le_of_ble_eq_true rfl) (fun p e s m args below meth c hX hY => ?_)
  unfold w_X6_becomes at hf
  refine zt_L (L' := [(0, .ref (n0 + 73)), (1, .int a1), (2, .int a2), (3, .int a3)]) rfl ?_
  refine zt_aload_n hX 0 dX6_becomes_0 rfl rfl ?_
  refine zt_iload_n hX 1 dX6_becomes_1 rfl rfl ?_
  refine zt_iconst hX dX6_becomes_2 (v := (5 : Int32)) (by decide) ?_
  refine zt_iload_n hX 2 dX6_becomes_3 rfl rfl ?_
  refine zt_iadd hX dX6_becomes_4 ?_
  refine zt_calliV hX hY (av := [.int a1, .int ((5 : Int32) + a2)]) (c_X6_of hf) dX6_becomes_5 rfl kw_729 kw_731 kw_25 kw_67 kw_732 ⟨rfl, rfl⟩ hy_X6_of ⟨by decide, by decide⟩ ⟨by decide, by decide⟩ (Nat.le_of_ble_eq_true rfl) (by decide) (zE_73 _ _) rfl rfl (fun r1 σ2 hf => ?_)
  refine zt_istore (L' := [(4, .int r1), (0, .ref (n0 + 73)), (1, .int a1), (2, .int a2), (3, .int a3)]) hX dX6_becomes_8 (by decide) rfl ?_
  refine zt_aload_n hX 1 dX6_becomes_10 rfl rfl ?_
  refine zt_iload_n hX 2 dX6_becomes_11 rfl rfl ?_
  refine zt_iconst hX dX6_becomes_12 (v := (5 : Int32)) (by decide) ?_
  refine zt_iload_n hX 3 dX6_becomes_13 rfl rfl ?_
  refine zt_iadd hX dX6_becomes_14 ?_
  refine zt_iload_n hX 4 dX6_becomes_15 rfl rfl ?_
  refine zt_callvV hX hY (av := [.int a1, .int ((5 : Int32) + a2), .int a3]) (c_X6_sets hf) dX6_becomes_16 rfl kw_716 kw_718 kw_23 kw_67 kw_719 ⟨rfl, rfl⟩ hy_X6_sets ⟨by decide, by decide⟩ ⟨by decide, by decide⟩ (Nat.le_of_ble_eq_true rfl) (by decide) (zE_73 _ _) rfl rfl (fun σ4 hf => ?_)
  refine zt_iload hX 0 dX6_becomes_19 rfl ?_
  exact zt_iret hX hY dX6_becomes_21 hf

theorem dX6_setReading_0 : decode cX6_setReading 0 = .ok (.aload_n 0, 1) := by decide +kernel
theorem dX6_setReading_1 : decode cX6_setReading 1 = .ok (.iload_n 1, 1) := by decide +kernel
theorem dX6_setReading_2 : decode cX6_setReading 2 = .ok (.iload_n 2, 1) := by decide +kernel
theorem dX6_setReading_3 : decode cX6_setReading 3 = .ok (.invokevirtual 81, 3) := by decide +kernel
theorem dX6_setReading_6 : decode cX6_setReading 6 = .ok (.ifCond .ne 6, 3) := by decide +kernel
theorem dX6_setReading_9 : decode cX6_setReading 9 = .ok (.ldc 57, 2) := by decide +kernel
theorem dX6_setReading_11 : decode cX6_setReading 11 = .ok (.ireturn, 1) := by decide +kernel
theorem dX6_setReading_12 : decode cX6_setReading 12 = .ok (.aload_n 0, 1) := by decide +kernel
theorem dX6_setReading_13 : decode cX6_setReading 13 = .ok (.iload_n 1, 1) := by decide +kernel
theorem dX6_setReading_14 : decode cX6_setReading 14 = .ok (.iload_n 3, 1) := by decide +kernel
theorem dX6_setReading_15 : decode cX6_setReading 15 = .ok (.invokevirtual 85, 3) := by decide +kernel
theorem dX6_setReading_18 : decode cX6_setReading 18 = .ok (.ifCond .ne 6, 3) := by decide +kernel
theorem dX6_setReading_21 : decode cX6_setReading 21 = .ok (.ldc 66, 2) := by decide +kernel
theorem dX6_setReading_23 : decode cX6_setReading 23 = .ok (.ireturn, 1) := by decide +kernel
theorem dX6_setReading_24 : decode cX6_setReading 24 = .ok (.aload_n 0, 1) := by decide +kernel
theorem dX6_setReading_25 : decode cX6_setReading 25 = .ok (.invokevirtual 59, 3) := by decide +kernel
theorem dX6_setReading_28 : decode cX6_setReading 28 = .ok (.aload_n 0, 1) := by decide +kernel
theorem dX6_setReading_29 : decode cX6_setReading 29 = .ok (.iload_n 1, 1) := by decide +kernel
theorem dX6_setReading_30 : decode cX6_setReading 30 = .ok (.iload_n 2, 1) := by decide +kernel
theorem dX6_setReading_31 : decode cX6_setReading 31 = .ok (.iload_n 3, 1) := by decide +kernel
theorem dX6_setReading_32 : decode cX6_setReading 32 = .ok (.invokevirtual 88, 3) := by decide +kernel
theorem dX6_setReading_35 : decode cX6_setReading 35 = .ok (.ireturn, 1) := by decide +kernel
abbrev rm_X6_setReading : Room := { frames := 3, cells := 0, slots := 0, locals := 67 }
theorem hy_X6_setReading : yX6_setReading.cls ≠ "java/lang/invoke/MethodHandle" ∧ yX6_setReading.cls ≠ "java/lang/invoke/VarHandle" ∧ (parseMethodDescriptor yX6_setReading.desc).map (fun d => d.parameters.length) = some 3 := by decide +kernel
def w_X6_setReading (a1 : Int32) (a2 : Int32) (a3 : Int32) (σ : z_S) (Q : Int32 → z_S → Prop) : Prop :=
  w_X6_isBoundary a1 a2 σ (fun r1 σ2 => if r1 = 0 then (Q (-2000000001 : Int32) σ2) else (w_X6_isReading a1 a3 σ2 (fun r4 σ5 => if r4 = 0 then (Q (-2000000002 : Int32) σ5) else (w_X6_saves σ5 (fun σ8 => w_X6_becomes a1 a2 a3 σ8 (fun r9 σ10 => Q r9 σ10))))))
set_option maxHeartbeats 4000000 in
set_option maxRecDepth 100000 in
theorem c_X6_setReading {l : Launch} {D : va_G} {cI cJ cM cS : ClassId} {n0 : Nat} {a1 : Int32} {a2 : Int32} {a3 : Int32} {σ : z_S} {Q : Int32 → z_S → Prop} (hf : w_X6_setReading a1 a2 a3 σ Q) : z_ci l D cI cJ cM cS n0 yX6_setReading cX6_setReading 4 .int rm_X6_setReading 0 0 [.ref (n0 + 73), .int a1, .int a2, .int a3] σ Q := by
  refine z_ofi (by decide +kernel) (Nat.le_of_ble_eq_true rfl) (fun p e s m args below meth c hX hY => ?_)
  unfold w_X6_setReading at hf
  refine zt_L (L' := [(0, .ref (n0 + 73)), (1, .int a1), (2, .int a2), (3, .int a3)]) rfl ?_
  refine zt_aload_n hX 0 dX6_setReading_0 rfl rfl ?_
  refine zt_iload_n hX 1 dX6_setReading_1 rfl rfl ?_
  refine zt_iload_n hX 2 dX6_setReading_2 rfl rfl ?_
  refine zt_calliV hX hY (av := [.int a1, .int a2]) (c_X6_isBoundary hf) dX6_setReading_3 rfl kw_770 kw_772 kw_29 kw_67 kw_773 ⟨rfl, rfl⟩ hy_X6_isBoundary ⟨by decide, by decide⟩ ⟨by decide, by decide⟩ (Nat.le_of_ble_eq_true rfl) (by decide) (zE_73 _ _) rfl rfl (fun r1 σ2 hf => ?_)
  refine zt_if_ne hX dX6_setReading_6 (tgt := 12) (by decide) (fun c3 => ?_) (fun c3 => ?_)
  · replace hf := z_neg hf c3
    refine zt_aload_n hX 0 dX6_setReading_12 rfl rfl ?_
    refine zt_iload_n hX 1 dX6_setReading_13 rfl rfl ?_
    refine zt_iload_n hX 3 dX6_setReading_14 rfl rfl ?_
    refine zt_calliV hX hY (av := [.int a1, .int a3]) (c_X6_isReading hf) dX6_setReading_15 rfl kw_774 kw_776 kw_30 kw_67 kw_777 ⟨rfl, rfl⟩ hy_X6_isReading ⟨by decide, by decide⟩ ⟨by decide, by decide⟩ (Nat.le_of_ble_eq_true rfl) (by decide) (zE_73 _ _) rfl rfl (fun r4 σ5 hf => ?_)
    refine zt_if_ne hX dX6_setReading_18 (tgt := 24) (by decide) (fun c6 => ?_) (fun c6 => ?_)
    · replace hf := z_neg hf c6
      refine zt_aload_n hX 0 dX6_setReading_24 rfl rfl ?_
      refine zt_callvV hX hY (av := []) (c_X6_saves hf) dX6_setReading_25 rfl kw_707 kw_709 kw_21 kw_67 kw_710 ⟨rfl, rfl⟩ hy_X6_saves ⟨by decide, by decide⟩ ⟨by decide, by decide⟩ (Nat.le_of_ble_eq_true rfl) (by decide) (zE_73 _ _) rfl rfl (fun σ8 hf => ?_)
      refine zt_aload_n hX 0 dX6_setReading_28 rfl rfl ?_
      refine zt_iload_n hX 1 dX6_setReading_29 rfl rfl ?_
      refine zt_iload_n hX 2 dX6_setReading_30 rfl rfl ?_
      refine zt_iload_n hX 3 dX6_setReading_31 rfl rfl ?_
      refine zt_calliV hX hY (av := [.int a1, .int a2, .int a3]) (c_X6_becomes hf) dX6_setReading_32 rfl kw_782 kw_784 kw_32 kw_67 kw_785 ⟨rfl, rfl⟩ hy_X6_becomes ⟨by decide, by decide⟩ ⟨by decide, by decide⟩ (Nat.le_of_ble_eq_true rfl) (by decide) (zE_73 _ _) rfl rfl (fun r9 σ10 hf => ?_)
      exact zt_iret hX hY dX6_setReading_35 hf
    · replace hf := z_pos hf c6
      refine zt_ldc hX dX6_setReading_21 kw_728 ?_
      exact zt_iret hX hY dX6_setReading_23 hf
  · replace hf := z_pos hf c3
    refine zt_ldc hX dX6_setReading_9 kw_705 ?_
    exact zt_iret hX hY dX6_setReading_11 hf

theorem dX6_setAll_0 : decode cX6_setAll 0 = .ok (.aload_n 0, 1) := by decide +kernel
theorem dX6_setAll_1 : decode cX6_setAll 1 = .ok (.iload_n 1, 1) := by decide +kernel
theorem dX6_setAll_2 : decode cX6_setAll 2 = .ok (.invokevirtual 53, 3) := by decide +kernel
theorem dX6_setAll_5 : decode cX6_setAll 5 = .ok (.ifCond .ne 6, 3) := by decide +kernel
theorem dX6_setAll_8 : decode cX6_setAll 8 = .ok (.ldc 57, 2) := by decide +kernel
theorem dX6_setAll_10 : decode cX6_setAll 10 = .ok (.ireturn, 1) := by decide +kernel
theorem dX6_setAll_11 : decode cX6_setAll 11 = .ok (.aload_n 0, 1) := by decide +kernel
theorem dX6_setAll_12 : decode cX6_setAll 12 = .ok (.iload_n 1, 1) := by decide +kernel
theorem dX6_setAll_13 : decode cX6_setAll 13 = .ok (.iload_n 2, 1) := by decide +kernel
theorem dX6_setAll_14 : decode cX6_setAll 14 = .ok (.invokevirtual 85, 3) := by decide +kernel
theorem dX6_setAll_17 : decode cX6_setAll 17 = .ok (.ifCond .eq 12, 3) := by decide +kernel
theorem dX6_setAll_20 : decode cX6_setAll 20 = .ok (.aload_n 0, 1) := by decide +kernel
theorem dX6_setAll_21 : decode cX6_setAll 21 = .ok (.iload_n 1, 1) := by decide +kernel
theorem dX6_setAll_22 : decode cX6_setAll 22 = .ok (.iload_n 3, 1) := by decide +kernel
theorem dX6_setAll_23 : decode cX6_setAll 23 = .ok (.invokevirtual 85, 3) := by decide +kernel
theorem dX6_setAll_26 : decode cX6_setAll 26 = .ok (.ifCond .ne 6, 3) := by decide +kernel
theorem dX6_setAll_29 : decode cX6_setAll 29 = .ok (.ldc 66, 2) := by decide +kernel
theorem dX6_setAll_31 : decode cX6_setAll 31 = .ok (.ireturn, 1) := by decide +kernel
theorem dX6_setAll_32 : decode cX6_setAll 32 = .ok (.aload_n 0, 1) := by decide +kernel
theorem dX6_setAll_33 : decode cX6_setAll 33 = .ok (.invokevirtual 59, 3) := by decide +kernel
theorem dX6_setAll_36 : decode cX6_setAll 36 = .ok (.iload_n 2, 1) := by decide +kernel
theorem dX6_setAll_37 : decode cX6_setAll 37 = .ok (.istore 4, 2) := by decide +kernel
theorem dX6_setAll_39 : decode cX6_setAll 39 = .ok (.iconst 0, 1) := by decide +kernel
theorem dX6_setAll_40 : decode cX6_setAll 40 = .ok (.istore 5, 2) := by decide +kernel
theorem dX6_setAll_42 : decode cX6_setAll 42 = .ok (.iload 5, 2) := by decide +kernel
theorem dX6_setAll_44 : decode cX6_setAll 44 = .ok (.bipush 13, 2) := by decide +kernel
theorem dX6_setAll_46 : decode cX6_setAll 46 = .ok (.if_icmp .ge 32, 3) := by decide +kernel
theorem dX6_setAll_49 : decode cX6_setAll 49 = .ok (.aload_n 0, 1) := by decide +kernel
theorem dX6_setAll_50 : decode cX6_setAll 50 = .ok (.iload_n 1, 1) := by decide +kernel
theorem dX6_setAll_51 : decode cX6_setAll 51 = .ok (.iconst 5, 1) := by decide +kernel
theorem dX6_setAll_52 : decode cX6_setAll 52 = .ok (.iload 5, 2) := by decide +kernel
theorem dX6_setAll_54 : decode cX6_setAll 54 = .ok (.iadd, 1) := by decide +kernel
theorem dX6_setAll_55 : decode cX6_setAll 55 = .ok (.iload 4, 2) := by decide +kernel
theorem dX6_setAll_57 : decode cX6_setAll 57 = .ok (.invokevirtual 49, 3) := by decide +kernel
theorem dX6_setAll_60 : decode cX6_setAll 60 = .ok (.iload 4, 2) := by decide +kernel
theorem dX6_setAll_62 : decode cX6_setAll 62 = .ok (.iload_n 3, 1) := by decide +kernel
theorem dX6_setAll_63 : decode cX6_setAll 63 = .ok (.iadd, 1) := by decide +kernel
theorem dX6_setAll_64 : decode cX6_setAll 64 = .ok (.aload_n 0, 1) := by decide +kernel
theorem dX6_setAll_65 : decode cX6_setAll 65 = .ok (.iload_n 1, 1) := by decide +kernel
theorem dX6_setAll_66 : decode cX6_setAll 66 = .ok (.invokevirtual 78, 3) := by decide +kernel
theorem dX6_setAll_69 : decode cX6_setAll 69 = .ok (.irem, 1) := by decide +kernel
theorem dX6_setAll_70 : decode cX6_setAll 70 = .ok (.istore 4, 2) := by decide +kernel
theorem dX6_setAll_72 : decode cX6_setAll 72 = .ok (.iinc 5 1, 3) := by decide +kernel
theorem dX6_setAll_75 : decode cX6_setAll 75 = .ok (.goto (-33), 3) := by decide +kernel
theorem dX6_setAll_78 : decode cX6_setAll 78 = .ok (.aload_n 0, 1) := by decide +kernel
theorem dX6_setAll_79 : decode cX6_setAll 79 = .ok (.iload_n 1, 1) := by decide +kernel
theorem dX6_setAll_80 : decode cX6_setAll 80 = .ok (.bipush 17, 2) := by decide +kernel
theorem dX6_setAll_82 : decode cX6_setAll 82 = .ok (.invokevirtual 44, 3) := by decide +kernel
theorem dX6_setAll_85 : decode cX6_setAll 85 = .ok (.ireturn, 1) := by decide +kernel
abbrev rm_X6_setAll : Room := { frames := 3, cells := 0, slots := 0, locals := 67 }
theorem hy_X6_setAll : yX6_setAll.cls ≠ "java/lang/invoke/MethodHandle" ∧ yX6_setAll.cls ≠ "java/lang/invoke/VarHandle" ∧ (parseMethodDescriptor yX6_setAll.desc).map (fun d => d.parameters.length) = some 3 := by decide +kernel
def wb_X6_setAll_42  (Q : Int32 → z_S → Prop) (k42 : Int32 → Int32 → Int32 → Int32 → z_S → Prop) (x1 : Int32) (x3 : Int32) (x4 : Int32) (x5 : Int32) (σ : z_S) : Prop :=
  if (13 : Int32) ≤ x5 then (w_X6_of x1 (17 : Int32) σ (fun r13 σ14 => Q r13 σ14)) else (w_X6_sets x1 ((5 : Int32) + x5) x4 σ (fun σ16 => w_X6_whole x1 σ16 (fun r17 σ18 => ¬ r17 = 0 ∧ ∀ y20 : Int32, y20 = ((x4 + x3) - (x4 + x3) / r17 * r17) → ∀ y21 : Int32, y21 = (x5 + (1 : Int32)) → k42 x1 x3 y20 y21 σ18)))
def w_X6_setAll_42  (Q : Int32 → z_S → Prop) : Nat → Int32 → Int32 → Int32 → Int32 → z_S → Prop
  | 0 => fun _ _ _ _ _ => False
  | n + 1 => wb_X6_setAll_42  Q (w_X6_setAll_42  Q n)
def w_X6_setAll (a1 : Int32) (a2 : Int32) (a3 : Int32) (σ : z_S) (Q : Int32 → z_S → Prop) : Prop :=
  w_X6_isMeter a1 σ (fun r1 σ2 => if r1 = 0 then (Q (-2000000001 : Int32) σ2) else (w_X6_isReading a1 a2 σ2 (fun r4 σ5 => if r4 = 0 then (Q (-2000000002 : Int32) σ5) else (w_X6_isReading a1 a3 σ5 (fun r7 σ8 => if r7 = 0 then (Q (-2000000002 : Int32) σ8) else (w_X6_saves σ8 (fun σ11 => w_X6_setAll_42 Q 400 a1 a3 a2 (0 : Int32) σ11)))))))
set_option maxHeartbeats 4000000 in
set_option maxRecDepth 100000 in
theorem t_X6_setAll_42 {l : Launch} {D : va_G} {cI cJ cM cS : ClassId} {n0 : Nat} {p : Program} {e : Env} {s : State} {m : MethodId} {args : Array Value} {below : List Frame} {meth : Method} {c : Code}  {Q : Int32 → z_S → Prop} (hX : z_X D cI cJ cM cS p s m args c cX6_setAll 6 yX6_setAll.cls) (hY : z_Y s meth (some .int))  : ∀ (n : Nat) (x1 : Int32) (x3 : Int32) (x4 : Int32) (x5 : Int32) (σ : z_S), w_X6_setAll_42  Q n x1 x3 x4 x5 σ → z_t D cI cJ cM cS n0 p l e rm_X6_setAll s m args below meth c 6 (MQ below (va_Qi Q (fun u t => z_Bq D cI cJ cM cS n0 u t) (z_Ab n0)) args s 0 0 (z_Ab n0)) 0 0 42 [(0, .ref (n0 + 73)), (1, .int x1), (3, .int x3), (4, .int x4), (5, .int x5)] [] σ := by
  intro n
  induction n with
  | zero => intro _ _ _ _ _ hf; exact hf.elim
  | succ n ih42 =>
    intro x1 x3 x4 x5 σ hf
    have hf : wb_X6_setAll_42  Q (w_X6_setAll_42  Q n) x1 x3 x4 x5 σ := hf
    unfold wb_X6_setAll_42 at hf
    refine zt_iload hX 4 dX6_setAll_42 rfl ?_
    refine zt_bipush hX dX6_setAll_44 (v := (13 : Int32)) (by decide) ?_
    refine zt_icmp_ge hX dX6_setAll_46 (tgt := 78) (by decide) (fun c12 => ?_) (fun c12 => ?_)
    · replace hf := z_pos hf c12
      refine zt_aload_n hX 0 dX6_setAll_78 rfl rfl ?_
      refine zt_iload_n hX 1 dX6_setAll_79 rfl rfl ?_
      refine zt_bipush hX dX6_setAll_80 (v := (17 : Int32)) (by decide) ?_
      refine zt_calliV hX hY (av := [.int x1, .int (17 : Int32)]) (c_X6_of hf) dX6_setAll_82 rfl kw_729 kw_731 kw_25 kw_67 kw_732 ⟨rfl, rfl⟩ hy_X6_of ⟨by decide, by decide⟩ ⟨by decide, by decide⟩ (Nat.le_of_ble_eq_true rfl) (by decide) (zE_73 _ _) rfl rfl (fun r13 σ14 hf => ?_)
      exact zt_iret hX hY dX6_setAll_85 hf
    · replace hf := z_neg hf c12
      refine zt_aload_n hX 0 dX6_setAll_49 rfl rfl ?_
      refine zt_iload_n hX 1 dX6_setAll_50 rfl rfl ?_
      refine zt_iconst hX dX6_setAll_51 (v := (5 : Int32)) (by decide) ?_
      refine zt_iload hX 4 dX6_setAll_52 rfl ?_
      refine zt_iadd hX dX6_setAll_54 ?_
      refine zt_iload hX 3 dX6_setAll_55 rfl ?_
      refine zt_callvV hX hY (av := [.int x1, .int ((5 : Int32) + x5), .int x4]) (c_X6_sets hf) dX6_setAll_57 rfl kw_716 kw_718 kw_23 kw_67 kw_719 ⟨rfl, rfl⟩ hy_X6_sets ⟨by decide, by decide⟩ ⟨by decide, by decide⟩ (Nat.le_of_ble_eq_true rfl) (by decide) (zE_73 _ _) rfl rfl (fun σ16 hf => ?_)
      refine zt_iload hX 3 dX6_setAll_60 rfl ?_
      refine zt_iload_n hX 2 dX6_setAll_62 rfl rfl ?_
      refine zt_iadd hX dX6_setAll_63 ?_
      refine zt_aload_n hX 0 dX6_setAll_64 rfl rfl ?_
      refine zt_iload_n hX 1 dX6_setAll_65 rfl rfl ?_
      refine zt_calliV hX hY (av := [.int x1]) (c_X6_whole hf) dX6_setAll_66 rfl kw_778 kw_780 kw_31 kw_67 kw_781 ⟨rfl, rfl⟩ hy_X6_whole ⟨by decide, by decide⟩ ⟨by decide, by decide⟩ (Nat.le_of_ble_eq_true rfl) (by decide) (zE_73 _ _) rfl rfl (fun r17 σ18 hf => ?_)
      obtain ⟨h19, hf⟩ := hf
      refine zt_irem hX dX6_setAll_69 h19 ?_
      refine zt_nmi (fun y20 e20 => ?_)
      replace hf := hf y20 e20
      refine zt_istore (L' := [(4, .int y20), (0, .ref (n0 + 73)), (1, .int x1), (3, .int x3), (5, .int x5)]) hX dX6_setAll_70 (by decide) rfl ?_
      obtain ⟨y21, e21⟩ : ∃ y : Int32, y = (x5 + (1 : Int32)) := ⟨_, rfl⟩
      replace hf := hf y21 e21
      refine zt_iinc (L' := [(5, .int y21), (4, .int y20), (0, .ref (n0 + 73)), (1, .int x1), (3, .int x3)]) hX 4 dX6_setAll_72 rfl (v := y21) (by rw [e21]; rfl) (by decide) rfl ?_
      refine zt_goto hX dX6_setAll_75 (tgt := 42) (by decide) ?_
      exact zt_sub [2, 3, 4, 1, 0] rfl (ih42 _ _ _ _ _ hf)
set_option maxHeartbeats 4000000 in
set_option maxRecDepth 100000 in
theorem c_X6_setAll {l : Launch} {D : va_G} {cI cJ cM cS : ClassId} {n0 : Nat} {a1 : Int32} {a2 : Int32} {a3 : Int32} {σ : z_S} {Q : Int32 → z_S → Prop} (hf : w_X6_setAll a1 a2 a3 σ Q) : z_ci l D cI cJ cM cS n0 yX6_setAll cX6_setAll 6 .int rm_X6_setAll 0 0 [.ref (n0 + 73), .int a1, .int a2, .int a3] σ Q := by
  refine z_ofi (by decide +kernel) (Nat.le_of_ble_eq_true rfl) (fun p e s m args below meth c hX hY => ?_)
  unfold w_X6_setAll at hf
  refine zt_L (L' := [(0, .ref (n0 + 73)), (1, .int a1), (2, .int a2), (3, .int a3)]) rfl ?_
  refine zt_aload_n hX 0 dX6_setAll_0 rfl rfl ?_
  refine zt_iload_n hX 1 dX6_setAll_1 rfl rfl ?_
  refine zt_calliV hX hY (av := [.int a1]) (c_X6_isMeter hf) dX6_setAll_2 rfl kw_698 kw_700 kw_20 kw_67 kw_701 ⟨rfl, rfl⟩ hy_X6_isMeter ⟨by decide, by decide⟩ ⟨by decide, by decide⟩ (Nat.le_of_ble_eq_true rfl) (by decide) (zE_73 _ _) rfl rfl (fun r1 σ2 hf => ?_)
  refine zt_if_ne hX dX6_setAll_5 (tgt := 11) (by decide) (fun c3 => ?_) (fun c3 => ?_)
  · replace hf := z_neg hf c3
    refine zt_aload_n hX 0 dX6_setAll_11 rfl rfl ?_
    refine zt_iload_n hX 1 dX6_setAll_12 rfl rfl ?_
    refine zt_iload_n hX 2 dX6_setAll_13 rfl rfl ?_
    refine zt_calliV hX hY (av := [.int a1, .int a2]) (c_X6_isReading hf) dX6_setAll_14 rfl kw_774 kw_776 kw_30 kw_67 kw_777 ⟨rfl, rfl⟩ hy_X6_isReading ⟨by decide, by decide⟩ ⟨by decide, by decide⟩ (Nat.le_of_ble_eq_true rfl) (by decide) (zE_73 _ _) rfl rfl (fun r4 σ5 hf => ?_)
    refine zt_if_eq hX dX6_setAll_17 (tgt := 29) (by decide) (fun c6 => ?_) (fun c6 => ?_)
    · replace hf := z_pos hf c6
      refine zt_ldc hX dX6_setAll_29 kw_728 ?_
      exact zt_iret hX hY dX6_setAll_31 hf
    · replace hf := z_neg hf c6
      refine zt_aload_n hX 0 dX6_setAll_20 rfl rfl ?_
      refine zt_iload_n hX 1 dX6_setAll_21 rfl rfl ?_
      refine zt_iload_n hX 3 dX6_setAll_22 rfl rfl ?_
      refine zt_calliV hX hY (av := [.int a1, .int a3]) (c_X6_isReading hf) dX6_setAll_23 rfl kw_774 kw_776 kw_30 kw_67 kw_777 ⟨rfl, rfl⟩ hy_X6_isReading ⟨by decide, by decide⟩ ⟨by decide, by decide⟩ (Nat.le_of_ble_eq_true rfl) (by decide) (zE_73 _ _) rfl rfl (fun r7 σ8 hf => ?_)
      refine zt_if_ne hX dX6_setAll_26 (tgt := 32) (by decide) (fun c9 => ?_) (fun c9 => ?_)
      · replace hf := z_neg hf c9
        refine zt_aload_n hX 0 dX6_setAll_32 rfl rfl ?_
        refine zt_callvV hX hY (av := []) (c_X6_saves hf) dX6_setAll_33 rfl kw_707 kw_709 kw_21 kw_67 kw_710 ⟨rfl, rfl⟩ hy_X6_saves ⟨by decide, by decide⟩ ⟨by decide, by decide⟩ (Nat.le_of_ble_eq_true rfl) (by decide) (zE_73 _ _) rfl rfl (fun σ11 hf => ?_)
        refine zt_iload_n hX 2 dX6_setAll_36 rfl rfl ?_
        refine zt_istore (L' := [(4, .int a2), (0, .ref (n0 + 73)), (1, .int a1), (2, .int a2), (3, .int a3)]) hX dX6_setAll_37 (by decide) rfl ?_
        refine zt_iconst hX dX6_setAll_39 (v := (0 : Int32)) (by decide) ?_
        refine zt_istore (L' := [(5, .int (0 : Int32)), (4, .int a2), (0, .ref (n0 + 73)), (1, .int a1), (2, .int a2), (3, .int a3)]) hX dX6_setAll_40 (by decide) rfl ?_
        exact zt_sub [2, 3, 5, 1, 0] rfl (t_X6_setAll_42 hX hY 400 _ _ _ _ _ hf)
      · replace hf := z_pos hf c9
        refine zt_ldc hX dX6_setAll_29 kw_728 ?_
        exact zt_iret hX hY dX6_setAll_31 hf
  · replace hf := z_pos hf c3
    refine zt_ldc hX dX6_setAll_8 kw_705 ?_
    exact zt_iret hX hY dX6_setAll_10 hf

theorem dX6_removeReading_0 : decode cX6_removeReading 0 = .ok (.aload_n 0, 1) := by decide +kernel
theorem dX6_removeReading_1 : decode cX6_removeReading 1 = .ok (.iload_n 1, 1) := by decide +kernel
theorem dX6_removeReading_2 : decode cX6_removeReading 2 = .ok (.iload_n 2, 1) := by decide +kernel
theorem dX6_removeReading_3 : decode cX6_removeReading 3 = .ok (.invokevirtual 81, 3) := by decide +kernel
theorem dX6_removeReading_6 : decode cX6_removeReading 6 = .ok (.ifCond .ne 6, 3) := by decide +kernel
theorem dX6_removeReading_9 : decode cX6_removeReading 9 = .ok (.ldc 57, 2) := by decide +kernel
theorem dX6_removeReading_11 : decode cX6_removeReading 11 = .ok (.ireturn, 1) := by decide +kernel
theorem dX6_removeReading_12 : decode cX6_removeReading 12 = .ok (.aload_n 0, 1) := by decide +kernel
theorem dX6_removeReading_13 : decode cX6_removeReading 13 = .ok (.invokevirtual 59, 3) := by decide +kernel
theorem dX6_removeReading_16 : decode cX6_removeReading 16 = .ok (.aload_n 0, 1) := by decide +kernel
theorem dX6_removeReading_17 : decode cX6_removeReading 17 = .ok (.iload_n 1, 1) := by decide +kernel
theorem dX6_removeReading_18 : decode cX6_removeReading 18 = .ok (.iload_n 2, 1) := by decide +kernel
theorem dX6_removeReading_19 : decode cX6_removeReading 19 = .ok (.ldc 48, 2) := by decide +kernel
theorem dX6_removeReading_21 : decode cX6_removeReading 21 = .ok (.invokevirtual 88, 3) := by decide +kernel
theorem dX6_removeReading_24 : decode cX6_removeReading 24 = .ok (.ireturn, 1) := by decide +kernel
abbrev rm_X6_removeReading : Room := { frames := 3, cells := 0, slots := 0, locals := 65 }
theorem hy_X6_removeReading : yX6_removeReading.cls ≠ "java/lang/invoke/MethodHandle" ∧ yX6_removeReading.cls ≠ "java/lang/invoke/VarHandle" ∧ (parseMethodDescriptor yX6_removeReading.desc).map (fun d => d.parameters.length) = some 2 := by decide +kernel
def w_X6_removeReading (a1 : Int32) (a2 : Int32) (σ : z_S) (Q : Int32 → z_S → Prop) : Prop :=
  w_X6_isBoundary a1 a2 σ (fun r1 σ2 => if r1 = 0 then (Q (-2000000001 : Int32) σ2) else (w_X6_saves σ2 (fun σ5 => w_X6_becomes a1 a2 (-2000000000 : Int32) σ5 (fun r6 σ7 => Q r6 σ7))))
set_option maxHeartbeats 4000000 in
set_option maxRecDepth 100000 in
theorem c_X6_removeReading {l : Launch} {D : va_G} {cI cJ cM cS : ClassId} {n0 : Nat} {a1 : Int32} {a2 : Int32} {σ : z_S} {Q : Int32 → z_S → Prop} (hf : w_X6_removeReading a1 a2 σ Q) : z_ci l D cI cJ cM cS n0 yX6_removeReading cX6_removeReading 3 .int rm_X6_removeReading 0 0 [.ref (n0 + 73), .int a1, .int a2] σ Q := by
  refine z_ofi (by decide +kernel) (Nat.le_of_ble_eq_true rfl) (fun p e s m args below meth c hX hY => ?_)
  unfold w_X6_removeReading at hf
  refine zt_L (L' := [(0, .ref (n0 + 73)), (1, .int a1), (2, .int a2)]) rfl ?_
  refine zt_aload_n hX 0 dX6_removeReading_0 rfl rfl ?_
  refine zt_iload_n hX 1 dX6_removeReading_1 rfl rfl ?_
  refine zt_iload_n hX 2 dX6_removeReading_2 rfl rfl ?_
  refine zt_calliV hX hY (av := [.int a1, .int a2]) (c_X6_isBoundary hf) dX6_removeReading_3 rfl kw_770 kw_772 kw_29 kw_67 kw_773 ⟨rfl, rfl⟩ hy_X6_isBoundary ⟨by decide, by decide⟩ ⟨by decide, by decide⟩ (Nat.le_of_ble_eq_true rfl) (by decide) (zE_73 _ _) rfl rfl (fun r1 σ2 hf => ?_)
  refine zt_if_ne hX dX6_removeReading_6 (tgt := 12) (by decide) (fun c3 => ?_) (fun c3 => ?_)
  · replace hf := z_neg hf c3
    refine zt_aload_n hX 0 dX6_removeReading_12 rfl rfl ?_
    refine zt_callvV hX hY (av := []) (c_X6_saves hf) dX6_removeReading_13 rfl kw_707 kw_709 kw_21 kw_67 kw_710 ⟨rfl, rfl⟩ hy_X6_saves ⟨by decide, by decide⟩ ⟨by decide, by decide⟩ (Nat.le_of_ble_eq_true rfl) (by decide) (zE_73 _ _) rfl rfl (fun σ5 hf => ?_)
    refine zt_aload_n hX 0 dX6_removeReading_16 rfl rfl ?_
    refine zt_iload_n hX 1 dX6_removeReading_17 rfl rfl ?_
    refine zt_iload_n hX 2 dX6_removeReading_18 rfl rfl ?_
    refine zt_ldc hX dX6_removeReading_19 kw_715 ?_
    refine zt_calliV hX hY (av := [.int a1, .int a2, .int (-2000000000 : Int32)]) (c_X6_becomes hf) dX6_removeReading_21 rfl kw_782 kw_784 kw_32 kw_67 kw_785 ⟨rfl, rfl⟩ hy_X6_becomes ⟨by decide, by decide⟩ ⟨by decide, by decide⟩ (Nat.le_of_ble_eq_true rfl) (by decide) (zE_73 _ _) rfl rfl (fun r6 σ7 hf => ?_)
    exact zt_iret hX hY dX6_removeReading_24 hf
  · replace hf := z_pos hf c3
    refine zt_ldc hX dX6_removeReading_9 kw_705 ?_
    exact zt_iret hX hY dX6_removeReading_11 hf

theorem dX6_reading_0 : decode cX6_reading 0 = .ok (.aload_n 0, 1) := by decide +kernel
theorem dX6_reading_1 : decode cX6_reading 1 = .ok (.iload_n 1, 1) := by decide +kernel
theorem dX6_reading_2 : decode cX6_reading 2 = .ok (.iload_n 2, 1) := by decide +kernel
theorem dX6_reading_3 : decode cX6_reading 3 = .ok (.invokevirtual 81, 3) := by decide +kernel
theorem dX6_reading_6 : decode cX6_reading 6 = .ok (.ifCond .eq 14, 3) := by decide +kernel
theorem dX6_reading_9 : decode cX6_reading 9 = .ok (.aload_n 0, 1) := by decide +kernel
theorem dX6_reading_10 : decode cX6_reading 10 = .ok (.iload_n 1, 1) := by decide +kernel
theorem dX6_reading_11 : decode cX6_reading 11 = .ok (.iconst 5, 1) := by decide +kernel
theorem dX6_reading_12 : decode cX6_reading 12 = .ok (.iload_n 2, 1) := by decide +kernel
theorem dX6_reading_13 : decode cX6_reading 13 = .ok (.iadd, 1) := by decide +kernel
theorem dX6_reading_14 : decode cX6_reading 14 = .ok (.invokevirtual 44, 3) := by decide +kernel
theorem dX6_reading_17 : decode cX6_reading 17 = .ok (.goto 5, 3) := by decide +kernel
theorem dX6_reading_20 : decode cX6_reading 20 = .ok (.ldc 57, 2) := by decide +kernel
theorem dX6_reading_22 : decode cX6_reading 22 = .ok (.ireturn, 1) := by decide +kernel
abbrev rm_X6_reading : Room := { frames := 3, cells := 0, slots := 0, locals := 65 }
theorem hy_X6_reading : yX6_reading.cls ≠ "java/lang/invoke/MethodHandle" ∧ yX6_reading.cls ≠ "java/lang/invoke/VarHandle" ∧ (parseMethodDescriptor yX6_reading.desc).map (fun d => d.parameters.length) = some 2 := by decide +kernel
def w_X6_reading (a1 : Int32) (a2 : Int32) (σ : z_S) (Q : Int32 → z_S → Prop) : Prop :=
  w_X6_isBoundary a1 a2 σ (fun r1 σ2 => if r1 = 0 then (Q (-2000000001 : Int32) σ2) else (w_X6_of a1 ((5 : Int32) + a2) σ2 (fun r4 σ5 => Q r4 σ5)))
set_option maxHeartbeats 4000000 in
set_option maxRecDepth 100000 in
theorem c_X6_reading {l : Launch} {D : va_G} {cI cJ cM cS : ClassId} {n0 : Nat} {a1 : Int32} {a2 : Int32} {σ : z_S} {Q : Int32 → z_S → Prop} (hf : w_X6_reading a1 a2 σ Q) : z_ci l D cI cJ cM cS n0 yX6_reading cX6_reading 3 .int rm_X6_reading 0 0 [.ref (n0 + 73), .int a1, .int a2] σ Q := by
  refine z_ofi (by decide +kernel) (Nat.le_of_ble_eq_true rfl) (fun p e s m args below meth c hX hY => ?_)
  unfold w_X6_reading at hf
  refine zt_L (L' := [(0, .ref (n0 + 73)), (1, .int a1), (2, .int a2)]) rfl ?_
  refine zt_aload_n hX 0 dX6_reading_0 rfl rfl ?_
  refine zt_iload_n hX 1 dX6_reading_1 rfl rfl ?_
  refine zt_iload_n hX 2 dX6_reading_2 rfl rfl ?_
  refine zt_calliV hX hY (av := [.int a1, .int a2]) (c_X6_isBoundary hf) dX6_reading_3 rfl kw_770 kw_772 kw_29 kw_67 kw_773 ⟨rfl, rfl⟩ hy_X6_isBoundary ⟨by decide, by decide⟩ ⟨by decide, by decide⟩ (Nat.le_of_ble_eq_true rfl) (by decide) (zE_73 _ _) rfl rfl (fun r1 σ2 hf => ?_)
  refine zt_if_eq hX dX6_reading_6 (tgt := 20) (by decide) (fun c3 => ?_) (fun c3 => ?_)
  · replace hf := z_pos hf c3
    refine zt_ldc hX dX6_reading_20 kw_705 ?_
    exact zt_iret hX hY dX6_reading_22 hf
  · replace hf := z_neg hf c3
    refine zt_aload_n hX 0 dX6_reading_9 rfl rfl ?_
    refine zt_iload_n hX 1 dX6_reading_10 rfl rfl ?_
    refine zt_iconst hX dX6_reading_11 (v := (5 : Int32)) (by decide) ?_
    refine zt_iload_n hX 2 dX6_reading_12 rfl rfl ?_
    refine zt_iadd hX dX6_reading_13 ?_
    refine zt_calliV hX hY (av := [.int a1, .int ((5 : Int32) + a2)]) (c_X6_of hf) dX6_reading_14 rfl kw_729 kw_731 kw_25 kw_67 kw_732 ⟨rfl, rfl⟩ hy_X6_of ⟨by decide, by decide⟩ ⟨by decide, by decide⟩ (Nat.le_of_ble_eq_true rfl) (by decide) (zE_73 _ _) rfl rfl (fun r4 σ5 hf => ?_)
    refine zt_goto hX dX6_reading_17 (tgt := 22) (by decide) ?_
    exact zt_iret hX hY dX6_reading_22 hf

theorem dX6_advance_0 : decode cX6_advance 0 = .ok (.aload_n 0, 1) := by decide +kernel
theorem dX6_advance_1 : decode cX6_advance 1 = .ok (.iload_n 1, 1) := by decide +kernel
theorem dX6_advance_2 : decode cX6_advance 2 = .ok (.iconst 5, 1) := by decide +kernel
theorem dX6_advance_3 : decode cX6_advance 3 = .ok (.iload_n 2, 1) := by decide +kernel
theorem dX6_advance_4 : decode cX6_advance 4 = .ok (.iadd, 1) := by decide +kernel
theorem dX6_advance_5 : decode cX6_advance 5 = .ok (.invokevirtual 44, 3) := by decide +kernel
theorem dX6_advance_8 : decode cX6_advance 8 = .ok (.istore 4, 2) := by decide +kernel
theorem dX6_advance_10 : decode cX6_advance 10 = .ok (.aload_n 0, 1) := by decide +kernel
theorem dX6_advance_11 : decode cX6_advance 11 = .ok (.iload_n 1, 1) := by decide +kernel
theorem dX6_advance_12 : decode cX6_advance 12 = .ok (.iconst 5, 1) := by decide +kernel
theorem dX6_advance_13 : decode cX6_advance 13 = .ok (.iload_n 3, 1) := by decide +kernel
theorem dX6_advance_14 : decode cX6_advance 14 = .ok (.iadd, 1) := by decide +kernel
theorem dX6_advance_15 : decode cX6_advance 15 = .ok (.invokevirtual 44, 3) := by decide +kernel
theorem dX6_advance_18 : decode cX6_advance 18 = .ok (.istore 5, 2) := by decide +kernel
theorem dX6_advance_20 : decode cX6_advance 20 = .ok (.iload 4, 2) := by decide +kernel
theorem dX6_advance_22 : decode cX6_advance 22 = .ok (.ldc 48, 2) := by decide +kernel
theorem dX6_advance_24 : decode cX6_advance 24 = .ok (.if_icmp .eq 10, 3) := by decide +kernel
theorem dX6_advance_27 : decode cX6_advance 27 = .ok (.iload 5, 2) := by decide +kernel
theorem dX6_advance_29 : decode cX6_advance 29 = .ok (.ldc 48, 2) := by decide +kernel
theorem dX6_advance_31 : decode cX6_advance 31 = .ok (.if_icmp .ne 8, 3) := by decide +kernel
theorem dX6_advance_34 : decode cX6_advance 34 = .ok (.ldc 48, 2) := by decide +kernel
theorem dX6_advance_36 : decode cX6_advance 36 = .ok (.goto 29, 3) := by decide +kernel
theorem dX6_advance_39 : decode cX6_advance 39 = .ok (.iload 5, 2) := by decide +kernel
theorem dX6_advance_41 : decode cX6_advance 41 = .ok (.iload 4, 2) := by decide +kernel
theorem dX6_advance_43 : decode cX6_advance 43 = .ok (.if_icmp .ge 17, 3) := by decide +kernel
theorem dX6_advance_46 : decode cX6_advance 46 = .ok (.iload 5, 2) := by decide +kernel
theorem dX6_advance_48 : decode cX6_advance 48 = .ok (.iload 4, 2) := by decide +kernel
theorem dX6_advance_50 : decode cX6_advance 50 = .ok (.isub, 1) := by decide +kernel
theorem dX6_advance_51 : decode cX6_advance 51 = .ok (.aload_n 0, 1) := by decide +kernel
theorem dX6_advance_52 : decode cX6_advance 52 = .ok (.iload_n 1, 1) := by decide +kernel
theorem dX6_advance_53 : decode cX6_advance 53 = .ok (.invokevirtual 78, 3) := by decide +kernel
theorem dX6_advance_56 : decode cX6_advance 56 = .ok (.iadd, 1) := by decide +kernel
theorem dX6_advance_57 : decode cX6_advance 57 = .ok (.goto 8, 3) := by decide +kernel
theorem dX6_advance_60 : decode cX6_advance 60 = .ok (.iload 5, 2) := by decide +kernel
theorem dX6_advance_62 : decode cX6_advance 62 = .ok (.iload 4, 2) := by decide +kernel
theorem dX6_advance_64 : decode cX6_advance 64 = .ok (.isub, 1) := by decide +kernel
theorem dX6_advance_65 : decode cX6_advance 65 = .ok (.ireturn, 1) := by decide +kernel
abbrev rm_X6_advance : Room := { frames := 2, cells := 0, slots := 0, locals := 45 }
theorem hy_X6_advance : yX6_advance.cls ≠ "java/lang/invoke/MethodHandle" ∧ yX6_advance.cls ≠ "java/lang/invoke/VarHandle" ∧ (parseMethodDescriptor yX6_advance.desc).map (fun d => d.parameters.length) = some 3 := by decide +kernel
def w_X6_advance (a1 : Int32) (a2 : Int32) (a3 : Int32) (σ : z_S) (Q : Int32 → z_S → Prop) : Prop :=
  w_X6_of a1 ((5 : Int32) + a2) σ (fun r1 σ2 => w_X6_of a1 ((5 : Int32) + a3) σ2 (fun r3 σ4 => if r1 = (-2000000000 : Int32) then (Q (-2000000000 : Int32) σ4) else (if r3 = (-2000000000 : Int32) then (Q (-2000000000 : Int32) σ4) else (if r1 ≤ r3 then (Q (r3 - r1) σ4) else (w_X6_whole a1 σ4 (fun r8 σ9 => Q ((r3 - r1) + r8) σ9))))))
set_option maxHeartbeats 4000000 in
set_option maxRecDepth 100000 in
theorem c_X6_advance {l : Launch} {D : va_G} {cI cJ cM cS : ClassId} {n0 : Nat} {a1 : Int32} {a2 : Int32} {a3 : Int32} {σ : z_S} {Q : Int32 → z_S → Prop} (hf : w_X6_advance a1 a2 a3 σ Q) : z_ci l D cI cJ cM cS n0 yX6_advance cX6_advance 6 .int rm_X6_advance 0 0 [.ref (n0 + 73), .int a1, .int a2, .int a3] σ Q := by
  refine z_ofi (by decide +kernel) (Nat.le_of_ble_eq_true rfl) (fun p e s m args below meth c hX hY => ?_)
  unfold w_X6_advance at hf
  refine zt_L (L' := [(0, .ref (n0 + 73)), (1, .int a1), (2, .int a2), (3, .int a3)]) rfl ?_
  refine zt_aload_n hX 0 dX6_advance_0 rfl rfl ?_
  refine zt_iload_n hX 1 dX6_advance_1 rfl rfl ?_
  refine zt_iconst hX dX6_advance_2 (v := (5 : Int32)) (by decide) ?_
  refine zt_iload_n hX 2 dX6_advance_3 rfl rfl ?_
  refine zt_iadd hX dX6_advance_4 ?_
  refine zt_calliV hX hY (av := [.int a1, .int ((5 : Int32) + a2)]) (c_X6_of hf) dX6_advance_5 rfl kw_729 kw_731 kw_25 kw_67 kw_732 ⟨rfl, rfl⟩ hy_X6_of ⟨by decide, by decide⟩ ⟨by decide, by decide⟩ (Nat.le_of_ble_eq_true rfl) (by decide) (zE_73 _ _) rfl rfl (fun r1 σ2 hf => ?_)
  refine zt_istore (L' := [(4, .int r1), (0, .ref (n0 + 73)), (1, .int a1), (2, .int a2), (3, .int a3)]) hX dX6_advance_8 (by decide) rfl ?_
  refine zt_aload_n hX 1 dX6_advance_10 rfl rfl ?_
  refine zt_iload_n hX 2 dX6_advance_11 rfl rfl ?_
  refine zt_iconst hX dX6_advance_12 (v := (5 : Int32)) (by decide) ?_
  refine zt_iload_n hX 4 dX6_advance_13 rfl rfl ?_
  refine zt_iadd hX dX6_advance_14 ?_
  refine zt_calliV hX hY (av := [.int a1, .int ((5 : Int32) + a3)]) (c_X6_of hf) dX6_advance_15 rfl kw_729 kw_731 kw_25 kw_67 kw_732 ⟨rfl, rfl⟩ hy_X6_of ⟨by decide, by decide⟩ ⟨by decide, by decide⟩ (Nat.le_of_ble_eq_true rfl) (by decide) (zE_73 _ _) rfl rfl (fun r3 σ4 hf => ?_)
  refine zt_istore (L' := [(5, .int r3), (4, .int r1), (0, .ref (n0 + 73)), (1, .int a1), (2, .int a2), (3, .int a3)]) hX dX6_advance_18 (by decide) rfl ?_
  refine zt_iload hX 1 dX6_advance_20 rfl ?_
  refine zt_ldc hX dX6_advance_22 kw_715 ?_
  refine zt_icmp_eq hX dX6_advance_24 (tgt := 34) (by decide) (fun c5 => ?_) (fun c5 => ?_)
  · replace hf := z_pos hf c5
    refine zt_ldc hX dX6_advance_34 kw_715 ?_
    refine zt_goto hX dX6_advance_36 (tgt := 65) (by decide) ?_
    exact zt_iret hX hY dX6_advance_65 hf
  · replace hf := z_neg hf c5
    refine zt_iload hX 0 dX6_advance_27 rfl ?_
    refine zt_ldc hX dX6_advance_29 kw_715 ?_
    refine zt_icmp_ne hX dX6_advance_31 (tgt := 39) (by decide) (fun c6 => ?_) (fun c6 => ?_)
    · replace hf := z_neg hf c6
      refine zt_iload hX 0 dX6_advance_39 rfl ?_
      refine zt_iload hX 1 dX6_advance_41 rfl ?_
      refine zt_icmp_ge hX dX6_advance_43 (tgt := 60) (by decide) (fun c7 => ?_) (fun c7 => ?_)
      · replace hf := z_pos hf c7
        refine zt_iload hX 0 dX6_advance_60 rfl ?_
        refine zt_iload hX 1 dX6_advance_62 rfl ?_
        refine zt_isub hX dX6_advance_64 ?_
        exact zt_iret hX hY dX6_advance_65 hf
      · replace hf := z_neg hf c7
        refine zt_iload hX 0 dX6_advance_46 rfl ?_
        refine zt_iload hX 1 dX6_advance_48 rfl ?_
        refine zt_isub hX dX6_advance_50 ?_
        refine zt_aload_n hX 2 dX6_advance_51 rfl rfl ?_
        refine zt_iload_n hX 3 dX6_advance_52 rfl rfl ?_
        refine zt_calliV hX hY (av := [.int a1]) (c_X6_whole hf) dX6_advance_53 rfl kw_778 kw_780 kw_31 kw_67 kw_781 ⟨rfl, rfl⟩ hy_X6_whole ⟨by decide, by decide⟩ ⟨by decide, by decide⟩ (Nat.le_of_ble_eq_true rfl) (by decide) (zE_73 _ _) rfl rfl (fun r8 σ9 hf => ?_)
        refine zt_iadd hX dX6_advance_56 ?_
        refine zt_goto hX dX6_advance_57 (tgt := 65) (by decide) ?_
        exact zt_iret hX hY dX6_advance_65 hf
    · replace hf := z_pos hf c6
      refine zt_ldc hX dX6_advance_34 kw_715 ?_
      refine zt_goto hX dX6_advance_36 (tgt := 65) (by decide) ?_
      exact zt_iret hX hY dX6_advance_65 hf

theorem dX6_rawOf_0 : decode cX6_rawOf 0 = .ok (.aload_n 0, 1) := by decide +kernel
theorem dX6_rawOf_1 : decode cX6_rawOf 1 = .ok (.iload_n 1, 1) := by decide +kernel
theorem dX6_rawOf_2 : decode cX6_rawOf 2 = .ok (.iload_n 2, 1) := by decide +kernel
theorem dX6_rawOf_3 : decode cX6_rawOf 3 = .ok (.iload_n 2, 1) := by decide +kernel
theorem dX6_rawOf_4 : decode cX6_rawOf 4 = .ok (.iconst 1, 1) := by decide +kernel
theorem dX6_rawOf_5 : decode cX6_rawOf 5 = .ok (.iadd, 1) := by decide +kernel
theorem dX6_rawOf_6 : decode cX6_rawOf 6 = .ok (.invokevirtual 92, 3) := by decide +kernel
theorem dX6_rawOf_9 : decode cX6_rawOf 9 = .ok (.ireturn, 1) := by decide +kernel
abbrev rm_X6_rawOf : Room := { frames := 3, cells := 0, slots := 0, locals := 70 }
theorem hy_X6_rawOf : yX6_rawOf.cls ≠ "java/lang/invoke/MethodHandle" ∧ yX6_rawOf.cls ≠ "java/lang/invoke/VarHandle" ∧ (parseMethodDescriptor yX6_rawOf.desc).map (fun d => d.parameters.length) = some 2 := by decide +kernel
def w_X6_rawOf (a1 : Int32) (a2 : Int32) (σ : z_S) (Q : Int32 → z_S → Prop) : Prop :=
  w_X6_advance a1 a2 (a2 + (1 : Int32)) σ (fun r1 σ2 => Q r1 σ2)
set_option maxHeartbeats 4000000 in
set_option maxRecDepth 100000 in
theorem c_X6_rawOf {l : Launch} {D : va_G} {cI cJ cM cS : ClassId} {n0 : Nat} {a1 : Int32} {a2 : Int32} {σ : z_S} {Q : Int32 → z_S → Prop} (hf : w_X6_rawOf a1 a2 σ Q) : z_ci l D cI cJ cM cS n0 yX6_rawOf cX6_rawOf 3 .int rm_X6_rawOf 0 0 [.ref (n0 + 73), .int a1, .int a2] σ Q := by
  refine z_ofi (by decide +kernel) (Nat.le_of_ble_eq_true rfl) (fun p e s m args below meth c hX hY => ?_)
  unfold w_X6_rawOf at hf
  refine zt_L (L' := [(0, .ref (n0 + 73)), (1, .int a1), (2, .int a2)]) rfl ?_
  refine zt_aload_n hX 0 dX6_rawOf_0 rfl rfl ?_
  refine zt_iload_n hX 1 dX6_rawOf_1 rfl rfl ?_
  refine zt_iload_n hX 2 dX6_rawOf_2 rfl rfl ?_
  refine zt_iload_n hX 2 dX6_rawOf_3 rfl rfl ?_
  refine zt_iconst hX dX6_rawOf_4 (v := (1 : Int32)) (by decide) ?_
  refine zt_iadd hX dX6_rawOf_5 ?_
  refine zt_calliV hX hY (av := [.int a1, .int a2, .int (a2 + (1 : Int32))]) (c_X6_advance hf) dX6_rawOf_6 rfl kw_810 kw_812 kw_35 kw_67 kw_813 ⟨rfl, rfl⟩ hy_X6_advance ⟨by decide, by decide⟩ ⟨by decide, by decide⟩ (Nat.le_of_ble_eq_true rfl) (by decide) (zE_73 _ _) rfl rfl (fun r1 σ2 hf => ?_)
  exact zt_iret hX hY dX6_rawOf_9 hf

theorem dX6_isModest_0 : decode cX6_isModest 0 = .ok (.iload_n 2, 1) := by decide +kernel
theorem dX6_isModest_1 : decode cX6_isModest 1 = .ok (.iconst 0, 1) := by decide +kernel
theorem dX6_isModest_2 : decode cX6_isModest 2 = .ok (.bipush 11, 2) := by decide +kernel
theorem dX6_isModest_4 : decode cX6_isModest 4 = .ok (.invokestatic 40, 3) := by decide +kernel
theorem dX6_isModest_7 : decode cX6_isModest 7 = .ok (.ifCond .eq 33, 3) := by decide +kernel
theorem dX6_isModest_10 : decode cX6_isModest 10 = .ok (.aload_n 0, 1) := by decide +kernel
theorem dX6_isModest_11 : decode cX6_isModest 11 = .ok (.iload_n 1, 1) := by decide +kernel
theorem dX6_isModest_12 : decode cX6_isModest 12 = .ok (.iload_n 2, 1) := by decide +kernel
theorem dX6_isModest_13 : decode cX6_isModest 13 = .ok (.invokevirtual 95, 3) := by decide +kernel
theorem dX6_isModest_16 : decode cX6_isModest 16 = .ok (.ldc 48, 2) := by decide +kernel
theorem dX6_isModest_18 : decode cX6_isModest 18 = .ok (.if_icmp .eq 22, 3) := by decide +kernel
theorem dX6_isModest_21 : decode cX6_isModest 21 = .ok (.aload_n 0, 1) := by decide +kernel
theorem dX6_isModest_22 : decode cX6_isModest 22 = .ok (.iload_n 1, 1) := by decide +kernel
theorem dX6_isModest_23 : decode cX6_isModest 23 = .ok (.iload_n 2, 1) := by decide +kernel
theorem dX6_isModest_24 : decode cX6_isModest 24 = .ok (.invokevirtual 95, 3) := by decide +kernel
theorem dX6_isModest_27 : decode cX6_isModest 27 = .ok (.aload_n 0, 1) := by decide +kernel
theorem dX6_isModest_28 : decode cX6_isModest 28 = .ok (.iload_n 1, 1) := by decide +kernel
theorem dX6_isModest_29 : decode cX6_isModest 29 = .ok (.iconst 3, 1) := by decide +kernel
theorem dX6_isModest_30 : decode cX6_isModest 30 = .ok (.invokevirtual 44, 3) := by decide +kernel
theorem dX6_isModest_33 : decode cX6_isModest 33 = .ok (.if_icmp .gt 7, 3) := by decide +kernel
theorem dX6_isModest_36 : decode cX6_isModest 36 = .ok (.iconst 1, 1) := by decide +kernel
theorem dX6_isModest_37 : decode cX6_isModest 37 = .ok (.goto 4, 3) := by decide +kernel
theorem dX6_isModest_40 : decode cX6_isModest 40 = .ok (.iconst 0, 1) := by decide +kernel
theorem dX6_isModest_41 : decode cX6_isModest 41 = .ok (.ireturn, 1) := by decide +kernel
abbrev rm_X6_isModest : Room := { frames := 4, cells := 0, slots := 0, locals := 92 }
theorem hy_X6_isModest : yX6_isModest.cls ≠ "java/lang/invoke/MethodHandle" ∧ yX6_isModest.cls ≠ "java/lang/invoke/VarHandle" ∧ (parseMethodDescriptor yX6_isModest.desc).map (fun d => d.parameters.length) = some 2 := by decide +kernel
def w_X6_isModest (a1 : Int32) (a2 : Int32) (σ : z_S) (Q : Int32 → z_S → Prop) : Prop :=
  w_X6_in a2 (0 : Int32) (11 : Int32) σ (fun r1 σ2 => if r1 = 0 then (((0 : Int32) = 0 ∨ (0 : Int32) = 1) ∧ Q (0 : Int32) σ2) else (w_X6_rawOf a1 a2 σ2 (fun r4 σ5 => if r4 = (-2000000000 : Int32) then (((0 : Int32) = 0 ∨ (0 : Int32) = 1) ∧ Q (0 : Int32) σ5) else (w_X6_rawOf a1 a2 σ5 (fun r7 σ8 => w_X6_of a1 (3 : Int32) σ8 (fun r9 σ10 => if r9 < r7 then (((0 : Int32) = 0 ∨ (0 : Int32) = 1) ∧ Q (0 : Int32) σ10) else (((1 : Int32) = 0 ∨ (1 : Int32) = 1) ∧ Q (1 : Int32) σ10)))))))
set_option maxHeartbeats 4000000 in
set_option maxRecDepth 100000 in
theorem c_X6_isModest {l : Launch} {D : va_G} {cI cJ cM cS : ClassId} {n0 : Nat} {a1 : Int32} {a2 : Int32} {σ : z_S} {Q : Int32 → z_S → Prop} (hf : w_X6_isModest a1 a2 σ Q) : z_ci l D cI cJ cM cS n0 yX6_isModest cX6_isModest 3 .boolean rm_X6_isModest 0 0 [.ref (n0 + 73), .int a1, .int a2] σ Q := by
  refine z_ofi (by decide +kernel) (Nat.le_of_ble_eq_true rfl) (fun p e s m args below meth c hX hY => ?_)
  unfold w_X6_isModest at hf
  refine zt_L (L' := [(0, .ref (n0 + 73)), (1, .int a1), (2, .int a2)]) rfl ?_
  refine zt_iload_n hX 2 dX6_isModest_0 rfl rfl ?_
  refine zt_iconst hX dX6_isModest_1 (v := (0 : Int32)) (by decide) ?_
  refine zt_bipush hX dX6_isModest_2 (v := (11 : Int32)) (by decide) ?_
  refine zt_calliS hX hY (av := [.int a2, .int (0 : Int32), .int (11 : Int32)]) (c_X6_in hf) dX6_isModest_4 rfl kw_702 kw_703 kw_67 kw_704 ⟨rfl, rfl⟩ hy_X6_in ⟨by decide, by decide⟩ ⟨by decide, by decide⟩ (Nat.le_of_ble_eq_true rfl) (fun r1 σ2 hf => ?_)
  refine zt_if_eq hX dX6_isModest_7 (tgt := 40) (by decide) (fun c3 => ?_) (fun c3 => ?_)
  · replace hf := z_pos hf c3
    refine zt_iconst hX dX6_isModest_40 (v := (0 : Int32)) (by decide) ?_
    exact zt_zret hX hY dX6_isModest_41 hf
  · replace hf := z_neg hf c3
    refine zt_aload_n hX 0 dX6_isModest_10 rfl rfl ?_
    refine zt_iload_n hX 1 dX6_isModest_11 rfl rfl ?_
    refine zt_iload_n hX 2 dX6_isModest_12 rfl rfl ?_
    refine zt_calliV hX hY (av := [.int a1, .int a2]) (c_X6_rawOf hf) dX6_isModest_13 rfl kw_806 kw_808 kw_34 kw_67 kw_809 ⟨rfl, rfl⟩ hy_X6_rawOf ⟨by decide, by decide⟩ ⟨by decide, by decide⟩ (Nat.le_of_ble_eq_true rfl) (by decide) (zE_73 _ _) rfl rfl (fun r4 σ5 hf => ?_)
    refine zt_ldc hX dX6_isModest_16 kw_715 ?_
    refine zt_icmp_eq hX dX6_isModest_18 (tgt := 40) (by decide) (fun c6 => ?_) (fun c6 => ?_)
    · replace hf := z_pos hf c6
      refine zt_iconst hX dX6_isModest_40 (v := (0 : Int32)) (by decide) ?_
      exact zt_zret hX hY dX6_isModest_41 hf
    · replace hf := z_neg hf c6
      refine zt_aload_n hX 0 dX6_isModest_21 rfl rfl ?_
      refine zt_iload_n hX 1 dX6_isModest_22 rfl rfl ?_
      refine zt_iload_n hX 2 dX6_isModest_23 rfl rfl ?_
      refine zt_calliV hX hY (av := [.int a1, .int a2]) (c_X6_rawOf hf) dX6_isModest_24 rfl kw_806 kw_808 kw_34 kw_67 kw_809 ⟨rfl, rfl⟩ hy_X6_rawOf ⟨by decide, by decide⟩ ⟨by decide, by decide⟩ (Nat.le_of_ble_eq_true rfl) (by decide) (zE_73 _ _) rfl rfl (fun r7 σ8 hf => ?_)
      refine zt_aload_n hX 0 dX6_isModest_27 rfl rfl ?_
      refine zt_iload_n hX 1 dX6_isModest_28 rfl rfl ?_
      refine zt_iconst hX dX6_isModest_29 (v := (3 : Int32)) (by decide) ?_
      refine zt_calliV hX hY (av := [.int a1, .int (3 : Int32)]) (c_X6_of hf) dX6_isModest_30 rfl kw_729 kw_731 kw_25 kw_67 kw_732 ⟨rfl, rfl⟩ hy_X6_of ⟨by decide, by decide⟩ ⟨by decide, by decide⟩ (Nat.le_of_ble_eq_true rfl) (by decide) (zE_73 _ _) rfl rfl (fun r9 σ10 hf => ?_)
      refine zt_icmp_gt hX dX6_isModest_33 (tgt := 40) (by decide) (fun c11 => ?_) (fun c11 => ?_)
      · replace hf := z_pos hf c11
        refine zt_iconst hX dX6_isModest_40 (v := (0 : Int32)) (by decide) ?_
        exact zt_zret hX hY dX6_isModest_41 hf
      · replace hf := z_neg hf c11
        refine zt_iconst hX dX6_isModest_36 (v := (1 : Int32)) (by decide) ?_
        refine zt_goto hX dX6_isModest_37 (tgt := 41) (by decide) ?_
        exact zt_zret hX hY dX6_isModest_41 hf
