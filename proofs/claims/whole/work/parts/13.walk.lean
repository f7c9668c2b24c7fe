theorem dX3_takeSign_0 : decode cX3_takeSign 0 = .ok (.aload_n 0, 1) := by decide +kernel
theorem dX3_takeSign_1 : decode cX3_takeSign 1 = .ok (.invokevirtual 38, 3) := by decide +kernel
theorem dX3_takeSign_4 : decode cX3_takeSign 4 = .ok (.aload_n 0, 1) := by decide +kernel
theorem dX3_takeSign_5 : decode cX3_takeSign 5 = .ok (.invokevirtual 61, 3) := by decide +kernel
theorem dX3_takeSign_8 : decode cX3_takeSign 8 = .ok (.iload_n 1, 1) := by decide +kernel
theorem dX3_takeSign_9 : decode cX3_takeSign 9 = .ok (.if_icmp .eq 13, 3) := by decide +kernel
theorem dX3_takeSign_12 : decode cX3_takeSign 12 = .ok (.aload_n 0, 1) := by decide +kernel
theorem dX3_takeSign_13 : decode cX3_takeSign 13 = .ok (.aload_n 0, 1) := by decide +kernel
theorem dX3_takeSign_14 : decode cX3_takeSign 14 = .ok (.getfield 24, 3) := by decide +kernel
theorem dX3_takeSign_17 : decode cX3_takeSign 17 = .ok (.putfield 35, 3) := by decide +kernel
theorem dX3_takeSign_20 : decode cX3_takeSign 20 = .ok (.iconst 0, 1) := by decide +kernel
theorem dX3_takeSign_21 : decode cX3_takeSign 21 = .ok (.ireturn, 1) := by decide +kernel
theorem dX3_takeSign_22 : decode cX3_takeSign 22 = .ok (.aload_n 0, 1) := by decide +kernel
theorem dX3_takeSign_23 : decode cX3_takeSign 23 = .ok (.dup, 1) := by decide +kernel
theorem dX3_takeSign_24 : decode cX3_takeSign 24 = .ok (.getfield 24, 3) := by decide +kernel
theorem dX3_takeSign_27 : decode cX3_takeSign 27 = .ok (.iconst 1, 1) := by decide +kernel
theorem dX3_takeSign_28 : decode cX3_takeSign 28 = .ok (.iadd, 1) := by decide +kernel
theorem dX3_takeSign_29 : decode cX3_takeSign 29 = .ok (.putfield 24, 3) := by decide +kernel
theorem dX3_takeSign_32 : decode cX3_takeSign 32 = .ok (.iconst 1, 1) := by decide +kernel
theorem dX3_takeSign_33 : decode cX3_takeSign 33 = .ok (.ireturn, 1) := by decide +kernel
abbrev rm_X3_takeSign : Room := { frames := 2, cells := 0, slots := 0, locals := 40 }
theorem hy_X3_takeSign : yX3_takeSign.cls ≠ "java/lang/invoke/MethodHandle" ∧ yX3_takeSign.cls ≠ "java/lang/invoke/VarHandle" ∧ (parseMethodDescriptor yX3_takeSign.desc).map (fun d => d.parameters.length) = some 1 := by decide +kernel
def w_X3_takeSign (a1 : Int32) (σ : z_S) (Q : Int32 → z_S → Prop) : Prop :=
  w_X3_skipBlanks σ (fun σ2 => w_X3_peek σ2 (fun r3 σ4 => if r3 = a1 then (∀ σ6 : z_S, σ6 = zs_i σ4 68 6 ((zg_i σ4 68 6) + (1 : Int32)) → ((1 : Int32) = 0 ∨ (1 : Int32) = 1) ∧ Q (1 : Int32) σ6) else (∀ σ7 : z_S, σ7 = zs_i σ4 68 7 (zg_i σ4 68 6) → ((0 : Int32) = 0 ∨ (0 : Int32) = 1) ∧ Q (0 : Int32) σ7)))
set_option maxHeartbeats 4000000 in
set_option maxRecDepth 100000 in
theorem c_X3_takeSign {l : Launch} {D : va_G} {cI cJ cM cS : ClassId} {n0 : Nat} {a1 : Int32} {σ : z_S} {Q : Int32 → z_S → Prop} (hf : w_X3_takeSign a1 σ Q) : z_ci l D cI cJ cM cS n0 yX3_takeSign cX3_takeSign 2 .boolean rm_X3_takeSign 0 0 [.ref (n0 + 68), .int a1] σ Q := by
  refine z_ofi (by decide +kernel) (Nat.le_of_ble_eq_true rfl) (fun p e s m args below meth c hX hY => ?_)
  unfold w_X3_takeSign at hf
  refine zt_L (L' := [(0, .ref (n0 + 68)), (1, .int a1)]) rfl ?_
  refine zt_aload_n hX 0 dX3_takeSign_0 rfl rfl ?_
  refine zt_callvV hX hY (av := []) (c_X3_skipBlanks hf) dX3_takeSign_1 rfl kw_608 kw_610 kw_16 kw_66 kw_611 ⟨rfl, rfl⟩ hy_X3_skipBlanks ⟨by decide, by decide⟩ ⟨by decide, by decide⟩ (Nat.le_of_ble_eq_true rfl) (by decide) (zE_68 _ _) rfl rfl (fun σ2 hf => ?_)
  refine zt_aload_n hX 0 dX3_takeSign_4 rfl rfl ?_
  refine zt_calliV hX hY (av := []) (c_X3_peek hf) dX3_takeSign_5 rfl kw_612 kw_614 kw_17 kw_66 kw_615 ⟨rfl, rfl⟩ hy_X3_peek ⟨by decide, by decide⟩ ⟨by decide, by decide⟩ (Nat.le_of_ble_eq_true rfl) (by decide) (zE_68 _ _) rfl rfl (fun r3 σ4 hf => ?_)
  refine zt_iload_n hX 1 dX3_takeSign_8 rfl rfl ?_
  refine zt_icmp_eq hX dX3_takeSign_9 (tgt := 22) (by decide) (fun c5 => ?_) (fun c5 => ?_)
  · replace hf := z_pos hf c5
    refine zt_aload_n hX 0 dX3_takeSign_22 rfl rfl ?_
    refine zt_dup hX dX3_takeSign_23 rfl ?_
    refine zt_get_X3 hX (by decide) (zE_68 _ _) 6 (by decide) kw_215 rfl rfl dX3_takeSign_24 ?_
    refine zt_iconst hX dX3_takeSign_27 (v := (1 : Int32)) (by decide) ?_
    refine zt_iadd hX dX3_takeSign_28 ?_
    refine zt_puti_X3 hX (by decide) (zE_68 _ _) 6 (by decide) kw_215 rfl rfl (Nat.le_of_ble_eq_true rfl) rfl rfl dX3_takeSign_29 ?_
    refine zt_nms (fun σ6 d6 => ?_)
    replace hf := hf σ6 d6
    refine zt_iconst hX dX3_takeSign_32 (v := (1 : Int32)) (by decide) ?_
    exact zt_zret hX hY dX3_takeSign_33 hf
  · replace hf := z_neg hf c5
    refine zt_aload_n hX 0 dX3_takeSign_12 rfl rfl ?_
    refine zt_aload_n hX 0 dX3_takeSign_13 rfl rfl ?_
    refine zt_get_X3 hX (by decide) (zE_68 _ _) 6 (by decide) kw_215 rfl rfl dX3_takeSign_14 ?_
    refine zt_puti_X3 hX (by decide) (zE_68 _ _) 7 (by decide) kw_216 rfl rfl (Nat.le_of_ble_eq_true rfl) rfl rfl dX3_takeSign_17 ?_
    refine zt_nms (fun σ7 d7 => ?_)
    replace hf := hf σ7 d7
    refine zt_iconst hX dX3_takeSign_20 (v := (0 : Int32)) (by decide) ?_
    exact zt_zret hX hY dX3_takeSign_21 hf

theorem dX4_has_0 : decode cX4_has 0 = .ok (.iload_n 1, 1) := by decide +kernel
theorem dX4_has_1 : decode cX4_has 1 = .ok (.ifCond .lt 15, 3) := by decide +kernel
theorem dX4_has_4 : decode cX4_has 4 = .ok (.iload_n 1, 1) := by decide +kernel
theorem dX4_has_5 : decode cX4_has 5 = .ok (.aload_n 0, 1) := by decide +kernel
theorem dX4_has_6 : decode cX4_has 6 = .ok (.getfield 42, 3) := by decide +kernel
theorem dX4_has_9 : decode cX4_has 9 = .ok (.if_icmp .ge 7, 3) := by decide +kernel
theorem dX4_has_12 : decode cX4_has 12 = .ok (.iconst 1, 1) := by decide +kernel
theorem dX4_has_13 : decode cX4_has 13 = .ok (.goto 4, 3) := by decide +kernel
theorem dX4_has_16 : decode cX4_has 16 = .ok (.iconst 0, 1) := by decide +kernel
theorem dX4_has_17 : decode cX4_has 17 = .ok (.ireturn, 1) := by decide +kernel
abbrev rm_X4_has : Room := { frames := 0, cells := 0, slots := 0, locals := 0 }
theorem hy_X4_has : yX4_has.cls ≠ "java/lang/invoke/MethodHandle" ∧ yX4_has.cls ≠ "java/lang/invoke/VarHandle" ∧ (parseMethodDescriptor yX4_has.desc).map (fun d => d.parameters.length) = some 1 := by decide +kernel
def w_X4_has (a1 : Int32) (σ : z_S) (Q : Int32 → z_S → Prop) : Prop :=
  if a1 < 0 then (((0 : Int32) = 0 ∨ (0 : Int32) = 1) ∧ Q (0 : Int32) σ) else (if (zg_i σ 1 0) ≤ a1 then (((0 : Int32) = 0 ∨ (0 : Int32) = 1) ∧ Q (0 : Int32) σ) else (((1 : Int32) = 0 ∨ (1 : Int32) = 1) ∧ Q (1 : Int32) σ))
set_option maxHeartbeats 4000000 in
set_option maxRecDepth 100000 in
theorem c_X4_has {l : Launch} {D : va_G} {cI cJ cM cS : ClassId} {n0 : Nat} {a1 : Int32} {σ : z_S} {Q : Int32 → z_S → Prop} (hf : w_X4_has a1 σ Q) : z_ci l D cI cJ cM cS n0 yX4_has cX4_has 2 .boolean rm_X4_has 0 0 [.ref (n0 + 1), .int a1] σ Q := by
  refine z_ofi (by decide +kernel) (Nat.le_of_ble_eq_true rfl) (fun p e s m args below meth c hX hY => ?_)
  unfold w_X4_has at hf
  refine zt_L (L' := [(0, .ref (n0 + 1)), (1, .int a1)]) rfl ?_
  refine zt_iload_n hX 1 dX4_has_0 rfl rfl ?_
  refine zt_if_lt hX dX4_has_1 (tgt := 16) (by decide) (fun c1 => ?_) (fun c1 => ?_)
  · replace hf := z_pos hf c1
    refine zt_iconst hX dX4_has_16 (v := (0 : Int32)) (by decide) ?_
    exact zt_zret hX hY dX4_has_17 hf
  · replace hf := z_neg hf c1
    refine zt_iload_n hX 1 dX4_has_4 rfl rfl ?_
    refine zt_aload_n hX 0 dX4_has_5 rfl rfl ?_
    refine zt_get_X4 hX (by decide) (zE_1 _ _) 0 (by decide) kw_87 rfl rfl dX4_has_6 ?_
    refine zt_icmp_ge hX dX4_has_9 (tgt := 16) (by decide) (fun c2 => ?_) (fun c2 => ?_)
    · replace hf := z_pos hf c2
      refine zt_iconst hX dX4_has_16 (v := (0 : Int32)) (by decide) ?_
      exact zt_zret hX hY dX4_has_17 hf
    · replace hf := z_neg hf c2
      refine zt_iconst hX dX4_has_12 (v := (1 : Int32)) (by decide) ?_
      refine zt_goto hX dX4_has_13 (tgt := 17) (by decide) ?_
      exact zt_zret hX hY dX4_has_17 hf

theorem dX3_parseEntry_0 : decode cX3_parseEntry 0 = .ok (.aload_n 0, 1) := by decide +kernel
theorem dX3_parseEntry_1 : decode cX3_parseEntry 1 = .ok (.aload_n 1, 1) := by decide +kernel
theorem dX3_parseEntry_2 : decode cX3_parseEntry 2 = .ok (.getfield 49, 3) := by decide +kernel
theorem dX3_parseEntry_5 : decode cX3_parseEntry 5 = .ok (.invokevirtual 54, 3) := by decide +kernel
theorem dX3_parseEntry_8 : decode cX3_parseEntry 8 = .ok (.istore_n 2, 1) := by decide +kernel
theorem dX3_parseEntry_9 : decode cX3_parseEntry 9 = .ok (.aload_n 1, 1) := by decide +kernel
theorem dX3_parseEntry_10 : decode cX3_parseEntry 10 = .ok (.iload_n 2, 1) := by decide +kernel
theorem dX3_parseEntry_11 : decode cX3_parseEntry 11 = .ok (.invokevirtual 58, 3) := by decide +kernel
theorem dX3_parseEntry_14 : decode cX3_parseEntry 14 = .ok (.ifCond .eq 12, 3) := by decide +kernel
theorem dX3_parseEntry_17 : decode cX3_parseEntry 17 = .ok (.aload_n 0, 1) := by decide +kernel
theorem dX3_parseEntry_18 : decode cX3_parseEntry 18 = .ok (.bipush 64, 2) := by decide +kernel
theorem dX3_parseEntry_20 : decode cX3_parseEntry 20 = .ok (.invokevirtual 45, 3) := by decide +kernel
theorem dX3_parseEntry_23 : decode cX3_parseEntry 23 = .ok (.ifCond .ne 5, 3) := by decide +kernel
theorem dX3_parseEntry_26 : decode cX3_parseEntry 26 = .ok (.iconst 0, 1) := by decide +kernel
theorem dX3_parseEntry_27 : decode cX3_parseEntry 27 = .ok (.ireturn, 1) := by decide +kernel
theorem dX3_parseEntry_28 : decode cX3_parseEntry 28 = .ok (.aload_n 0, 1) := by decide +kernel
theorem dX3_parseEntry_29 : decode cX3_parseEntry 29 = .ok (.bipush 13, 2) := by decide +kernel
theorem dX3_parseEntry_31 : decode cX3_parseEntry 31 = .ok (.invokevirtual 54, 3) := by decide +kernel
theorem dX3_parseEntry_34 : decode cX3_parseEntry 34 = .ok (.istore_n 3, 1) := by decide +kernel
theorem dX3_parseEntry_35 : decode cX3_parseEntry 35 = .ok (.iload_n 3, 1) := by decide +kernel
theorem dX3_parseEntry_36 : decode cX3_parseEntry 36 = .ok (.ifCond .lt 12, 3) := by decide +kernel
theorem dX3_parseEntry_39 : decode cX3_parseEntry 39 = .ok (.aload_n 0, 1) := by decide +kernel
theorem dX3_parseEntry_40 : decode cX3_parseEntry 40 = .ok (.bipush 61, 2) := by decide +kernel
theorem dX3_parseEntry_42 : decode cX3_parseEntry 42 = .ok (.invokevirtual 45, 3) := by decide +kernel
theorem dX3_parseEntry_45 : decode cX3_parseEntry 45 = .ok (.ifCond .ne 5, 3) := by decide +kernel
theorem dX3_parseEntry_48 : decode cX3_parseEntry 48 = .ok (.iconst 0, 1) := by decide +kernel
theorem dX3_parseEntry_49 : decode cX3_parseEntry 49 = .ok (.ireturn, 1) := by decide +kernel
theorem dX3_parseEntry_50 : decode cX3_parseEntry 50 = .ok (.aload_n 0, 1) := by decide +kernel
theorem dX3_parseEntry_51 : decode cX3_parseEntry 51 = .ok (.invokevirtual 38, 3) := by decide +kernel
theorem dX3_parseEntry_54 : decode cX3_parseEntry 54 = .ok (.ldc 44, 2) := by decide +kernel
theorem dX3_parseEntry_56 : decode cX3_parseEntry 56 = .ok (.istore 4, 2) := by decide +kernel
theorem dX3_parseEntry_58 : decode cX3_parseEntry 58 = .ok (.aload_n 0, 1) := by decide +kernel
theorem dX3_parseEntry_59 : decode cX3_parseEntry 59 = .ok (.invokevirtual 61, 3) := by decide +kernel
theorem dX3_parseEntry_62 : decode cX3_parseEntry 62 = .ok (.bipush 45, 2) := by decide +kernel
theorem dX3_parseEntry_64 : decode cX3_parseEntry 64 = .ok (.if_icmp .ne 16, 3) := by decide +kernel
theorem dX3_parseEntry_67 : decode cX3_parseEntry 67 = .ok (.aload_n 0, 1) := by decide +kernel
theorem dX3_parseEntry_68 : decode cX3_parseEntry 68 = .ok (.dup, 1) := by decide +kernel
theorem dX3_parseEntry_69 : decode cX3_parseEntry 69 = .ok (.getfield 24, 3) := by decide +kernel
theorem dX3_parseEntry_72 : decode cX3_parseEntry 72 = .ok (.iconst 1, 1) := by decide +kernel
theorem dX3_parseEntry_73 : decode cX3_parseEntry 73 = .ok (.iadd, 1) := by decide +kernel
theorem dX3_parseEntry_74 : decode cX3_parseEntry 74 = .ok (.putfield 24, 3) := by decide +kernel
theorem dX3_parseEntry_77 : decode cX3_parseEntry 77 = .ok (.goto 21, 3) := by decide +kernel
theorem dX3_parseEntry_80 : decode cX3_parseEntry 80 = .ok (.aload_n 0, 1) := by decide +kernel
theorem dX3_parseEntry_81 : decode cX3_parseEntry 81 = .ok (.aload_n 1, 1) := by decide +kernel
theorem dX3_parseEntry_82 : decode cX3_parseEntry 82 = .ok (.iload_n 2, 1) := by decide +kernel
theorem dX3_parseEntry_83 : decode cX3_parseEntry 83 = .ok (.invokevirtual 65, 3) := by decide +kernel
theorem dX3_parseEntry_86 : decode cX3_parseEntry 86 = .ok (.invokevirtual 54, 3) := by decide +kernel
theorem dX3_parseEntry_89 : decode cX3_parseEntry 89 = .ok (.istore 4, 2) := by decide +kernel
theorem dX3_parseEntry_91 : decode cX3_parseEntry 91 = .ok (.iload 4, 2) := by decide +kernel
theorem dX3_parseEntry_93 : decode cX3_parseEntry 93 = .ok (.ifCond .ge 5, 3) := by decide +kernel
theorem dX3_parseEntry_96 : decode cX3_parseEntry 96 = .ok (.iconst 0, 1) := by decide +kernel
theorem dX3_parseEntry_97 : decode cX3_parseEntry 97 = .ok (.ireturn, 1) := by decide +kernel
theorem dX3_parseEntry_98 : decode cX3_parseEntry 98 = .ok (.aload_n 0, 1) := by decide +kernel
theorem dX3_parseEntry_99 : decode cX3_parseEntry 99 = .ok (.iload_n 2, 1) := by decide +kernel
theorem dX3_parseEntry_100 : decode cX3_parseEntry 100 = .ok (.iload_n 3, 1) := by decide +kernel
theorem dX3_parseEntry_101 : decode cX3_parseEntry 101 = .ok (.iload 4, 2) := by decide +kernel
theorem dX3_parseEntry_103 : decode cX3_parseEntry 103 = .ok (.invokevirtual 68, 3) := by decide +kernel
theorem dX3_parseEntry_106 : decode cX3_parseEntry 106 = .ok (.iconst 1, 1) := by decide +kernel
theorem dX3_parseEntry_107 : decode cX3_parseEntry 107 = .ok (.ireturn, 1) := by decide +kernel
abbrev rm_X3_parseEntry : Room := { frames := 3, cells := 0, slots := 0, locals := 64 }
theorem hy_X3_parseEntry : yX3_parseEntry.cls ≠ "java/lang/invoke/MethodHandle" ∧ yX3_parseEntry.cls ≠ "java/lang/invoke/VarHandle" ∧ (parseMethodDescriptor yX3_parseEntry.desc).map (fun d => d.parameters.length) = some 1 := by decide +kernel
def w_X3_parseEntry_98  (Q : Int32 → z_S → Prop) (x2 : Int32) (x3 : Int32) (x4 : Int32) (σ : z_S) : Prop :=
  w_X3_keep x2 x3 x4 σ (fun σ26 => ((1 : Int32) = 0 ∨ (1 : Int32) = 1) ∧ Q (1 : Int32) σ26)
def w_X3_parseEntry  (σ : z_S) (Q : Int32 → z_S → Prop) : Prop :=
  w_X3_takeNumber (zg_i σ 1 0) σ (fun r1 σ2 => w_X4_has r1 σ2 (fun r3 σ4 => if r3 = 0 then (((0 : Int32) = 0 ∨ (0 : Int32) = 1) ∧ Q (0 : Int32) σ4) else (w_X3_takeSign (64 : Int32) σ4 (fun r6 σ7 => if r6 = 0 then (((0 : Int32) = 0 ∨ (0 : Int32) = 1) ∧ Q (0 : Int32) σ7) else (w_X3_takeNumber (13 : Int32) σ7 (fun r9 σ10 => if r9 < 0 then (((0 : Int32) = 0 ∨ (0 : Int32) = 1) ∧ Q (0 : Int32) σ10) else (w_X3_takeSign (61 : Int32) σ10 (fun r12 σ13 => if r12 = 0 then (((0 : Int32) = 0 ∨ (0 : Int32) = 1) ∧ Q (0 : Int32) σ13) else (w_X3_skipBlanks σ13 (fun σ16 => w_X3_peek σ16 (fun r17 σ18 => if r17 = (45 : Int32) then (∀ σ27 : z_S, σ27 = zs_i σ18 68 6 ((zg_i σ18 68 6) + (1 : Int32)) → w_X3_parseEntry_98 Q r1 r9 (-2000000000 : Int32) σ27) else (w_X4_span r1 σ18 (fun r20 σ21 => w_X3_takeNumber r20 σ21 (fun r22 σ23 => if 0 ≤ r22 then (w_X3_parseEntry_98 Q r1 r9 r22 σ23) else (((0 : Int32) = 0 ∨ (0 : Int32) = 1) ∧ Q (0 : Int32) σ23)))))))))))))))
set_option maxHeartbeats 4000000 in
set_option maxRecDepth 100000 in
theorem t_X3_parseEntry_98 {l : Launch} {D : va_G} {cI cJ cM cS : ClassId} {n0 : Nat} {p : Program} {e : Env} {s : State} {m : MethodId} {args : Array Value} {below : List Frame} {meth : Method} {c : Code}  {Q : Int32 → z_S → Prop} (hX : z_X D cI cJ cM cS p s m args c cX3_parseEntry 5 yX3_parseEntry.cls) (hY : z_Y s meth (some .boolean))  (x2 : Int32) (x3 : Int32) (x4 : Int32) (σ : z_S) (hf : w_X3_parseEntry_98  Q x2 x3 x4 σ) : z_t D cI cJ cM cS n0 p l e rm_X3_parseEntry s m args below meth c 5 (MQ below (va_Qi Q (fun u t => z_Bq D cI cJ cM cS n0 u t) (z_Ab n0)) args s 0 0 (z_Ab n0)) 0 0 98 [(0, .ref (n0 + 68)), (2, .int x2), (3, .int x3), (4, .int x4)] [] σ := by
  unfold w_X3_parseEntry_98 at hf
  refine zt_aload_n hX 0 dX3_parseEntry_98 rfl rfl ?_
  refine zt_iload_n hX 1 dX3_parseEntry_99 rfl rfl ?_
  refine zt_iload_n hX 2 dX3_parseEntry_100 rfl rfl ?_
  refine zt_iload hX 3 dX3_parseEntry_101 rfl ?_
  refine zt_callvV hX hY (av := [.int x2, .int x3, .int x4]) (c_X3_keep hf) dX3_parseEntry_103 rfl kw_626 kw_628 kw_19 kw_66 kw_629 ⟨rfl, rfl⟩ hy_X3_keep ⟨by decide, by decide⟩ ⟨by decide, by decide⟩ (Nat.le_of_ble_eq_true rfl) (by decide) (zE_68 _ _) rfl rfl (fun σ26 hf => ?_)
  refine zt_iconst hX dX3_parseEntry_106 (v := (1 : Int32)) (by decide) ?_
  exact zt_zret hX hY dX3_parseEntry_107 hf
set_option maxHeartbeats 4000000 in
set_option maxRecDepth 100000 in
theorem c_X3_parseEntry {l : Launch} {D : va_G} {cI cJ cM cS : ClassId} {n0 : Nat}  {σ : z_S} {Q : Int32 → z_S → Prop} (hf : w_X3_parseEntry  σ Q) : z_ci l D cI cJ cM cS n0 yX3_parseEntry cX3_parseEntry 5 .boolean rm_X3_parseEntry 0 0 [.ref (n0 + 68), .ref (n0 + 1)] σ Q := by
  refine z_ofi (by decide +kernel) (Nat.le_of_ble_eq_true rfl) (fun p e s m args below meth c hX hY => ?_)
  unfold w_X3_parseEntry at hf
  refine zt_L (L' := [(0, .ref (n0 + 68)), (1, .ref (n0 + 1))]) rfl ?_
  refine zt_aload_n hX 0 dX3_parseEntry_0 rfl rfl ?_
  refine zt_aload_n hX 1 dX3_parseEntry_1 rfl rfl ?_
  refine zt_get_X4 hX (by decide) (zE_1 _ _) 0 (by decide) kw_91 rfl rfl dX3_parseEntry_2 ?_
  refine zt_calliV hX hY (av := [.int (zg_i σ 1 0)]) (c_X3_takeNumber hf) dX3_parseEntry_5 rfl kw_604 kw_606 kw_15 kw_66 kw_607 ⟨rfl, rfl⟩ hy_X3_takeNumber ⟨by decide, by decide⟩ ⟨by decide, by decide⟩ (Nat.le_of_ble_eq_true rfl) (by decide) (zE_68 _ _) rfl rfl (fun r1 σ2 hf => ?_)
  refine zt_istore_n (L' := [(2, .int r1), (0, .ref (n0 + 68)), (1, .ref (n0 + 1))]) hX dX3_parseEntry_8 rfl (by decide) rfl ?_
  refine zt_aload_n hX 2 dX3_parseEntry_9 rfl rfl ?_
  refine zt_iload_n hX 0 dX3_parseEntry_10 rfl rfl ?_
  refine zt_calliV hX hY (av := [.int r1]) (c_X4_has hf) dX3_parseEntry_11 rfl kw_620 kw_255 kw_256 kw_62 kw_257 ⟨rfl, rfl⟩ hy_X4_has ⟨by decide, by decide⟩ ⟨by decide, by decide⟩ (Nat.le_of_ble_eq_true rfl) (by decide) (zE_1 _ _) rfl rfl (fun r3 σ4 hf => ?_)
  refine zt_if_eq hX dX3_parseEntry_14 (tgt := 26) (by decide) (fun c5 => ?_) (fun c5 => ?_)
  · replace hf := z_pos hf c5
    refine zt_iconst hX dX3_parseEntry_26 (v := (0 : Int32)) (by decide) ?_
    exact zt_zret hX hY dX3_parseEntry_27 hf
  · replace hf := z_neg hf c5
    refine zt_aload_n hX 1 dX3_parseEntry_17 rfl rfl ?_
    refine zt_bipush hX dX3_parseEntry_18 (v := (64 : Int32)) (by decide) ?_
    refine zt_calliV hX hY (av := [.int (64 : Int32)]) (c_X3_takeSign hf) dX3_parseEntry_20 rfl kw_621 kw_623 kw_18 kw_66 kw_624 ⟨rfl, rfl⟩ hy_X3_takeSign ⟨by decide, by decide⟩ ⟨by decide, by decide⟩ (Nat.le_of_ble_eq_true rfl) (by decide) (zE_68 _ _) rfl rfl (fun r6 σ7 hf => ?_)
    refine zt_if_ne hX dX3_parseEntry_23 (tgt := 28) (by decide) (fun c8 => ?_) (fun c8 => ?_)
    · replace hf := z_neg hf c8
      refine zt_aload_n hX 1 dX3_parseEntry_28 rfl rfl ?_
      refine zt_bipush hX dX3_parseEntry_29 (v := (13 : Int32)) (by decide) ?_
      refine zt_calliV hX hY (av := [.int (13 : Int32)]) (c_X3_takeNumber hf) dX3_parseEntry_31 rfl kw_604 kw_606 kw_15 kw_66 kw_607 ⟨rfl, rfl⟩ hy_X3_takeNumber ⟨by decide, by decide⟩ ⟨by decide, by decide⟩ (Nat.le_of_ble_eq_true rfl) (by decide) (zE_68 _ _) rfl rfl (fun r9 σ10 hf => ?_)
      refine zt_istore_n (L' := [(3, .int r9), (2, .int r1), (0, .ref (n0 + 68)), (1, .ref (n0 + 1))]) hX dX3_parseEntry_34 rfl (by decide) rfl ?_
      refine zt_iload_n hX 0 dX3_parseEntry_35 rfl rfl ?_
      refine zt_if_lt hX dX3_parseEntry_36 (tgt := 48) (by decide) (fun c11 => ?_) (fun c11 => ?_)
      · replace hf := z_pos hf c11
        refine zt_iconst hX dX3_parseEntry_48 (v := (0 : Int32)) (by decide) ?_
        exact zt_zret hX hY dX3_parseEntry_49 hf
      · replace hf := z_neg hf c11
        refine zt_aload_n hX 2 dX3_parseEntry_39 rfl rfl ?_
        refine zt_bipush hX dX3_parseEntry_40 (v := (61 : Int32)) (by decide) ?_
        refine zt_calliV hX hY (av := [.int (61 : Int32)]) (c_X3_takeSign hf) dX3_parseEntry_42 rfl kw_621 kw_623 kw_18 kw_66 kw_624 ⟨rfl, rfl⟩ hy_X3_takeSign ⟨by decide, by decide⟩ ⟨by decide, by decide⟩ (Nat.le_of_ble_eq_true rfl) (by decide) (zE_68 _ _) rfl rfl (fun r12 σ13 hf => ?_)
        refine zt_if_ne hX dX3_parseEntry_45 (tgt := 50) (by decide) (fun c14 => ?_) (fun c14 => ?_)
        · replace hf := z_neg hf c14
          refine zt_aload_n hX 2 dX3_parseEntry_50 rfl rfl ?_
          refine zt_callvV hX hY (av := []) (c_X3_skipBlanks hf) dX3_parseEntry_51 rfl kw_608 kw_610 kw_16 kw_66 kw_611 ⟨rfl, rfl⟩ hy_X3_skipBlanks ⟨by decide, by decide⟩ ⟨by decide, by decide⟩ (Nat.le_of_ble_eq_true rfl) (by decide) (zE_68 _ _) rfl rfl (fun σ16 hf => ?_)
          refine zt_ldc hX dX3_parseEntry_54 kw_616 ?_
          refine zt_istore (L' := [(4, .int (-2000000000 : Int32)), (3, .int r9), (2, .int r1), (0, .ref (n0 + 68)), (1, .ref (n0 + 1))]) hX dX3_parseEntry_56 (by decide) rfl ?_
          refine zt_aload_n hX 3 dX3_parseEntry_58 rfl rfl ?_
          refine zt_calliV hX hY (av := []) (c_X3_peek hf) dX3_parseEntry_59 rfl kw_612 kw_614 kw_17 kw_66 kw_615 ⟨rfl, rfl⟩ hy_X3_peek ⟨by decide, by decide⟩ ⟨by decide, by decide⟩ (Nat.le_of_ble_eq_true rfl) (by decide) (zE_68 _ _) rfl rfl (fun r17 σ18 hf => ?_)
          refine zt_bipush hX dX3_parseEntry_62 (v := (45 : Int32)) (by decide) ?_
          refine zt_icmp_ne hX dX3_parseEntry_64 (tgt := 80) (by decide) (fun c19 => ?_) (fun c19 => ?_)
          · replace hf := z_neg hf c19
            refine zt_aload_n hX 3 dX3_parseEntry_80 rfl rfl ?_
            refine zt_aload_n hX 4 dX3_parseEntry_81 rfl rfl ?_
            refine zt_iload_n hX 2 dX3_parseEntry_82 rfl rfl ?_
            refine zt_calliV hX hY (av := [.int r1]) (c_X4_span hf) dX3_parseEntry_83 rfl kw_625 kw_338 kw_339 kw_62 kw_340 ⟨rfl, rfl⟩ hy_X4_span ⟨by decide, by decide⟩ ⟨by decide, by decide⟩ (Nat.le_of_ble_eq_true rfl) (by decide) (zE_1 _ _) rfl rfl (fun r20 σ21 hf => ?_)
            refine zt_calliV hX hY (av := [.int r20]) (c_X3_takeNumber hf) dX3_parseEntry_86 rfl kw_604 kw_606 kw_15 kw_66 kw_607 ⟨rfl, rfl⟩ hy_X3_takeNumber ⟨by decide, by decide⟩ ⟨by decide, by decide⟩ (Nat.le_of_ble_eq_true rfl) (by decide) (zE_68 _ _) rfl rfl (fun r22 σ23 hf => ?_)
            refine zt_istore (L' := [(4, .int r22), (3, .int r9), (2, .int r1), (0, .ref (n0 + 68)), (1, .ref (n0 + 1))]) hX dX3_parseEntry_89 (by decide) rfl ?_
            refine zt_iload hX 0 dX3_parseEntry_91 rfl ?_
            refine zt_if_ge hX dX3_parseEntry_93 (tgt := 98) (by decide) (fun c24 => ?_) (fun c24 => ?_)
            · replace hf := z_pos hf c24
              exact zt_sub [3, 2, 1, 0] rfl (t_X3_parseEntry_98 hX hY _ _ _ _ hf)
            · replace hf := z_neg hf c24
              refine zt_iconst hX dX3_parseEntry_96 (v := (0 : Int32)) (by decide) ?_
              exact zt_zret hX hY dX3_parseEntry_97 hf
          · replace hf := z_pos hf c19
            refine zt_aload_n hX 3 dX3_parseEntry_67 rfl rfl ?_
            refine zt_dup hX dX3_parseEntry_68 rfl ?_
            refine zt_get_X3 hX (by decide) (zE_68 _ _) 6 (by decide) kw_215 rfl rfl dX3_parseEntry_69 ?_
            refine zt_iconst hX dX3_parseEntry_72 (v := (1 : Int32)) (by decide) ?_
            refine zt_iadd hX dX3_parseEntry_73 ?_
            refine zt_puti_X3 hX (by decide) (zE_68 _ _) 6 (by decide) kw_215 rfl rfl (Nat.le_of_ble_eq_true rfl) rfl rfl dX3_parseEntry_74 ?_
            refine zt_nms (fun σ27 d27 => ?_)
            replace hf := hf σ27 d27
            refine zt_goto hX dX3_parseEntry_77 (tgt := 98) (by decide) ?_
            exact zt_sub [3, 2, 1, 0] rfl (t_X3_parseEntry_98 hX hY _ _ _ _ hf)
        · replace hf := z_pos hf c14
          refine zt_iconst hX dX3_parseEntry_48 (v := (0 : Int32)) (by decide) ?_
          exact zt_zret hX hY dX3_parseEntry_49 hf
    · replace hf := z_pos hf c8
      refine zt_iconst hX dX3_parseEntry_26 (v := (0 : Int32)) (by decide) ?_
      exact zt_zret hX hY dX3_parseEntry_27 hf

theorem dX3_parse_0 : decode cX3_parse 0 = .ok (.aload_n 0, 1) := by decide +kernel
theorem dX3_parse_1 : decode cX3_parse 1 = .ok (.iconst 0, 1) := by decide +kernel
theorem dX3_parse_2 : decode cX3_parse 2 = .ok (.putfield 24, 3) := by decide +kernel
theorem dX3_parse_5 : decode cX3_parse 5 = .ok (.aload_n 0, 1) := by decide +kernel
theorem dX3_parse_6 : decode cX3_parse 6 = .ok (.iconst 0, 1) := by decide +kernel
theorem dX3_parse_7 : decode cX3_parse 7 = .ok (.putfield 28, 3) := by decide +kernel
theorem dX3_parse_10 : decode cX3_parse 10 = .ok (.iconst 0, 1) := by decide +kernel
theorem dX3_parse_11 : decode cX3_parse 11 = .ok (.istore_n 2, 1) := by decide +kernel
theorem dX3_parse_12 : decode cX3_parse 12 = .ok (.iload_n 2, 1) := by decide +kernel
theorem dX3_parse_13 : decode cX3_parse 13 = .ok (.bipush 120, 2) := by decide +kernel
theorem dX3_parse_15 : decode cX3_parse 15 = .ok (.if_icmp .ge 54, 3) := by decide +kernel
theorem dX3_parse_18 : decode cX3_parse 18 = .ok (.aload_n 0, 1) := by decide +kernel
theorem dX3_parse_19 : decode cX3_parse 19 = .ok (.aload_n 1, 1) := by decide +kernel
theorem dX3_parse_20 : decode cX3_parse 20 = .ok (.invokevirtual 31, 3) := by decide +kernel
theorem dX3_parse_23 : decode cX3_parse 23 = .ok (.ifCond .ne 8, 3) := by decide +kernel
theorem dX3_parse_26 : decode cX3_parse 26 = .ok (.aload_n 0, 1) := by decide +kernel
theorem dX3_parse_27 : decode cX3_parse 27 = .ok (.getfield 35, 3) := by decide +kernel
theorem dX3_parse_30 : decode cX3_parse 30 = .ok (.ireturn, 1) := by decide +kernel
theorem dX3_parse_31 : decode cX3_parse 31 = .ok (.aload_n 0, 1) := by decide +kernel
theorem dX3_parse_32 : decode cX3_parse 32 = .ok (.invokevirtual 38, 3) := by decide +kernel
theorem dX3_parse_35 : decode cX3_parse 35 = .ok (.aload_n 0, 1) := by decide +kernel
theorem dX3_parse_36 : decode cX3_parse 36 = .ok (.getfield 24, 3) := by decide +kernel
theorem dX3_parse_39 : decode cX3_parse 39 = .ok (.aload_n 0, 1) := by decide +kernel
theorem dX3_parse_40 : decode cX3_parse 40 = .ok (.getfield 41, 3) := by decide +kernel
theorem dX3_parse_43 : decode cX3_parse 43 = .ok (.if_icmp .lt 6, 3) := by decide +kernel
theorem dX3_parse_46 : decode cX3_parse 46 = .ok (.ldc 44, 2) := by decide +kernel
theorem dX3_parse_48 : decode cX3_parse 48 = .ok (.ireturn, 1) := by decide +kernel
theorem dX3_parse_49 : decode cX3_parse 49 = .ok (.aload_n 0, 1) := by decide +kernel
theorem dX3_parse_50 : decode cX3_parse 50 = .ok (.bipush 59, 2) := by decide +kernel
theorem dX3_parse_52 : decode cX3_parse 52 = .ok (.invokevirtual 45, 3) := by decide +kernel
theorem dX3_parse_55 : decode cX3_parse 55 = .ok (.ifCond .ne 8, 3) := by decide +kernel
theorem dX3_parse_58 : decode cX3_parse 58 = .ok (.aload_n 0, 1) := by decide +kernel
theorem dX3_parse_59 : decode cX3_parse 59 = .ok (.getfield 35, 3) := by decide +kernel
theorem dX3_parse_62 : decode cX3_parse 62 = .ok (.ireturn, 1) := by decide +kernel
theorem dX3_parse_63 : decode cX3_parse 63 = .ok (.iinc 2 1, 3) := by decide +kernel
theorem dX3_parse_66 : decode cX3_parse 66 = .ok (.goto (-54), 3) := by decide +kernel
theorem dX3_parse_69 : decode cX3_parse 69 = .ok (.aload_n 0, 1) := by decide +kernel
theorem dX3_parse_70 : decode cX3_parse 70 = .ok (.getfield 24, 3) := by decide +kernel
theorem dX3_parse_73 : decode cX3_parse 73 = .ok (.ireturn, 1) := by decide +kernel
abbrev rm_X3_parse : Room := { frames := 4, cells := 0, slots := 0, locals := 88 }
theorem hy_X3_parse : yX3_parse.cls ≠ "java/lang/invoke/MethodHandle" ∧ yX3_parse.cls ≠ "java/lang/invoke/VarHandle" ∧ (parseMethodDescriptor yX3_parse.desc).map (fun d => d.parameters.length) = some 1 := by decide +kernel
def wb_X3_parse_12  (Q : Int32 → z_S → Prop) (k12 : Int32 → z_S → Prop) (x2 : Int32) (σ : z_S) : Prop :=
  if (120 : Int32) ≤ x2 then (Q (zg_i σ 68 6) σ) else (w_X3_parseEntry σ (fun r4 σ5 => if r4 = 0 then (Q (zg_i σ5 68 7) σ5) else (w_X3_skipBlanks σ5 (fun σ8 => if (zg_i σ8 68 6) < (zg_i σ8 68 1) then (w_X3_takeSign (59 : Int32) σ8 (fun r10 σ11 => if r10 = 0 then (Q (zg_i σ11 68 7) σ11) else (∀ y13 : Int32, y13 = (x2 + (1 : Int32)) → k12 y13 σ11))) else (Q (-2000000000 : Int32) σ8)))))
def w_X3_parse_12  (Q : Int32 → z_S → Prop) : Nat → Int32 → z_S → Prop
  | 0 => fun _ _ => False
  | n + 1 => wb_X3_parse_12  Q (w_X3_parse_12  Q n)
def w_X3_parse  (σ : z_S) (Q : Int32 → z_S → Prop) : Prop :=
  ∀ σ1 : z_S, σ1 = zs_i σ 68 6 (0 : Int32) → ∀ σ2 : z_S, σ2 = zs_i σ1 68 5 (0 : Int32) → w_X3_parse_12 Q 400 (0 : Int32) σ2
set_option maxHeartbeats 4000000 in
set_option maxRecDepth 100000 in
theorem t_X3_parse_12 {l : Launch} {D : va_G} {cI cJ cM cS : ClassId} {n0 : Nat} {p : Program} {e : Env} {s : State} {m : MethodId} {args : Array Value} {below : List Frame} {meth : Method} {c : Code}  {Q : Int32 → z_S → Prop} (hX : z_X D cI cJ cM cS p s m args c cX3_parse 3 yX3_parse.cls) (hY : z_Y s meth (some .int))  : ∀ (n : Nat) (x2 : Int32) (σ : z_S), w_X3_parse_12  Q n x2 σ → z_t D cI cJ cM cS n0 p l e rm_X3_parse s m args below meth c 3 (MQ below (va_Qi Q (fun u t => z_Bq D cI cJ cM cS n0 u t) (z_Ab n0)) args s 0 0 (z_Ab n0)) 0 0 12 [(0, .ref (n0 + 68)), (1, .ref (n0 + 1)), (2, .int x2)] [] σ := by
  intro n
  induction n with
  | zero => intro _ _ hf; exact hf.elim
  | succ n ih12 =>
    intro x2 σ hf
    have hf : wb_X3_parse_12  Q (w_X3_parse_12  Q n) x2 σ := hf
    unfold wb_X3_parse_12 at hf
    refine zt_iload_n hX 2 dX3_parse_12 rfl rfl ?_
    refine zt_bipush hX dX3_parse_13 (v := (120 : Int32)) (by decide) ?_
    refine zt_icmp_ge hX dX3_parse_15 (tgt := 69) (by decide) (fun c3 => ?_) (fun c3 => ?_)
    · replace hf := z_pos hf c3
      refine zt_aload_n hX 0 dX3_parse_69 rfl rfl ?_
      refine zt_get_X3 hX (by decide) (zE_68 _ _) 6 (by decide) kw_215 rfl rfl dX3_parse_70 ?_
      exact zt_iret hX hY dX3_parse_73 hf
    · replace hf := z_neg hf c3
      refine zt_aload_n hX 0 dX3_parse_18 rfl rfl ?_
      refine zt_aload_n hX 1 dX3_parse_19 rfl rfl ?_
      refine zt_calliV hX hY (av := [.ref (n0 + 1)]) (c_X3_parseEntry hf) dX3_parse_20 rfl kw_600 kw_602 kw_14 kw_66 kw_603 ⟨rfl, rfl⟩ hy_X3_parseEntry ⟨by decide, by decide⟩ ⟨by decide, by decide⟩ (Nat.le_of_ble_eq_true rfl) (by decide) (zE_68 _ _) rfl rfl (fun r4 σ5 hf => ?_)
      refine zt_if_ne hX dX3_parse_23 (tgt := 31) (by decide) (fun c6 => ?_) (fun c6 => ?_)
      · replace hf := z_neg hf c6
        refine zt_aload_n hX 0 dX3_parse_31 rfl rfl ?_
        refine zt_callvV hX hY (av := []) (c_X3_skipBlanks hf) dX3_parse_32 rfl kw_608 kw_610 kw_16 kw_66 kw_611 ⟨rfl, rfl⟩ hy_X3_skipBlanks ⟨by decide, by decide⟩ ⟨by decide, by decide⟩ (Nat.le_of_ble_eq_true rfl) (by decide) (zE_68 _ _) rfl rfl (fun σ8 hf => ?_)
        refine zt_aload_n hX 0 dX3_parse_35 rfl rfl ?_
        refine zt_get_X3 hX (by decide) (zE_68 _ _) 6 (by decide) kw_215 rfl rfl dX3_parse_36 ?_
        refine zt_aload_n hX 0 dX3_parse_39 rfl rfl ?_
        refine zt_get_X3 hX (by decide) (zE_68 _ _) 1 (by decide) kw_209 rfl rfl dX3_parse_40 ?_
        refine zt_icmp_lt hX dX3_parse_43 (tgt := 49) (by decide) (fun c9 => ?_) (fun c9 => ?_)
        · replace hf := z_pos hf c9
          refine zt_aload_n hX 0 dX3_parse_49 rfl rfl ?_
          refine zt_bipush hX dX3_parse_50 (v := (59 : Int32)) (by decide) ?_
          refine zt_calliV hX hY (av := [.int (59 : Int32)]) (c_X3_takeSign hf) dX3_parse_52 rfl kw_621 kw_623 kw_18 kw_66 kw_624 ⟨rfl, rfl⟩ hy_X3_takeSign ⟨by decide, by decide⟩ ⟨by decide, by decide⟩ (Nat.le_of_ble_eq_true rfl) (by decide) (zE_68 _ _) rfl rfl (fun r10 σ11 hf => ?_)
          refine zt_if_ne hX dX3_parse_55 (tgt := 63) (by decide) (fun c12 => ?_) (fun c12 => ?_)
          · replace hf := z_neg hf c12
            obtain ⟨y13, e13⟩ : ∃ y : Int32, y = (x2 + (1 : Int32)) := ⟨_, rfl⟩
            replace hf := hf y13 e13
            refine zt_iinc (L' := [(2, .int y13), (0, .ref (n0 + 68)), (1, .ref (n0 + 1))]) hX 2 dX3_parse_63 rfl (v := y13) (by rw [e13]; rfl) (by decide) rfl ?_
            refine zt_goto hX dX3_parse_66 (tgt := 12) (by decide) ?_
            exact zt_sub [1, 2, 0] rfl (ih12 _ _ hf)
          · replace hf := z_pos hf c12
            refine zt_aload_n hX 0 dX3_parse_58 rfl rfl ?_
            refine zt_get_X3 hX (by decide) (zE_68 _ _) 7 (by decide) kw_216 rfl rfl dX3_parse_59 ?_
            exact zt_iret hX hY dX3_parse_62 hf
        · replace hf := z_neg hf c9
          refine zt_ldc hX dX3_parse_46 kw_616 ?_
          exact zt_iret hX hY dX3_parse_48 hf
      · replace hf := z_pos hf c6
        refine zt_aload_n hX 0 dX3_parse_26 rfl rfl ?_
        refine zt_get_X3 hX (by decide) (zE_68 _ _) 7 (by decide) kw_216 rfl rfl dX3_parse_27 ?_
        exact zt_iret hX hY dX3_parse_30 hf
set_option maxHeartbeats 4000000 in
set_option maxRecDepth 100000 in
theorem c_X3_parse {l : Launch} {D : va_G} {cI cJ cM cS : ClassId} {n0 : Nat}  {σ : z_S} {Q : Int32 → z_S → Prop} (hf : w_X3_parse  σ Q) : z_ci l D cI cJ cM cS n0 yX3_parse cX3_parse 3 .int rm_X3_parse 0 0 [.ref (n0 + 68), .ref (n0 + 1)] σ Q := by
  refine z_ofi (by decide +kernel) (Nat.le_of_ble_eq_true rfl) (fun p e s m args below meth c hX hY => ?_)
  unfold w_X3_parse at hf
  refine zt_L (L' := [(0, .ref (n0 + 68)), (1, .ref (n0 + 1))]) rfl ?_
  refine zt_aload_n hX 0 dX3_parse_0 rfl rfl ?_
  refine zt_iconst hX dX3_parse_1 (v := (0 : Int32)) (by decide) ?_
  refine zt_puti_X3 hX (by decide) (zE_68 _ _) 6 (by decide) kw_215 rfl rfl (Nat.le_of_ble_eq_true rfl) rfl rfl dX3_parse_2 ?_
  refine zt_nms (fun σ1 d1 => ?_)
  replace hf := hf σ1 d1
  refine zt_aload_n hX 0 dX3_parse_5 rfl rfl ?_
  refine zt_iconst hX dX3_parse_6 (v := (0 : Int32)) (by decide) ?_
  refine zt_puti_X3 hX (by decide) (zE_68 _ _) 5 (by decide) kw_214 rfl rfl (Nat.le_of_ble_eq_true rfl) rfl rfl dX3_parse_7 ?_
  refine zt_nms (fun σ2 d2 => ?_)
  replace hf := hf σ2 d2
  refine zt_iconst hX dX3_parse_10 (v := (0 : Int32)) (by decide) ?_
  refine zt_istore_n (L' := [(2, .int (0 : Int32)), (0, .ref (n0 + 68)), (1, .ref (n0 + 1))]) hX dX3_parse_11 rfl (by decide) rfl ?_
  exact zt_sub [1, 2, 0] rfl (t_X3_parse_12 hX hY 400 _ _ hf)

theorem dX5_within_0 : decode cX5_within 0 = .ok (.iload_n 0, 1) := by decide +kernel
theorem dX5_within_1 : decode cX5_within 1 = .ok (.iload_n 1, 1) := by decide +kernel
theorem dX5_within_2 : decode cX5_within 2 = .ok (.if_icmp .lt 12, 3) := by decide +kernel
theorem dX5_within_5 : decode cX5_within 5 = .ok (.iload_n 0, 1) := by decide +kernel
theorem dX5_within_6 : decode cX5_within 6 = .ok (.iload_n 2, 1) := by decide +kernel
theorem dX5_within_7 : decode cX5_within 7 = .ok (.if_icmp .gt 7, 3) := by decide +kernel
theorem dX5_within_10 : decode cX5_within 10 = .ok (.iconst 1, 1) := by decide +kernel
theorem dX5_within_11 : decode cX5_within 11 = .ok (.goto 4, 3) := by decide +kernel
theorem dX5_within_14 : decode cX5_within 14 = .ok (.iconst 0, 1) := by decide +kernel
theorem dX5_within_15 : decode cX5_within 15 = .ok (.ireturn, 1) := by decide +kernel
abbrev rm_X5_within : Room := { frames := 0, cells := 0, slots := 0, locals := 0 }
theorem hy_X5_within : yX5_within.cls ≠ "java/lang/invoke/MethodHandle" ∧ yX5_within.cls ≠ "java/lang/invoke/VarHandle" ∧ (parseMethodDescriptor yX5_within.desc).map (fun d => d.parameters.length) = some 3 := by decide +kernel
def w_X5_within (a0 : Int32) (a1 : Int32) (a2 : Int32) (σ : z_S) (Q : Int32 → z_S → Prop) : Prop :=
  if a0 < a1 then (((0 : Int32) = 0 ∨ (0 : Int32) = 1) ∧ Q (0 : Int32) σ) else (if a2 < a0 then (((0 : Int32) = 0 ∨ (0 : Int32) = 1) ∧ Q (0 : Int32) σ) else (((1 : Int32) = 0 ∨ (1 : Int32) = 1) ∧ Q (1 : Int32) σ))
set_option maxHeartbeats 4000000 in
set_option maxRecDepth 100000 in
theorem c_X5_within {l : Launch} {D : va_G} {cI cJ cM cS : ClassId} {n0 : Nat} {a0 : Int32} {a1 : Int32} {a2 : Int32} {σ : z_S} {Q : Int32 → z_S → Prop} (hf : w_X5_within a0 a1 a2 σ Q) : z_ci l D cI cJ cM cS n0 yX5_within cX5_within 3 .boolean rm_X5_within 0 0 [.int a0, .int a1, .int a2] σ Q := by
  refine z_ofi (by decide +kernel) (Nat.le_of_ble_eq_true rfl) (fun p e s m args below meth c hX hY => ?_)
  unfold w_X5_within at hf
  refine zt_L (L' := [(0, .int a0), (1, .int a1), (2, .int a2)]) rfl ?_
  refine zt_iload_n hX 0 dX5_within_0 rfl rfl ?_
  refine zt_iload_n hX 1 dX5_within_1 rfl rfl ?_
  refine zt_icmp_lt hX dX5_within_2 (tgt := 14) (by decide) (fun c1 => ?_) (fun c1 => ?_)
  · replace hf := z_pos hf c1
    refine zt_iconst hX dX5_within_14 (v := (0 : Int32)) (by decide) ?_
    exact zt_zret hX hY dX5_within_15 hf
  · replace hf := z_neg hf c1
    refine zt_iload_n hX 0 dX5_within_5 rfl rfl ?_
    refine zt_iload_n hX 2 dX5_within_6 rfl rfl ?_
    refine zt_icmp_gt hX dX5_within_7 (tgt := 14) (by decide) (fun c2 => ?_) (fun c2 => ?_)
    · replace hf := z_pos hf c2
      refine zt_iconst hX dX5_within_14 (v := (0 : Int32)) (by decide) ?_
      exact zt_zret hX hY dX5_within_15 hf
    · replace hf := z_neg hf c2
      refine zt_iconst hX dX5_within_10 (v := (1 : Int32)) (by decide) ?_
      refine zt_goto hX dX5_within_11 (tgt := 15) (by decide) ?_
      exact zt_zret hX hY dX5_within_15 hf

theorem dX5_isBoundary_0 : decode cX5_isBoundary 0 = .ok (.iload_n 0, 1) := by decide +kernel
theorem dX5_isBoundary_1 : decode cX5_isBoundary 1 = .ok (.iconst 0, 1) := by decide +kernel
theorem dX5_isBoundary_2 : decode cX5_isBoundary 2 = .ok (.bipush 12, 2) := by decide +kernel
theorem dX5_isBoundary_4 : decode cX5_isBoundary 4 = .ok (.invokestatic 62, 3) := by decide +kernel
theorem dX5_isBoundary_7 : decode cX5_isBoundary 7 = .ok (.ireturn, 1) := by decide +kernel
abbrev rm_X5_isBoundary : Room := { frames := 1, cells := 0, slots := 0, locals := 22 }
theorem hy_X5_isBoundary : yX5_isBoundary.cls ≠ "java/lang/invoke/MethodHandle" ∧ yX5_isBoundary.cls ≠ "java/lang/invoke/VarHandle" ∧ (parseMethodDescriptor yX5_isBoundary.desc).map (fun d => d.parameters.length) = some 1 := by decide +kernel
def w_X5_isBoundary (a0 : Int32) (σ : z_S) (Q : Int32 → z_S → Prop) : Prop :=
  w_X5_within a0 (0 : Int32) (12 : Int32) σ (fun r1 σ2 => (r1 = 0 ∨ r1 = 1) ∧ Q r1 σ2)
set_option maxHeartbeats 4000000 in
set_option maxRecDepth 100000 in
theorem c_X5_isBoundary {l : Launch} {D : va_G} {cI cJ cM cS : ClassId} {n0 : Nat} {a0 : Int32} {σ : z_S} {Q : Int32 → z_S → Prop} (hf : w_X5_isBoundary a0 σ Q) : z_ci l D cI cJ cM cS n0 yX5_isBoundary cX5_isBoundary 1 .boolean rm_X5_isBoundary 0 0 [.int a0] σ Q := by
  refine z_ofi (by decide +kernel) (Nat.le_of_ble_eq_true rfl) (fun p e s m args below meth c hX hY => ?_)
  unfold w_X5_isBoundary at hf
  refine zt_L (L' := [(0, .int a0)]) rfl ?_
  refine zt_iload_n hX 0 dX5_isBoundary_0 rfl rfl ?_
  refine zt_iconst hX dX5_isBoundary_1 (v := (0 : Int32)) (by decide) ?_
  refine zt_bipush hX dX5_isBoundary_2 (v := (12 : Int32)) (by decide) ?_
  refine zt_calliS hX hY (av := [.int a0, .int (0 : Int32), .int (12 : Int32)]) (c_X5_within hf) dX5_isBoundary_4 rfl kw_290 kw_291 kw_61 kw_292 ⟨rfl, rfl⟩ hy_X5_within ⟨by decide, by decide⟩ ⟨by decide, by decide⟩ (Nat.le_of_ble_eq_true rfl) (fun r1 σ2 hf => ?_)
  exact zt_zret hX hY dX5_isBoundary_7 hf

theorem dX3_apply_0 : decode cX3_apply 0 = .ok (.iconst 0, 1) := by decide +kernel
theorem dX3_apply_1 : decode cX3_apply 1 = .ok (.istore_n 2, 1) := by decide +kernel
theorem dX3_apply_2 : decode cX3_apply 2 = .ok (.iconst 0, 1) := by decide +kernel
theorem dX3_apply_3 : decode cX3_apply 3 = .ok (.istore_n 3, 1) := by decide +kernel
theorem dX3_apply_4 : decode cX3_apply 4 = .ok (.iload_n 3, 1) := by decide +kernel
theorem dX3_apply_5 : decode cX3_apply 5 = .ok (.aload_n 0, 1) := by decide +kernel
theorem dX3_apply_6 : decode cX3_apply 6 = .ok (.getfield 28, 3) := by decide +kernel
theorem dX3_apply_9 : decode cX3_apply 9 = .ok (.if_icmp .ge 72, 3) := by decide +kernel
theorem dX3_apply_12 : decode cX3_apply 12 = .ok (.aload_n 0, 1) := by decide +kernel
theorem dX3_apply_13 : decode cX3_apply 13 = .ok (.getfield 15, 3) := by decide +kernel
theorem dX3_apply_16 : decode cX3_apply 16 = .ok (.iload_n 3, 1) := by decide +kernel
theorem dX3_apply_17 : decode cX3_apply 17 = .ok (.iaload, 1) := by decide +kernel
theorem dX3_apply_18 : decode cX3_apply 18 = .ok (.istore 4, 2) := by decide +kernel
theorem dX3_apply_20 : decode cX3_apply 20 = .ok (.aload_n 0, 1) := by decide +kernel
theorem dX3_apply_21 : decode cX3_apply 21 = .ok (.getfield 18, 3) := by decide +kernel
theorem dX3_apply_24 : decode cX3_apply 24 = .ok (.iload_n 3, 1) := by decide +kernel
theorem dX3_apply_25 : decode cX3_apply 25 = .ok (.iaload, 1) := by decide +kernel
theorem dX3_apply_26 : decode cX3_apply 26 = .ok (.istore 5, 2) := by decide +kernel
theorem dX3_apply_28 : decode cX3_apply 28 = .ok (.aload_n 1, 1) := by decide +kernel
theorem dX3_apply_29 : decode cX3_apply 29 = .ok (.iload 4, 2) := by decide +kernel
theorem dX3_apply_31 : decode cX3_apply 31 = .ok (.invokevirtual 58, 3) := by decide +kernel
theorem dX3_apply_34 : decode cX3_apply 34 = .ok (.ifCond .eq 27, 3) := by decide +kernel
theorem dX3_apply_37 : decode cX3_apply 37 = .ok (.iload 5, 2) := by decide +kernel
theorem dX3_apply_39 : decode cX3_apply 39 = .ok (.invokestatic 75, 3) := by decide +kernel
theorem dX3_apply_42 : decode cX3_apply 42 = .ok (.ifCond .eq 19, 3) := by decide +kernel
theorem dX3_apply_45 : decode cX3_apply 45 = .ok (.aload_n 1, 1) := by decide +kernel
theorem dX3_apply_46 : decode cX3_apply 46 = .ok (.getfield 78, 3) := by decide +kernel
theorem dX3_apply_49 : decode cX3_apply 49 = .ok (.iload 4, 2) := by decide +kernel
theorem dX3_apply_51 : decode cX3_apply 51 = .ok (.aaload, 1) := by decide +kernel
theorem dX3_apply_52 : decode cX3_apply 52 = .ok (.iload 5, 2) := by decide +kernel
theorem dX3_apply_54 : decode cX3_apply 54 = .ok (.aload_n 0, 1) := by decide +kernel
theorem dX3_apply_55 : decode cX3_apply 55 = .ok (.getfield 21, 3) := by decide +kernel
theorem dX3_apply_58 : decode cX3_apply 58 = .ok (.iload_n 3, 1) := by decide +kernel
theorem dX3_apply_59 : decode cX3_apply 59 = .ok (.iaload, 1) := by decide +kernel
theorem dX3_apply_60 : decode cX3_apply 60 = .ok (.iastore, 1) := by decide +kernel
theorem dX3_apply_61 : decode cX3_apply 61 = .ok (.aload_n 0, 1) := by decide +kernel
theorem dX3_apply_62 : decode cX3_apply 62 = .ok (.getfield 21, 3) := by decide +kernel
theorem dX3_apply_65 : decode cX3_apply 65 = .ok (.iload_n 3, 1) := by decide +kernel
theorem dX3_apply_66 : decode cX3_apply 66 = .ok (.iaload, 1) := by decide +kernel
theorem dX3_apply_67 : decode cX3_apply 67 = .ok (.ldc 44, 2) := by decide +kernel
theorem dX3_apply_69 : decode cX3_apply 69 = .ok (.if_icmp .eq 6, 3) := by decide +kernel
theorem dX3_apply_72 : decode cX3_apply 72 = .ok (.iinc 2 1, 3) := by decide +kernel
theorem dX3_apply_75 : decode cX3_apply 75 = .ok (.iinc 3 1, 3) := by decide +kernel
theorem dX3_apply_78 : decode cX3_apply 78 = .ok (.goto (-74), 3) := by decide +kernel
theorem dX3_apply_81 : decode cX3_apply 81 = .ok (.iload_n 2, 1) := by decide +kernel
theorem dX3_apply_82 : decode cX3_apply 82 = .ok (.ireturn, 1) := by decide +kernel
abbrev rm_X3_apply : Room := { frames := 2, cells := 0, slots := 0, locals := 42 }
theorem hy_X3_apply : yX3_apply.cls ≠ "java/lang/invoke/MethodHandle" ∧ yX3_apply.cls ≠ "java/lang/invoke/VarHandle" ∧ (parseMethodDescriptor yX3_apply.desc).map (fun d => d.parameters.length) = some 1 := by decide +kernel
def w_X3_apply_75 (k4 : Int32 → Int32 → z_S → Prop) (Q : Int32 → z_S → Prop) (x2 : Int32) (x3 : Int32) (σ : z_S) : Prop :=
  ∀ y11 : Int32, y11 = (x3 + (1 : Int32)) → k4 x2 y11 σ
def w_X3_apply_61 (k4 : Int32 → Int32 → z_S → Prop) (Q : Int32 → z_S → Prop) (x2 : Int32) (x3 : Int32) (σ : z_S) : Prop :=
  vp_in x3 24 ∧ if (zg_i σ 72 x3.toNatClampNeg) = (-2000000000 : Int32) then (w_X3_apply_75 k4 Q x2 x3 σ) else (∀ y12 : Int32, y12 = (x2 + (1 : Int32)) → w_X3_apply_75 k4 Q y12 x3 σ)
def wb_X3_apply_4  (Q : Int32 → z_S → Prop) (k4 : Int32 → Int32 → z_S → Prop) (x2 : Int32) (x3 : Int32) (σ : z_S) : Prop :=
  if (zg_i σ 68 5) ≤ x3 then (Q x2 σ) else (vp_in x3 24 ∧ ∀ y3 : Int32, y3 = (zg_i σ 70 x3.toNatClampNeg) → vp_in x3 24 ∧ ∀ y5 : Int32, y5 = (zg_i σ 71 x3.toNatClampNeg) → w_X4_has y3 σ (fun r6 σ7 => if r6 = 0 then (w_X3_apply_61 k4 Q x2 x3 σ7) else (w_X5_isBoundary y5 σ7 (fun r13 σ14 => if r13 = 0 then (w_X3_apply_61 k4 Q x2 x3 σ14) else (vp_in y3 10 ∧ vp_in x3 24 ∧ vp_in y5 13 ∧ ∀ σ19 : z_S, σ19 = zs_i σ14 (8 + y3.toNatClampNeg) y5.toNatClampNeg (zg_i σ14 72 x3.toNatClampNeg) → w_X3_apply_61 k4 Q x2 x3 σ19)))))
def w_X3_apply_4  (Q : Int32 → z_S → Prop) : Nat → Int32 → Int32 → z_S → Prop
  | 0 => fun _ _ _ => False
  | n + 1 => wb_X3_apply_4  Q (w_X3_apply_4  Q n)
def w_X3_apply  (σ : z_S) (Q : Int32 → z_S → Prop) : Prop :=
  w_X3_apply_4 Q 400 (0 : Int32) (0 : Int32) σ
set_option maxHeartbeats 4000000 in
set_option maxRecDepth 100000 in
theorem t_X3_apply_75 {l : Launch} {D : va_G} {cI cJ cM cS : ClassId} {n0 : Nat} {p : Program} {e : Env} {s : State} {m : MethodId} {args : Array Value} {below : List Frame} {meth : Method} {c : Code} {k4 : Int32 → Int32 → z_S → Prop} {Q : Int32 → z_S → Prop} (hX : z_X D cI cJ cM cS p s m args c cX3_apply 6 yX3_apply.cls) (hY : z_Y s meth (some .int)) (hk4 : ∀ (x2 : Int32) (x3 : Int32) (σ : z_S), k4 x2 x3 σ → z_t D cI cJ cM cS n0 p l e rm_X3_apply s m args below meth c 6 (MQ below (va_Qi Q (fun u t => z_Bq D cI cJ cM cS n0 u t) (z_Ab n0)) args s 0 0 (z_Ab n0)) 0 0 4 [(0, .ref (n0 + 68)), (1, .ref (n0 + 1)), (2, .int x2), (3, .int x3)] [] σ) (x2 : Int32) (x3 : Int32) (σ : z_S) (hf : w_X3_apply_75 k4 Q x2 x3 σ) : z_t D cI cJ cM cS n0 p l e rm_X3_apply s m args below meth c 6 (MQ below (va_Qi Q (fun u t => z_Bq D cI cJ cM cS n0 u t) (z_Ab n0)) args s 0 0 (z_Ab n0)) 0 0 75 [(0, .ref (n0 + 68)), (1, .ref (n0 + 1)), (2, .int x2), (3, .int x3)] [] σ := by
  unfold w_X3_apply_75 at hf
  obtain ⟨y11, e11⟩ : ∃ y : Int32, y = (x3 + (1 : Int32)) := ⟨_, rfl⟩
  replace hf := hf y11 e11
  refine zt_iinc (L' := [(3, .int y11), (0, .ref (n0 + 68)), (1, .ref (n0 + 1)), (2, .int x2)]) hX 3 dX3_apply_75 rfl (v := y11) (by rw [e11]; rfl) (by decide) rfl ?_
  refine zt_goto hX dX3_apply_78 (tgt := 4) (by decide) ?_
  exact zt_sub [1, 2, 3, 0] rfl (hk4 _ _ _ hf)
set_option maxHeartbeats 4000000 in
set_option maxRecDepth 100000 in
theorem t_X3_apply_61 {l : Launch} {D : va_G} {cI cJ cM cS : ClassId} {n0 : Nat} {p : Program} {e : Env} {s : State} {m : MethodId} {args : Array Value} {below : List Frame} {meth : Method} {c : Code} {k4 : Int32 → Int32 → z_S → Prop} {Q : Int32 → z_S → Prop} (hX : z_X D cI cJ cM cS p s m args c cX3_apply 6 yX3_apply.cls) (hY : z_Y s meth (some .int)) (hk4 : ∀ (x2 : Int32) (x3 : Int32) (σ : z_S), k4 x2 x3 σ → z_t D cI cJ cM cS n0 p l e rm_X3_apply s m args below meth c 6 (MQ below (va_Qi Q (fun u t => z_Bq D cI cJ cM cS n0 u t) (z_Ab n0)) args s 0 0 (z_Ab n0)) 0 0 4 [(0, .ref (n0 + 68)), (1, .ref (n0 + 1)), (2, .int x2), (3, .int x3)] [] σ) (x2 : Int32) (x3 : Int32) (σ : z_S) (hf : w_X3_apply_61 k4 Q x2 x3 σ) : z_t D cI cJ cM cS n0 p l e rm_X3_apply s m args below meth c 6 (MQ below (va_Qi Q (fun u t => z_Bq D cI cJ cM cS n0 u t) (z_Ab n0)) args s 0 0 (z_Ab n0)) 0 0 61 [(0, .ref (n0 + 68)), (1, .ref (n0 + 1)), (2, .int x2), (3, .int x3)] [] σ := by
  unfold w_X3_apply_61 at hf
  refine zt_aload_n hX 0 dX3_apply_61 rfl rfl ?_
  refine zt_get_X3 hX (by decide) (zE_68 _ _) 4 (by decide) kw_213 rfl rfl dX3_apply_62 ?_
  refine zt_iload_n hX 3 dX3_apply_65 rfl rfl ?_
  obtain ⟨h9, hf⟩ := hf
  refine zt_iaload hX dX3_apply_66 (by decide) rfl h9 ?_
  refine zt_ldc hX dX3_apply_67 kw_616 ?_
  refine zt_icmp_eq hX dX3_apply_69 (tgt := 75) (by decide) (fun c10 => ?_) (fun c10 => ?_)
  · replace hf := z_pos hf c10
    exact zt_sub [0, 1, 2, 3] rfl (t_X3_apply_75 hX hY hk4 _ _ _ hf)
  · replace hf := z_neg hf c10
    obtain ⟨y12, e12⟩ : ∃ y : Int32, y = (x2 + (1 : Int32)) := ⟨_, rfl⟩
    replace hf := hf y12 e12
    refine zt_iinc (L' := [(2, .int y12), (0, .ref (n0 + 68)), (1, .ref (n0 + 1)), (3, .int x3)]) hX 2 dX3_apply_72 rfl (v := y12) (by rw [e12]; rfl) (by decide) rfl ?_
    exact zt_sub [1, 2, 0, 3] rfl (t_X3_apply_75 hX hY hk4 _ _ _ hf)
set_option maxHeartbeats 4000000 in
set_option maxRecDepth 100000 in
theorem t_X3_apply_4 {l : Launch} {D : va_G} {cI cJ cM cS : ClassId} {n0 : Nat} {p : Program} {e : Env} {s : State} {m : MethodId} {args : Array Value} {below : List Frame} {meth : Method} {c : Code}  {Q : Int32 → z_S → Prop} (hX : z_X D cI cJ cM cS p s m args c cX3_apply 6 yX3_apply.cls) (hY : z_Y s meth (some .int))  : ∀ (n : Nat) (x2 : Int32) (x3 : Int32) (σ : z_S), w_X3_apply_4  Q n x2 x3 σ → z_t D cI cJ cM cS n0 p l e rm_X3_apply s m args below meth c 6 (MQ below (va_Qi Q (fun u t => z_Bq D cI cJ cM cS n0 u t) (z_Ab n0)) args s 0 0 (z_Ab n0)) 0 0 4 [(0, .ref (n0 + 68)), (1, .ref (n0 + 1)), (2, .int x2), (3, .int x3)] [] σ := by
  intro n
  induction n with
  | zero => intro _ _ _ hf; exact hf.elim
  | succ n ih4 =>
    intro x2 x3 σ hf
    have hf : wb_X3_apply_4  Q (w_X3_apply_4  Q n) x2 x3 σ := hf
    unfold wb_X3_apply_4 at hf
    refine zt_iload_n hX 3 dX3_apply_4 rfl rfl ?_
    refine zt_aload_n hX 0 dX3_apply_5 rfl rfl ?_
    refine zt_get_X3 hX (by decide) (zE_68 _ _) 5 (by decide) kw_214 rfl rfl dX3_apply_6 ?_
    refine zt_icmp_ge hX dX3_apply_9 (tgt := 81) (by decide) (fun c1 => ?_) (fun c1 => ?_)
    · replace hf := z_pos hf c1
      refine zt_iload_n hX 2 dX3_apply_81 rfl rfl ?_
      exact zt_iret hX hY dX3_apply_82 hf
    · replace hf := z_neg hf c1
      refine zt_aload_n hX 0 dX3_apply_12 rfl rfl ?_
      refine zt_get_X3 hX (by decide) (zE_68 _ _) 2 (by decide) kw_211 rfl rfl dX3_apply_13 ?_
      refine zt_iload_n hX 3 dX3_apply_16 rfl rfl ?_
      obtain ⟨h2, hf⟩ := hf
      refine zt_iaload hX dX3_apply_17 (by decide) rfl h2 ?_
      refine zt_nmi (fun y3 e3 => ?_)
      replace hf := hf y3 e3
      refine zt_istore (L' := [(4, .int y3), (0, .ref (n0 + 68)), (1, .ref (n0 + 1)), (2, .int x2), (3, .int x3)]) hX dX3_apply_18 (by decide) rfl ?_
      refine zt_aload_n hX 1 dX3_apply_20 rfl rfl ?_
      refine zt_get_X3 hX (by decide) (zE_68 _ _) 3 (by decide) kw_212 rfl rfl dX3_apply_21 ?_
      refine zt_iload_n hX 4 dX3_apply_24 rfl rfl ?_
      obtain ⟨h4, hf⟩ := hf
      refine zt_iaload hX dX3_apply_25 (by decide) rfl h4 ?_
      refine zt_nmi (fun y5 e5 => ?_)
      replace hf := hf y5 e5
      refine zt_istore (L' := [(5, .int y5), (4, .int y3), (0, .ref (n0 + 68)), (1, .ref (n0 + 1)), (2, .int x2), (3, .int x3)]) hX dX3_apply_26 (by decide) rfl ?_
      refine zt_aload_n hX 3 dX3_apply_28 rfl rfl ?_
      refine zt_iload hX 1 dX3_apply_29 rfl ?_
      refine zt_calliV hX hY (av := [.int y3]) (c_X4_has hf) dX3_apply_31 rfl kw_620 kw_255 kw_256 kw_62 kw_257 ⟨rfl, rfl⟩ hy_X4_has ⟨by decide, by decide⟩ ⟨by decide, by decide⟩ (Nat.le_of_ble_eq_true rfl) (by decide) (zE_1 _ _) rfl rfl (fun r6 σ7 hf => ?_)
      refine zt_if_eq hX dX3_apply_34 (tgt := 61) (by decide) (fun c8 => ?_) (fun c8 => ?_)
      · replace hf := z_pos hf c8
        exact zt_sub [2, 3, 4, 5] rfl (t_X3_apply_61 hX hY ih4 _ _ _ hf)
      · replace hf := z_neg hf c8
        refine zt_iload hX 0 dX3_apply_37 rfl ?_
        refine zt_callNest hX hY (c_X5_isBoundary hf) rfl dX3_apply_39 kw_335 kw_61 kw_336 ⟨rfl, rfl⟩ hy_X5_isBoundary ⟨by decide, by decide⟩ ⟨by decide, by decide⟩ (Nat.le_of_ble_eq_true rfl) (fun r13 σ14 hf => ?_)
        refine zt_if_eq hX dX3_apply_42 (tgt := 61) (by decide) (fun c15 => ?_) (fun c15 => ?_)
        · replace hf := z_pos hf c15
          exact zt_sub [2, 3, 4, 5] rfl (t_X3_apply_61 hX hY ih4 _ _ _ hf)
        · replace hf := z_neg hf c15
          refine zt_aload_n hX 3 dX3_apply_45 rfl rfl ?_
          refine zt_get_X4 hX (by decide) (zE_1 _ _) 9 (by decide) kw_116 rfl rfl dX3_apply_46 ?_
          refine zt_iload hX 1 dX3_apply_49 rfl ?_
          obtain ⟨h16, hf⟩ := hf
          refine zt_aaloadM hX dX3_apply_51 (by decide) rfl (k1 := 8) rfl h16 ?_
          refine zt_iload hX 0 dX3_apply_52 rfl ?_
          refine zt_aload_n hX 2 dX3_apply_54 rfl rfl ?_
          refine zt_get_X3 hX (by decide) (zE_68 _ _) 4 (by decide) kw_213 rfl rfl dX3_apply_55 ?_
          refine zt_iload_n hX 5 dX3_apply_58 rfl rfl ?_
          obtain ⟨h17, hf⟩ := hf
          refine zt_iaload hX dX3_apply_59 (by decide) rfl h17 ?_
          obtain ⟨h18, hf⟩ := hf
          refine zt_iastore hX dX3_apply_60 (z_row8 (z_lt h16)) (z_sh8 (z_lt h16)) h18 ?_
          refine zt_nms (fun σ19 d19 => ?_)
          replace hf := hf σ19 d19
          exact zt_sub [2, 3, 4, 5] rfl (t_X3_apply_61 hX hY ih4 _ _ _ hf)
set_option maxHeartbeats 4000000 in
set_option maxRecDepth 100000 in
theorem c_X3_apply {l : Launch} {D : va_G} {cI cJ cM cS : ClassId} {n0 : Nat}  {σ : z_S} {Q : Int32 → z_S → Prop} (hf : w_X3_apply  σ Q) : z_ci l D cI cJ cM cS n0 yX3_apply cX3_apply 6 .int rm_X3_apply 0 0 [.ref (n0 + 68), .ref (n0 + 1)] σ Q := by
  refine z_ofi (by decide +kernel) (Nat.le_of_ble_eq_true rfl) (fun p e s m args below meth c hX hY => ?_)
  unfold w_X3_apply at hf
  refine zt_L (L' := [(0, .ref (n0 + 68)), (1, .ref (n0 + 1))]) rfl ?_
  refine zt_iconst hX dX3_apply_0 (v := (0 : Int32)) (by decide) ?_
  refine zt_istore_n (L' := [(2, .int (0 : Int32)), (0, .ref (n0 + 68)), (1, .ref (n0 + 1))]) hX dX3_apply_1 rfl (by decide) rfl ?_
  refine zt_iconst hX dX3_apply_2 (v := (0 : Int32)) (by decide) ?_
  refine zt_istore_n (L' := [(3, .int (0 : Int32)), (2, .int (0 : Int32)), (0, .ref (n0 + 68)), (1, .ref (n0 + 1))]) hX dX3_apply_3 rfl (by decide) rfl ?_
  exact zt_sub [2, 3, 1, 0] rfl (t_X3_apply_4 hX hY 400 _ _ _ hf)

theorem dX4_hasRevision_0 : decode cX4_hasRevision 0 = .ok (.iload_n 1, 1) := by decide +kernel
theorem dX4_hasRevision_1 : decode cX4_hasRevision 1 = .ok (.ifCond .lt 15, 3) := by decide +kernel
theorem dX4_hasRevision_4 : decode cX4_hasRevision 4 = .ok (.iload_n 1, 1) := by decide +kernel
theorem dX4_hasRevision_5 : decode cX4_hasRevision 5 = .ok (.aload_n 0, 1) := by decide +kernel
theorem dX4_hasRevision_6 : decode cX4_hasRevision 6 = .ok (.getfield 45, 3) := by decide +kernel
theorem dX4_hasRevision_9 : decode cX4_hasRevision 9 = .ok (.if_icmp .ge 7, 3) := by decide +kernel
theorem dX4_hasRevision_12 : decode cX4_hasRevision 12 = .ok (.iconst 1, 1) := by decide +kernel
theorem dX4_hasRevision_13 : decode cX4_hasRevision 13 = .ok (.goto 4, 3) := by decide +kernel
theorem dX4_hasRevision_16 : decode cX4_hasRevision 16 = .ok (.iconst 0, 1) := by decide +kernel
theorem dX4_hasRevision_17 : decode cX4_hasRevision 17 = .ok (.ireturn, 1) := by decide +kernel
abbrev rm_X4_hasRevision : Room := { frames := 0, cells := 0, slots := 0, locals := 0 }
theorem hy_X4_hasRevision : yX4_hasRevision.cls ≠ "java/lang/invoke/MethodHandle" ∧ yX4_hasRevision.cls ≠ "java/lang/invoke/VarHandle" ∧ (parseMethodDescriptor yX4_hasRevision.desc).map (fun d => d.parameters.length) = some 1 := by decide +kernel
def w_X4_hasRevision (a1 : Int32) (σ : z_S) (Q : Int32 → z_S → Prop) : Prop :=
  if a1 < 0 then (((0 : Int32) = 0 ∨ (0 : Int32) = 1) ∧ Q (0 : Int32) σ) else (if (zg_i σ 1 3) ≤ a1 then (((0 : Int32) = 0 ∨ (0 : Int32) = 1) ∧ Q (0 : Int32) σ) else (((1 : Int32) = 0 ∨ (1 : Int32) = 1) ∧ Q (1 : Int32) σ))
set_option maxHeartbeats 4000000 in
set_option maxRecDepth 100000 in
theorem c_X4_hasRevision {l : Launch} {D : va_G} {cI cJ cM cS : ClassId} {n0 : Nat} {a1 : Int32} {σ : z_S} {Q : Int32 → z_S → Prop} (hf : w_X4_hasRevision a1 σ Q) : z_ci l D cI cJ cM cS n0 yX4_hasRevision cX4_hasRevision 2 .boolean rm_X4_hasRevision 0 0 [.ref (n0 + 1), .int a1] σ Q := by
  refine z_ofi (by decide +kernel) (Nat.le_of_ble_eq_true rfl) (fun p e s m args below meth c hX hY => ?_)
  unfold w_X4_hasRevision at hf
  refine zt_L (L' := [(0, .ref (n0 + 1)), (1, .int a1)]) rfl ?_
  refine zt_iload_n hX 1 dX4_hasRevision_0 rfl rfl ?_
  refine zt_if_lt hX dX4_hasRevision_1 (tgt := 16) (by decide) (fun c1 => ?_) (fun c1 => ?_)
  · replace hf := z_pos hf c1
    refine zt_iconst hX dX4_hasRevision_16 (v := (0 : Int32)) (by decide) ?_
    exact zt_zret hX hY dX4_hasRevision_17 hf
  · replace hf := z_neg hf c1
    refine zt_iload_n hX 1 dX4_hasRevision_4 rfl rfl ?_
    refine zt_aload_n hX 0 dX4_hasRevision_5 rfl rfl ?_
    refine zt_get_X4 hX (by decide) (zE_1 _ _) 3 (by decide) kw_97 rfl rfl dX4_hasRevision_6 ?_
    refine zt_icmp_ge hX dX4_hasRevision_9 (tgt := 16) (by decide) (fun c2 => ?_) (fun c2 => ?_)
    · replace hf := z_pos hf c2
      refine zt_iconst hX dX4_hasRevision_16 (v := (0 : Int32)) (by decide) ?_
      exact zt_zret hX hY dX4_hasRevision_17 hf
    · replace hf := z_neg hf c2
      refine zt_iconst hX dX4_hasRevision_12 (v := (1 : Int32)) (by decide) ?_
      refine zt_goto hX dX4_hasRevision_13 (tgt := 17) (by decide) ?_
      exact zt_zret hX hY dX4_hasRevision_17 hf

theorem dX4_forgetReadings_0 : decode cX4_forgetReadings 0 = .ok (.iconst 0, 1) := by decide +kernel
theorem dX4_forgetReadings_1 : decode cX4_forgetReadings 1 = .ok (.istore_n 2, 1) := by decide +kernel
theorem dX4_forgetReadings_2 : decode cX4_forgetReadings 2 = .ok (.iload_n 2, 1) := by decide +kernel
theorem dX4_forgetReadings_3 : decode cX4_forgetReadings 3 = .ok (.bipush 13, 2) := by decide +kernel
theorem dX4_forgetReadings_5 : decode cX4_forgetReadings 5 = .ok (.if_icmp .ge 19, 3) := by decide +kernel
theorem dX4_forgetReadings_8 : decode cX4_forgetReadings 8 = .ok (.aload_n 0, 1) := by decide +kernel
theorem dX4_forgetReadings_9 : decode cX4_forgetReadings 9 = .ok (.getfield 36, 3) := by decide +kernel
theorem dX4_forgetReadings_12 : decode cX4_forgetReadings 12 = .ok (.iload_n 1, 1) := by decide +kernel
theorem dX4_forgetReadings_13 : decode cX4_forgetReadings 13 = .ok (.aaload, 1) := by decide +kernel
theorem dX4_forgetReadings_14 : decode cX4_forgetReadings 14 = .ok (.iload_n 2, 1) := by decide +kernel
theorem dX4_forgetReadings_15 : decode cX4_forgetReadings 15 = .ok (.ldc 55, 2) := by decide +kernel
theorem dX4_forgetReadings_17 : decode cX4_forgetReadings 17 = .ok (.iastore, 1) := by decide +kernel
theorem dX4_forgetReadings_18 : decode cX4_forgetReadings 18 = .ok (.iinc 2 1, 3) := by decide +kernel
theorem dX4_forgetReadings_21 : decode cX4_forgetReadings 21 = .ok (.goto (-19), 3) := by decide +kernel
theorem dX4_forgetReadings_24 : decode cX4_forgetReadings 24 = .ok (.return_, 1) := by decide +kernel
abbrev rm_X4_forgetReadings : Room := { frames := 0, cells := 0, slots := 0, locals := 0 }
theorem hy_X4_forgetReadings : yX4_forgetReadings.cls ≠ "java/lang/invoke/MethodHandle" ∧ yX4_forgetReadings.cls ≠ "java/lang/invoke/VarHandle" ∧ (parseMethodDescriptor yX4_forgetReadings.desc).map (fun d => d.parameters.length) = some 1 := by decide +kernel
def wb_X4_forgetReadings_2  (Q : z_S → Prop) (k2 : Int32 → Int32 → z_S → Prop) (x1 : Int32) (x2 : Int32) (σ : z_S) : Prop :=
  if (13 : Int32) ≤ x2 then (Q σ) else (vp_in x1 10 ∧ vp_in x2 13 ∧ ∀ σ4 : z_S, σ4 = zs_i σ (8 + x1.toNatClampNeg) x2.toNatClampNeg (-2000000000 : Int32) → ∀ y5 : Int32, y5 = (x2 + (1 : Int32)) → k2 x1 y5 σ4)
def w_X4_forgetReadings_2  (Q : z_S → Prop) : Nat → Int32 → Int32 → z_S → Prop
  | 0 => fun _ _ _ => False
  | n + 1 => wb_X4_forgetReadings_2  Q (w_X4_forgetReadings_2  Q n)
def w_X4_forgetReadings (a1 : Int32) (σ : z_S) (Q : z_S → Prop) : Prop :=
  w_X4_forgetReadings_2 Q 400 a1 (0 : Int32) σ
set_option maxHeartbeats 4000000 in
set_option maxRecDepth 100000 in
theorem t_X4_forgetReadings_2 {l : Launch} {D : va_G} {cI cJ cM cS : ClassId} {n0 : Nat} {p : Program} {e : Env} {s : State} {m : MethodId} {args : Array Value} {below : List Frame} {meth : Method} {c : Code}  {Q : z_S → Prop} (hX : z_X D cI cJ cM cS p s m args c cX4_forgetReadings 3 yX4_forgetReadings.cls) (hY : z_Y s meth none)  : ∀ (n : Nat) (x1 : Int32) (x2 : Int32) (σ : z_S), w_X4_forgetReadings_2  Q n x1 x2 σ → z_t D cI cJ cM cS n0 p l e rm_X4_forgetReadings s m args below meth c 3 (MQ below (va_Qv Q (fun u t => z_Bq D cI cJ cM cS n0 u t) (z_Ab n0)) args s 0 0 (z_Ab n0)) 0 0 2 [(0, .ref (n0 + 1)), (1, .int x1), (2, .int x2)] [] σ := by
  intro n
  induction n with
  | zero => intro _ _ _ hf; exact hf.elim
  | succ n ih2 =>
    intro x1 x2 σ hf
    have hf : wb_X4_forgetReadings_2  Q (w_X4_forgetReadings_2  Q n) x1 x2 σ := hf
    unfold wb_X4_forgetReadings_2 at hf
    refine zt_iload_n hX 2 dX4_forgetReadings_2 rfl rfl ?_
    refine zt_bipush hX dX4_forgetReadings_3 (v := (13 : Int32)) (by decide) ?_
    refine zt_icmp_ge hX dX4_forgetReadings_5 (tgt := 24) (by decide) (fun c1 => ?_) (fun c1 => ?_)
    · replace hf := z_pos hf c1
      exact zt_vret hX hY dX4_forgetReadings_24 hf
    · replace hf := z_neg hf c1
      refine zt_aload_n hX 0 dX4_forgetReadings_8 rfl rfl ?_
      refine zt_get_X4 hX (by decide) (zE_1 _ _) 9 (by decide) kw_114 rfl rfl dX4_forgetReadings_9 ?_
      refine zt_iload_n hX 1 dX4_forgetReadings_12 rfl rfl ?_
      obtain ⟨h2, hf⟩ := hf
      refine zt_aaloadM hX dX4_forgetReadings_13 (by decide) rfl (k1 := 8) rfl h2 ?_
      refine zt_iload_n hX 2 dX4_forgetReadings_14 rfl rfl ?_
      refine zt_ldc hX dX4_forgetReadings_15 kw_281 ?_
      obtain ⟨h3, hf⟩ := hf
      refine zt_iastore hX dX4_forgetReadings_17 (z_row8 (z_lt h2)) (z_sh8 (z_lt h2)) h3 ?_
      refine zt_nms (fun σ4 d4 => ?_)
      replace hf := hf σ4 d4
      obtain ⟨y5, e5⟩ : ∃ y : Int32, y = (x2 + (1 : Int32)) := ⟨_, rfl⟩
      replace hf := hf y5 e5
      refine zt_iinc (L' := [(2, .int y5), (0, .ref (n0 + 1)), (1, .int x1)]) hX 2 dX4_forgetReadings_18 rfl (v := y5) (by rw [e5]; rfl) (by decide) rfl ?_
      refine zt_goto hX dX4_forgetReadings_21 (tgt := 2) (by decide) ?_
      exact zt_sub [1, 2, 0] rfl (ih2 _ _ _ hf)
set_option maxHeartbeats 4000000 in
set_option maxRecDepth 100000 in
theorem c_X4_forgetReadings {l : Launch} {D : va_G} {cI cJ cM cS : ClassId} {n0 : Nat} {a1 : Int32} {σ : z_S} {Q : z_S → Prop} (hf : w_X4_forgetReadings a1 σ Q) : z_cv l D cI cJ cM cS n0 yX4_forgetReadings cX4_forgetReadings 3 rm_X4_forgetReadings 0 0 [.ref (n0 + 1), .int a1] σ Q := by
  refine z_ofv (by decide +kernel) (Nat.le_of_ble_eq_true rfl) (fun p e s m args below meth c hX hY => ?_)
  unfold w_X4_forgetReadings at hf
  refine zt_L (L' := [(0, .ref (n0 + 1)), (1, .int a1)]) rfl ?_
  refine zt_iconst hX dX4_forgetReadings_0 (v := (0 : Int32)) (by decide) ?_
  refine zt_istore_n (L' := [(2, .int (0 : Int32)), (0, .ref (n0 + 1)), (1, .int a1)]) hX dX4_forgetReadings_1 rfl (by decide) rfl ?_
  exact zt_sub [1, 2, 0] rfl (t_X4_forgetReadings_2 hX hY 400 _ _ _ hf)

theorem dX4_append_0 : decode cX4_append 0 = .ok (.aload_n 0, 1) := by decide +kernel
theorem dX4_append_1 : decode cX4_append 1 = .ok (.getfield 42, 3) := by decide +kernel
theorem dX4_append_4 : decode cX4_append 4 = .ok (.istore_n 2, 1) := by decide +kernel
theorem dX4_append_5 : decode cX4_append 5 = .ok (.iload_n 2, 1) := by decide +kernel
theorem dX4_append_6 : decode cX4_append 6 = .ok (.bipush 10, 2) := by decide +kernel
theorem dX4_append_8 : decode cX4_append 8 = .ok (.if_icmp .lt 6, 3) := by decide +kernel
theorem dX4_append_11 : decode cX4_append 11 = .ok (.ldc 54, 2) := by decide +kernel
theorem dX4_append_13 : decode cX4_append 13 = .ok (.ireturn, 1) := by decide +kernel
theorem dX4_append_14 : decode cX4_append 14 = .ok (.aload_n 0, 1) := by decide +kernel
theorem dX4_append_15 : decode cX4_append 15 = .ok (.getfield 18, 3) := by decide +kernel
theorem dX4_append_18 : decode cX4_append 18 = .ok (.iload_n 2, 1) := by decide +kernel
theorem dX4_append_19 : decode cX4_append 19 = .ok (.iload_n 2, 1) := by decide +kernel
theorem dX4_append_20 : decode cX4_append 20 = .ok (.ifCond .ne 8, 3) := by decide +kernel
theorem dX4_append_23 : decode cX4_append 23 = .ok (.ldc 55, 2) := by decide +kernel
theorem dX4_append_25 : decode cX4_append 25 = .ok (.goto 4, 3) := by decide +kernel
theorem dX4_append_28 : decode cX4_append 28 = .ok (.iload_n 1, 1) := by decide +kernel
theorem dX4_append_29 : decode cX4_append 29 = .ok (.iastore, 1) := by decide +kernel
theorem dX4_append_30 : decode cX4_append 30 = .ok (.aload_n 0, 1) := by decide +kernel
theorem dX4_append_31 : decode cX4_append 31 = .ok (.getfield 22, 3) := by decide +kernel
theorem dX4_append_34 : decode cX4_append 34 = .ok (.iload_n 2, 1) := by decide +kernel
theorem dX4_append_35 : decode cX4_append 35 = .ok (.iconst 1, 1) := by decide +kernel
theorem dX4_append_36 : decode cX4_append 36 = .ok (.iastore, 1) := by decide +kernel
theorem dX4_append_37 : decode cX4_append 37 = .ok (.aload_n 0, 1) := by decide +kernel
theorem dX4_append_38 : decode cX4_append 38 = .ok (.getfield 25, 3) := by decide +kernel
theorem dX4_append_41 : decode cX4_append 41 = .ok (.iload_n 2, 1) := by decide +kernel
theorem dX4_append_42 : decode cX4_append 42 = .ok (.iconst 5, 1) := by decide +kernel
theorem dX4_append_43 : decode cX4_append 43 = .ok (.iastore, 1) := by decide +kernel
theorem dX4_append_44 : decode cX4_append 44 = .ok (.aload_n 0, 1) := by decide +kernel
theorem dX4_append_45 : decode cX4_append 45 = .ok (.getfield 28, 3) := by decide +kernel
theorem dX4_append_48 : decode cX4_append 48 = .ok (.iload_n 2, 1) := by decide +kernel
theorem dX4_append_49 : decode cX4_append 49 = .ok (.sipush 10000, 3) := by decide +kernel
theorem dX4_append_52 : decode cX4_append 52 = .ok (.iastore, 1) := by decide +kernel
theorem dX4_append_53 : decode cX4_append 53 = .ok (.aload_n 0, 1) := by decide +kernel
theorem dX4_append_54 : decode cX4_append 54 = .ok (.getfield 31, 3) := by decide +kernel
theorem dX4_append_57 : decode cX4_append 57 = .ok (.iload_n 2, 1) := by decide +kernel
theorem dX4_append_58 : decode cX4_append 58 = .ok (.iconst 1, 1) := by decide +kernel
theorem dX4_append_59 : decode cX4_append 59 = .ok (.iastore, 1) := by decide +kernel
theorem dX4_append_60 : decode cX4_append 60 = .ok (.aload_n 0, 1) := by decide +kernel
theorem dX4_append_61 : decode cX4_append 61 = .ok (.iload_n 2, 1) := by decide +kernel
theorem dX4_append_62 : decode cX4_append 62 = .ok (.invokevirtual 56, 3) := by decide +kernel
theorem dX4_append_65 : decode cX4_append 65 = .ok (.aload_n 0, 1) := by decide +kernel
theorem dX4_append_66 : decode cX4_append 66 = .ok (.iload_n 2, 1) := by decide +kernel
theorem dX4_append_67 : decode cX4_append 67 = .ok (.iconst 1, 1) := by decide +kernel
theorem dX4_append_68 : decode cX4_append 68 = .ok (.iadd, 1) := by decide +kernel
theorem dX4_append_69 : decode cX4_append 69 = .ok (.putfield 42, 3) := by decide +kernel
theorem dX4_append_72 : decode cX4_append 72 = .ok (.iload_n 2, 1) := by decide +kernel
theorem dX4_append_73 : decode cX4_append 73 = .ok (.ireturn, 1) := by decide +kernel
abbrev rm_X4_append : Room := { frames := 1, cells := 0, slots := 0, locals := 22 }
theorem hy_X4_append : yX4_append.cls ≠ "java/lang/invoke/MethodHandle" ∧ yX4_append.cls ≠ "java/lang/invoke/VarHandle" ∧ (parseMethodDescriptor yX4_append.desc).map (fun d => d.parameters.length) = some 1 := by decide +kernel
def w_X4_append_29  (Q : Int32 → z_S → Prop) (x2 : Int32) (s0 : Int32) (s1 : Int32) (σ : z_S) : Prop :=
  vp_in s1 10 ∧ ∀ σ5 : z_S, σ5 = zs_i σ 2 s1.toNatClampNeg s0 → vp_in x2 10 ∧ ∀ σ7 : z_S, σ7 = zs_i σ5 3 x2.toNatClampNeg (1 : Int32) → vp_in x2 10 ∧ ∀ σ9 : z_S, σ9 = zs_i σ7 4 x2.toNatClampNeg (5 : Int32) → vp_in x2 10 ∧ ∀ σ11 : z_S, σ11 = zs_i σ9 5 x2.toNatClampNeg (10000 : Int32) → vp_in x2 10 ∧ ∀ σ13 : z_S, σ13 = zs_i σ11 6 x2.toNatClampNeg (1 : Int32) → w_X4_forgetReadings x2 σ13 (fun σ15 => ∀ σ16 : z_S, σ16 = zs_i σ15 1 0 (x2 + (1 : Int32)) → Q x2 σ16)
def w_X4_append (a1 : Int32) (σ : z_S) (Q : Int32 → z_S → Prop) : Prop :=
  ∀ y1 : Int32, y1 = (zg_i σ 1 0) → if y1 < (10 : Int32) then (if y1 = 0 then (w_X4_append_29 Q y1 (-2000000000 : Int32) y1 σ) else (w_X4_append_29 Q y1 a1 y1 σ)) else (Q (-2000000004 : Int32) σ)
set_option maxHeartbeats 4000000 in
set_option maxRecDepth 100000 in
theorem t_X4_append_29 {l : Launch} {D : va_G} {cI cJ cM cS : ClassId} {n0 : Nat} {p : Program} {e : Env} {s : State} {m : MethodId} {args : Array Value} {below : List Frame} {meth : Method} {c : Code}  {Q : Int32 → z_S → Prop} (hX : z_X D cI cJ cM cS p s m args c cX4_append 3 yX4_append.cls) (hY : z_Y s meth (some .int))  (x2 : Int32) (s0 : Int32) (s1 : Int32) (σ : z_S) (hf : w_X4_append_29  Q x2 s0 s1 σ) : z_t D cI cJ cM cS n0 p l e rm_X4_append s m args below meth c 3 (MQ below (va_Qi Q (fun u t => z_Bq D cI cJ cM cS n0 u t) (z_Ab n0)) args s 0 0 (z_Ab n0)) 0 0 29 [(0, .ref (n0 + 1)), (2, .int x2)] [.int s0, .int s1, .ref (n0 + 2)] σ := by
  unfold w_X4_append_29 at hf
  obtain ⟨h4, hf⟩ := hf
  refine zt_iastore hX dX4_append_29 (by decide) rfl h4 ?_
  refine zt_nms (fun σ5 d5 => ?_)
  replace hf := hf σ5 d5
  refine zt_aload_n hX 0 dX4_append_30 rfl rfl ?_
  refine zt_get_X4 hX (by decide) (zE_1 _ _) 5 (by decide) kw_103 rfl rfl dX4_append_31 ?_
  refine zt_iload_n hX 1 dX4_append_34 rfl rfl ?_
  refine zt_iconst hX dX4_append_35 (v := (1 : Int32)) (by decide) ?_
  obtain ⟨h6, hf⟩ := hf
  refine zt_iastore hX dX4_append_36 (by decide) rfl h6 ?_
  refine zt_nms (fun σ7 d7 => ?_)
  replace hf := hf σ7 d7
  refine zt_aload_n hX 0 dX4_append_37 rfl rfl ?_
  refine zt_get_X4 hX (by decide) (zE_1 _ _) 6 (by decide) kw_106 rfl rfl dX4_append_38 ?_
  refine zt_iload_n hX 1 dX4_append_41 rfl rfl ?_
  refine zt_iconst hX dX4_append_42 (v := (5 : Int32)) (by decide) ?_
  obtain ⟨h8, hf⟩ := hf
  refine zt_iastore hX dX4_append_43 (by decide) rfl h8 ?_
  refine zt_nms (fun σ9 d9 => ?_)
  replace hf := hf σ9 d9
  refine zt_aload_n hX 0 dX4_append_44 rfl rfl ?_
  refine zt_get_X4 hX (by decide) (zE_1 _ _) 7 (by decide) kw_108 rfl rfl dX4_append_45 ?_
  refine zt_iload_n hX 1 dX4_append_48 rfl rfl ?_
  refine zt_sipush hX dX4_append_49 (v := (10000 : Int32)) (by decide) ?_
  obtain ⟨h10, hf⟩ := hf
  refine zt_iastore hX dX4_append_52 (by decide) rfl h10 ?_
  refine zt_nms (fun σ11 d11 => ?_)
  replace hf := hf σ11 d11
  refine zt_aload_n hX 0 dX4_append_53 rfl rfl ?_
  refine zt_get_X4 hX (by decide) (zE_1 _ _) 8 (by decide) kw_111 rfl rfl dX4_append_54 ?_
  refine zt_iload_n hX 1 dX4_append_57 rfl rfl ?_
  refine zt_iconst hX dX4_append_58 (v := (1 : Int32)) (by decide) ?_
  obtain ⟨h12, hf⟩ := hf
  refine zt_iastore hX dX4_append_59 (by decide) rfl h12 ?_
  refine zt_nms (fun σ13 d13 => ?_)
  replace hf := hf σ13 d13
  refine zt_aload_n hX 0 dX4_append_60 rfl rfl ?_
  refine zt_iload_n hX 1 dX4_append_61 rfl rfl ?_
  refine zt_callvV hX hY (av := [.int x2]) (c_X4_forgetReadings hf) dX4_append_62 rfl kw_282 kw_283 kw_284 kw_62 kw_285 ⟨rfl, rfl⟩ hy_X4_forgetReadings ⟨by decide, by decide⟩ ⟨by decide, by decide⟩ (Nat.le_of_ble_eq_true rfl) (by decide) (zE_1 _ _) rfl rfl (fun σ15 hf => ?_)
  refine zt_aload_n hX 0 dX4_append_65 rfl rfl ?_
  refine zt_iload_n hX 1 dX4_append_66 rfl rfl ?_
  refine zt_iconst hX dX4_append_67 (v := (1 : Int32)) (by decide) ?_
  refine zt_iadd hX dX4_append_68 ?_
  refine zt_puti_X4 hX (by decide) (zE_1 _ _) 0 (by decide) kw_87 rfl rfl (Nat.le_of_ble_eq_true rfl) rfl rfl dX4_append_69 ?_
  refine zt_nms (fun σ16 d16 => ?_)
  replace hf := hf σ16 d16
  refine zt_iload_n hX 1 dX4_append_72 rfl rfl ?_
  exact zt_iret hX hY dX4_append_73 hf
set_option maxHeartbeats 4000000 in
set_option maxRecDepth 100000 in
theorem c_X4_append {l : Launch} {D : va_G} {cI cJ cM cS : ClassId} {n0 : Nat} {a1 : Int32} {σ : z_S} {Q : Int32 → z_S → Prop} (hf : w_X4_append a1 σ Q) : z_ci l D cI cJ cM cS n0 yX4_append cX4_append 3 .int rm_X4_append 0 0 [.ref (n0 + 1), .int a1] σ Q := by
  refine z_ofi (by decide +kernel) (Nat.le_of_ble_eq_true rfl) (fun p e s m args below meth c hX hY => ?_)
  unfold w_X4_append at hf
  refine zt_L (L' := [(0, .ref (n0 + 1)), (1, .int a1)]) rfl ?_
  refine zt_aload_n hX 0 dX4_append_0 rfl rfl ?_
  refine zt_get_X4 hX (by decide) (zE_1 _ _) 0 (by decide) kw_87 rfl rfl dX4_append_1 ?_
  refine zt_nmi (fun y1 e1 => ?_)
  replace hf := hf y1 e1
  refine zt_istore_n (L' := [(2, .int y1), (0, .ref (n0 + 1)), (1, .int a1)]) hX dX4_append_4 rfl (by decide) rfl ?_
  refine zt_iload_n hX 0 dX4_append_5 rfl rfl ?_
  refine zt_bipush hX dX4_append_6 (v := (10 : Int32)) (by decide) ?_
  refine zt_icmp_lt hX dX4_append_8 (tgt := 14) (by decide) (fun c2 => ?_) (fun c2 => ?_)
  · replace hf := z_pos hf c2
    refine zt_aload_n hX 1 dX4_append_14 rfl rfl ?_
    refine zt_get_X4 hX (by decide) (zE_1 _ _) 4 (by decide) kw_99 rfl rfl dX4_append_15 ?_
    refine zt_iload_n hX 0 dX4_append_18 rfl rfl ?_
    refine zt_iload_n hX 0 dX4_append_19 rfl rfl ?_
    refine zt_if_ne hX dX4_append_20 (tgt := 28) (by decide) (fun c3 => ?_) (fun c3 => ?_)
    · replace hf := z_neg hf c3
      refine zt_iload_n hX 2 dX4_append_28 rfl rfl ?_
      exact zt_sub [1, 0] rfl (t_X4_append_29 hX hY _ _ _ _ hf)
    · replace hf := z_pos hf c3
      refine zt_ldc hX dX4_append_23 kw_281 ?_
      refine zt_goto hX dX4_append_25 (tgt := 29) (by decide) ?_
      exact zt_sub [1, 0] rfl (t_X4_append_29 hX hY _ _ _ _ hf)
  · replace hf := z_neg hf c2
    refine zt_ldc hX dX4_append_11 kw_280 ?_
    exact zt_iret hX hY dX4_append_13 hf

theorem dX4_findChild_0 : decode cX4_findChild 0 = .ok (.iconst 0, 1) := by decide +kernel
theorem dX4_findChild_1 : decode cX4_findChild 1 = .ok (.istore_n 3, 1) := by decide +kernel
theorem dX4_findChild_2 : decode cX4_findChild 2 = .ok (.iload_n 1, 1) := by decide +kernel
theorem dX4_findChild_3 : decode cX4_findChild 3 = .ok (.iconst 1, 1) := by decide +kernel
theorem dX4_findChild_4 : decode cX4_findChild 4 = .ok (.iadd, 1) := by decide +kernel
theorem dX4_findChild_5 : decode cX4_findChild 5 = .ok (.istore 4, 2) := by decide +kernel
theorem dX4_findChild_7 : decode cX4_findChild 7 = .ok (.iload 4, 2) := by decide +kernel
theorem dX4_findChild_9 : decode cX4_findChild 9 = .ok (.aload_n 0, 1) := by decide +kernel
theorem dX4_findChild_10 : decode cX4_findChild 10 = .ok (.getfield 42, 3) := by decide +kernel
theorem dX4_findChild_13 : decode cX4_findChild 13 = .ok (.if_icmp .ge 31, 3) := by decide +kernel
theorem dX4_findChild_16 : decode cX4_findChild 16 = .ok (.aload_n 0, 1) := by decide +kernel
theorem dX4_findChild_17 : decode cX4_findChild 17 = .ok (.getfield 18, 3) := by decide +kernel
theorem dX4_findChild_20 : decode cX4_findChild 20 = .ok (.iload 4, 2) := by decide +kernel
theorem dX4_findChild_22 : decode cX4_findChild 22 = .ok (.iaload, 1) := by decide +kernel
theorem dX4_findChild_23 : decode cX4_findChild 23 = .ok (.iload_n 1, 1) := by decide +kernel
theorem dX4_findChild_24 : decode cX4_findChild 24 = .ok (.if_icmp .ne 14, 3) := by decide +kernel
theorem dX4_findChild_27 : decode cX4_findChild 27 = .ok (.iload_n 3, 1) := by decide +kernel
theorem dX4_findChild_28 : decode cX4_findChild 28 = .ok (.iload_n 2, 1) := by decide +kernel
theorem dX4_findChild_29 : decode cX4_findChild 29 = .ok (.if_icmp .ne 6, 3) := by decide +kernel
theorem dX4_findChild_32 : decode cX4_findChild 32 = .ok (.iload 4, 2) := by decide +kernel
theorem dX4_findChild_34 : decode cX4_findChild 34 = .ok (.ireturn, 1) := by decide +kernel
theorem dX4_findChild_35 : decode cX4_findChild 35 = .ok (.iinc 3 1, 3) := by decide +kernel
theorem dX4_findChild_38 : decode cX4_findChild 38 = .ok (.iinc 4 1, 3) := by decide +kernel
theorem dX4_findChild_41 : decode cX4_findChild 41 = .ok (.goto (-34), 3) := by decide +kernel
theorem dX4_findChild_44 : decode cX4_findChild 44 = .ok (.ldc 55, 2) := by decide +kernel
theorem dX4_findChild_46 : decode cX4_findChild 46 = .ok (.ireturn, 1) := by decide +kernel
abbrev rm_X4_findChild : Room := { frames := 0, cells := 0, slots := 0, locals := 0 }
theorem hy_X4_findChild : yX4_findChild.cls ≠ "java/lang/invoke/MethodHandle" ∧ yX4_findChild.cls ≠ "java/lang/invoke/VarHandle" ∧ (parseMethodDescriptor yX4_findChild.desc).map (fun d => d.parameters.length) = some 2 := by decide +kernel
def w_X4_findChild_38 (k7 : Int32 → Int32 → Int32 → Int32 → z_S → Prop) (Q : Int32 → z_S → Prop) (x1 : Int32) (x2 : Int32) (x3 : Int32) (x4 : Int32) (σ : z_S) : Prop :=
  ∀ y5 : Int32, y5 = (x4 + (1 : Int32)) → k7 x1 x2 x3 y5 σ
def wb_X4_findChild_7  (Q : Int32 → z_S → Prop) (k7 : Int32 → Int32 → Int32 → Int32 → z_S → Prop) (x1 : Int32) (x2 : Int32) (x3 : Int32) (x4 : Int32) (σ : z_S) : Prop :=
  if (zg_i σ 1 0) ≤ x4 then (Q (-2000000000 : Int32) σ) else (vp_in x4 10 ∧ if (zg_i σ 2 x4.toNatClampNeg) = x1 then (if x3 = x2 then (Q x4 σ) else (∀ y7 : Int32, y7 = (x3 + (1 : Int32)) → w_X4_findChild_38 k7 Q x1 x2 y7 x4 σ)) else (w_X4_findChild_38 k7 Q x1 x2 x3 x4 σ))
def w_X4_findChild_7  (Q : Int32 → z_S → Prop) : Nat → Int32 → Int32 → Int32 → Int32 → z_S → Prop
  | 0 => fun _ _ _ _ _ => False
  | n + 1 => wb_X4_findChild_7  Q (w_X4_findChild_7  Q n)
def w_X4_findChild (a1 : Int32) (a2 : Int32) (σ : z_S) (Q : Int32 → z_S → Prop) : Prop :=
  ∀ y1 : Int32, y1 = (a1 + (1 : Int32)) → w_X4_findChild_7 Q 400 a1 a2 (0 : Int32) y1 σ
set_option maxHeartbeats 4000000 in
set_option maxRecDepth 100000 in
theorem t_X4_findChild_38 {l : Launch} {D : va_G} {cI cJ cM cS : ClassId} {n0 : Nat} {p : Program} {e : Env} {s : State} {m : MethodId} {args : Array Value} {below : List Frame} {meth : Method} {c : Code} {k7 : Int32 → Int32 → Int32 → Int32 → z_S → Prop} {Q : Int32 → z_S → Prop} (hX : z_X D cI cJ cM cS p s m args c cX4_findChild 5 yX4_findChild.cls) (hY : z_Y s meth (some .int)) (hk7 : ∀ (x1 : Int32) (x2 : Int32) (x3 : Int32) (x4 : Int32) (σ : z_S), k7 x1 x2 x3 x4 σ → z_t D cI cJ cM cS n0 p l e rm_X4_findChild s m args below meth c 5 (MQ below (va_Qi Q (fun u t => z_Bq D cI cJ cM cS n0 u t) (z_Ab n0)) args s 0 0 (z_Ab n0)) 0 0 7 [(0, .ref (n0 + 1)), (1, .int x1), (2, .int x2), (3, .int x3), (4, .int x4)] [] σ) (x1 : Int32) (x2 : Int32) (x3 : Int32) (x4 : Int32) (σ : z_S) (hf : w_X4_findChild_38 k7 Q x1 x2 x3 x4 σ) : z_t D cI cJ cM cS n0 p l e rm_X4_findChild s m args below meth c 5 (MQ below (va_Qi Q (fun u t => z_Bq D cI cJ cM cS n0 u t) (z_Ab n0)) args s 0 0 (z_Ab n0)) 0 0 38 [(0, .ref (n0 + 1)), (1, .int x1), (2, .int x2), (3, .int x3), (4, .int x4)] [] σ := by
  unfold w_X4_findChild_38 at hf
  obtain ⟨y5, e5⟩ : ∃ y : Int32, y = (x4 + (1 : Int32)) := ⟨_, rfl⟩
  replace hf := hf y5 e5
  refine zt_iinc (L' := [(4, .int y5), (0, .ref (n0 + 1)), (1, .int x1), (2, .int x2), (3, .int x3)]) hX 4 dX4_findChild_38 rfl (v := y5) (by rw [e5]; rfl) (by decide) rfl ?_
  refine zt_goto hX dX4_findChild_41 (tgt := 7) (by decide) ?_
  exact zt_sub [1, 2, 3, 4, 0] rfl (hk7 _ _ _ _ _ hf)
set_option maxHeartbeats 4000000 in
set_option maxRecDepth 100000 in
theorem t_X4_findChild_7 {l : Launch} {D : va_G} {cI cJ cM cS : ClassId} {n0 : Nat} {p : Program} {e : Env} {s : State} {m : MethodId} {args : Array Value} {below : List Frame} {meth : Method} {c : Code}  {Q : Int32 → z_S → Prop} (hX : z_X D cI cJ cM cS p s m args c cX4_findChild 5 yX4_findChild.cls) (hY : z_Y s meth (some .int))  : ∀ (n : Nat) (x1 : Int32) (x2 : Int32) (x3 : Int32) (x4 : Int32) (σ : z_S), w_X4_findChild_7  Q n x1 x2 x3 x4 σ → z_t D cI cJ cM cS n0 p l e rm_X4_findChild s m args below meth c 5 (MQ below (va_Qi Q (fun u t => z_Bq D cI cJ cM cS n0 u t) (z_Ab n0)) args s 0 0 (z_Ab n0)) 0 0 7 [(0, .ref (n0 + 1)), (1, .int x1), (2, .int x2), (3, .int x3), (4, .int x4)] [] σ := by
  intro n
  induction n with
  | zero => intro _ _ _ _ _ hf; exact hf.elim
  | succ n ih7 =>
    intro x1 x2 x3 x4 σ hf
    have hf : wb_X4_findChild_7  Q (w_X4_findChild_7  Q n) x1 x2 x3 x4 σ := hf
    unfold wb_X4_findChild_7 at hf
    refine zt_iload hX 4 dX4_findChild_7 rfl ?_
    refine zt_aload_n hX 0 dX4_findChild_9 rfl rfl ?_
    refine zt_get_X4 hX (by decide) (zE_1 _ _) 0 (by decide) kw_87 rfl rfl dX4_findChild_10 ?_
    refine zt_icmp_ge hX dX4_findChild_13 (tgt := 44) (by decide) (fun c2 => ?_) (fun c2 => ?_)
    · replace hf := z_pos hf c2
      refine zt_ldc hX dX4_findChild_44 kw_281 ?_
      exact zt_iret hX hY dX4_findChild_46 hf
    · replace hf := z_neg hf c2
      refine zt_aload_n hX 0 dX4_findChild_16 rfl rfl ?_
      refine zt_get_X4 hX (by decide) (zE_1 _ _) 4 (by decide) kw_99 rfl rfl dX4_findChild_17 ?_
      refine zt_iload hX 4 dX4_findChild_20 rfl ?_
      obtain ⟨h3, hf⟩ := hf
      refine zt_iaload hX dX4_findChild_22 (by decide) rfl h3 ?_
      refine zt_iload_n hX 1 dX4_findChild_23 rfl rfl ?_
      refine zt_icmp_ne hX dX4_findChild_24 (tgt := 38) (by decide) (fun c4 => ?_) (fun c4 => ?_)
      · replace hf := z_neg hf c4
        exact zt_sub [0, 1, 2, 3, 4] rfl (t_X4_findChild_38 hX hY ih7 _ _ _ _ _ hf)
      · replace hf := z_pos hf c4
        refine zt_iload_n hX 3 dX4_findChild_27 rfl rfl ?_
        refine zt_iload_n hX 2 dX4_findChild_28 rfl rfl ?_
        refine zt_icmp_ne hX dX4_findChild_29 (tgt := 35) (by decide) (fun c6 => ?_) (fun c6 => ?_)
        · replace hf := z_neg hf c6
          obtain ⟨y7, e7⟩ : ∃ y : Int32, y = (x3 + (1 : Int32)) := ⟨_, rfl⟩
          replace hf := hf y7 e7
          refine zt_iinc (L' := [(3, .int y7), (0, .ref (n0 + 1)), (1, .int x1), (2, .int x2), (4, .int x4)]) hX 3 dX4_findChild_35 rfl (v := y7) (by rw [e7]; rfl) (by decide) rfl ?_
          exact zt_sub [1, 2, 3, 0, 4] rfl (t_X4_findChild_38 hX hY ih7 _ _ _ _ _ hf)
        · replace hf := z_pos hf c6
          refine zt_iload hX 4 dX4_findChild_32 rfl ?_
          exact zt_iret hX hY dX4_findChild_34 hf
set_option maxHeartbeats 4000000 in
set_option maxRecDepth 100000 in
theorem c_X4_findChild {l : Launch} {D : va_G} {cI cJ cM cS : ClassId} {n0 : Nat} {a1 : Int32} {a2 : Int32} {σ : z_S} {Q : Int32 → z_S → Prop} (hf : w_X4_findChild a1 a2 σ Q) : z_ci l D cI cJ cM cS n0 yX4_findChild cX4_findChild 5 .int rm_X4_findChild 0 0 [.ref (n0 + 1), .int a1, .int a2] σ Q := by
  refine z_ofi (by decide +kernel) (Nat.le_of_ble_eq_true rfl) (fun p e s m args below meth c hX hY => ?_)
  unfold w_X4_findChild at hf
  refine zt_L (L' := [(0, .ref (n0 + 1)), (1, .int a1), (2, .int a2)]) rfl ?_
  refine zt_iconst hX dX4_findChild_0 (v := (0 : Int32)) (by decide) ?_
  refine zt_istore_n (L' := [(3, .int (0 : Int32)), (0, .ref (n0 + 1)), (1, .int a1), (2, .int a2)]) hX dX4_findChild_1 rfl (by decide) rfl ?_
  refine zt_iload_n hX 2 dX4_findChild_2 rfl rfl ?_
  refine zt_iconst hX dX4_findChild_3 (v := (1 : Int32)) (by decide) ?_
  refine zt_iadd hX dX4_findChild_4 ?_
  refine zt_nmi (fun y1 e1 => ?_)
  replace hf := hf y1 e1
  refine zt_istore (L' := [(4, .int y1), (3, .int (0 : Int32)), (0, .ref (n0 + 1)), (1, .int a1), (2, .int a2)]) hX dX4_findChild_5 (by decide) rfl ?_
  exact zt_sub [2, 3, 4, 1, 0] rfl (t_X4_findChild_7 hX hY 400 _ _ _ _ _ hf)

theorem dX4_countAbove_0 : decode cX4_countAbove 0 = .ok (.iconst 0, 1) := by decide +kernel
theorem dX4_countAbove_1 : decode cX4_countAbove 1 = .ok (.istore_n 2, 1) := by decide +kernel
theorem dX4_countAbove_2 : decode cX4_countAbove 2 = .ok (.aload_n 0, 1) := by decide +kernel
theorem dX4_countAbove_3 : decode cX4_countAbove 3 = .ok (.getfield 18, 3) := by decide +kernel
theorem dX4_countAbove_6 : decode cX4_countAbove 6 = .ok (.iload_n 1, 1) := by decide +kernel
theorem dX4_countAbove_7 : decode cX4_countAbove 7 = .ok (.iaload, 1) := by decide +kernel
theorem dX4_countAbove_8 : decode cX4_countAbove 8 = .ok (.istore_n 3, 1) := by decide +kernel
theorem dX4_countAbove_9 : decode cX4_countAbove 9 = .ok (.iload_n 2, 1) := by decide +kernel
theorem dX4_countAbove_10 : decode cX4_countAbove 10 = .ok (.bipush 10, 2) := by decide +kernel
theorem dX4_countAbove_12 : decode cX4_countAbove 12 = .ok (.if_icmp .ge 24, 3) := by decide +kernel
theorem dX4_countAbove_15 : decode cX4_countAbove 15 = .ok (.aload_n 0, 1) := by decide +kernel
theorem dX4_countAbove_16 : decode cX4_countAbove 16 = .ok (.iload_n 3, 1) := by decide +kernel
theorem dX4_countAbove_17 : decode cX4_countAbove 17 = .ok (.invokevirtual 60, 3) := by decide +kernel
theorem dX4_countAbove_20 : decode cX4_countAbove 20 = .ok (.ifCond .eq 16, 3) := by decide +kernel
theorem dX4_countAbove_23 : decode cX4_countAbove 23 = .ok (.iinc 2 1, 3) := by decide +kernel
theorem dX4_countAbove_26 : decode cX4_countAbove 26 = .ok (.aload_n 0, 1) := by decide +kernel
theorem dX4_countAbove_27 : decode cX4_countAbove 27 = .ok (.getfield 18, 3) := by decide +kernel
theorem dX4_countAbove_30 : decode cX4_countAbove 30 = .ok (.iload_n 3, 1) := by decide +kernel
theorem dX4_countAbove_31 : decode cX4_countAbove 31 = .ok (.iaload, 1) := by decide +kernel
theorem dX4_countAbove_32 : decode cX4_countAbove 32 = .ok (.istore_n 3, 1) := by decide +kernel
theorem dX4_countAbove_33 : decode cX4_countAbove 33 = .ok (.goto (-24), 3) := by decide +kernel
theorem dX4_countAbove_36 : decode cX4_countAbove 36 = .ok (.iload_n 2, 1) := by decide +kernel
theorem dX4_countAbove_37 : decode cX4_countAbove 37 = .ok (.ireturn, 1) := by decide +kernel
abbrev rm_X4_countAbove : Room := { frames := 1, cells := 0, slots := 0, locals := 21 }
theorem hy_X4_countAbove : yX4_countAbove.cls ≠ "java/lang/invoke/MethodHandle" ∧ yX4_countAbove.cls ≠ "java/lang/invoke/VarHandle" ∧ (parseMethodDescriptor yX4_countAbove.desc).map (fun d => d.parameters.length) = some 1 := by decide +kernel
def wb_X4_countAbove_9  (Q : Int32 → z_S → Prop) (k9 : Int32 → Int32 → z_S → Prop) (x2 : Int32) (x3 : Int32) (σ : z_S) : Prop :=
  if (10 : Int32) ≤ x2 then (Q x2 σ) else (w_X4_has x3 σ (fun r4 σ5 => if r4 = 0 then (Q x2 σ5) else (∀ y7 : Int32, y7 = (x2 + (1 : Int32)) → vp_in x3 10 ∧ ∀ y9 : Int32, y9 = (zg_i σ5 2 x3.toNatClampNeg) → k9 y7 y9 σ5)))
def w_X4_countAbove_9  (Q : Int32 → z_S → Prop) : Nat → Int32 → Int32 → z_S → Prop
  | 0 => fun _ _ _ => False
  | n + 1 => wb_X4_countAbove_9  Q (w_X4_countAbove_9  Q n)
def w_X4_countAbove (a1 : Int32) (σ : z_S) (Q : Int32 → z_S → Prop) : Prop :=
  vp_in a1 10 ∧ ∀ y2 : Int32, y2 = (zg_i σ 2 a1.toNatClampNeg) → w_X4_countAbove_9 Q 400 (0 : Int32) y2 σ
set_option maxHeartbeats 4000000 in
set_option maxRecDepth 100000 in
theorem t_X4_countAbove_9 {l : Launch} {D : va_G} {cI cJ cM cS : ClassId} {n0 : Nat} {p : Program} {e : Env} {s : State} {m : MethodId} {args : Array Value} {below : List Frame} {meth : Method} {c : Code}  {Q : Int32 → z_S → Prop} (hX : z_X D cI cJ cM cS p s m args c cX4_countAbove 4 yX4_countAbove.cls) (hY : z_Y s meth (some .int))  : ∀ (n : Nat) (x2 : Int32) (x3 : Int32) (σ : z_S), w_X4_countAbove_9  Q n x2 x3 σ → z_t D cI cJ cM cS n0 p l e rm_X4_countAbove s m args below meth c 4 (MQ below (va_Qi Q (fun u t => z_Bq D cI cJ cM cS n0 u t) (z_Ab n0)) args s 0 0 (z_Ab n0)) 0 0 9 [(0, .ref (n0 + 1)), (2, .int x2), (3, .int x3)] [] σ := by
  intro n
  induction n with
  | zero => intro _ _ _ hf; exact hf.elim
  | succ n ih9 =>
    intro x2 x3 σ hf
    have hf : wb_X4_countAbove_9  Q (w_X4_countAbove_9  Q n) x2 x3 σ := hf
    unfold wb_X4_countAbove_9 at hf
    refine zt_iload_n hX 1 dX4_countAbove_9 rfl rfl ?_
    refine zt_bipush hX dX4_countAbove_10 (v := (10 : Int32)) (by decide) ?_
    refine zt_icmp_ge hX dX4_countAbove_12 (tgt := 36) (by decide) (fun c3 => ?_) (fun c3 => ?_)
    · replace hf := z_pos hf c3
      refine zt_iload_n hX 1 dX4_countAbove_36 rfl rfl ?_
      exact zt_iret hX hY dX4_countAbove_37 hf
    · replace hf := z_neg hf c3
      refine zt_aload_n hX 0 dX4_countAbove_15 rfl rfl ?_
      refine zt_iload_n hX 2 dX4_countAbove_16 rfl rfl ?_
      refine zt_calliV hX hY (av := [.int x3]) (c_X4_has hf) dX4_countAbove_17 rfl kw_320 kw_255 kw_256 kw_62 kw_257 ⟨rfl, rfl⟩ hy_X4_has ⟨by decide, by decide⟩ ⟨by decide, by decide⟩ (Nat.le_of_ble_eq_true rfl) (by decide) (zE_1 _ _) rfl rfl (fun r4 σ5 hf => ?_)
      refine zt_if_eq hX dX4_countAbove_20 (tgt := 36) (by decide) (fun c6 => ?_) (fun c6 => ?_)
      · replace hf := z_pos hf c6
        refine zt_iload_n hX 1 dX4_countAbove_36 rfl rfl ?_
        exact zt_iret hX hY dX4_countAbove_37 hf
      · replace hf := z_neg hf c6
        obtain ⟨y7, e7⟩ : ∃ y : Int32, y = (x2 + (1 : Int32)) := ⟨_, rfl⟩
        replace hf := hf y7 e7
        refine zt_iinc (L' := [(2, .int y7), (0, .ref (n0 + 1)), (3, .int x3)]) hX 1 dX4_countAbove_23 rfl (v := y7) (by rw [e7]; rfl) (by decide) rfl ?_
        refine zt_aload_n hX 1 dX4_countAbove_26 rfl rfl ?_
        refine zt_get_X4 hX (by decide) (zE_1 _ _) 4 (by decide) kw_99 rfl rfl dX4_countAbove_27 ?_
        refine zt_iload_n hX 2 dX4_countAbove_30 rfl rfl ?_
        obtain ⟨h8, hf⟩ := hf
        refine zt_iaload hX dX4_countAbove_31 (by decide) rfl h8 ?_
        refine zt_nmi (fun y9 e9 => ?_)
        replace hf := hf y9 e9
        refine zt_istore_n (L' := [(3, .int y9), (2, .int y7), (0, .ref (n0 + 1))]) hX dX4_countAbove_32 rfl (by decide) rfl ?_
        refine zt_goto hX dX4_countAbove_33 (tgt := 9) (by decide) ?_
        exact zt_sub [2, 1, 0] rfl (ih9 _ _ _ hf)
set_option maxHeartbeats 4000000 in
set_option maxRecDepth 100000 in
theorem c_X4_countAbove {l : Launch} {D : va_G} {cI cJ cM cS : ClassId} {n0 : Nat} {a1 : Int32} {σ : z_S} {Q : Int32 → z_S → Prop} (hf : w_X4_countAbove a1 σ Q) : z_ci l D cI cJ cM cS n0 yX4_countAbove cX4_countAbove 4 .int rm_X4_countAbove 0 0 [.ref (n0 + 1), .int a1] σ Q := by
  refine z_ofi (by decide +kernel) (Nat.le_of_ble_eq_true rfl) (fun p e s m args below meth c hX hY => ?_)
  unfold w_X4_countAbove at hf
  refine zt_L (L' := [(0, .ref (n0 + 1)), (1, .int a1)]) rfl ?_
  refine zt_iconst hX dX4_countAbove_0 (v := (0 : Int32)) (by decide) ?_
  refine zt_istore_n (L' := [(2, .int (0 : Int32)), (0, .ref (n0 + 1)), (1, .int a1)]) hX dX4_countAbove_1 rfl (by decide) rfl ?_
  refine zt_aload_n hX 1 dX4_countAbove_2 rfl rfl ?_
  refine zt_get_X4 hX (by decide) (zE_1 _ _) 4 (by decide) kw_99 rfl rfl dX4_countAbove_3 ?_
  refine zt_iload_n hX 2 dX4_countAbove_6 rfl rfl ?_
  obtain ⟨h1, hf⟩ := hf
  refine zt_iaload hX dX4_countAbove_7 (by decide) rfl h1 ?_
  refine zt_nmi (fun y2 e2 => ?_)
  replace hf := hf y2 e2
  refine zt_istore_n (L' := [(3, .int y2), (2, .int (0 : Int32)), (0, .ref (n0 + 1)), (1, .int a1)]) hX dX4_countAbove_8 rfl (by decide) rfl ?_
  exact zt_sub [2, 1, 0] rfl (t_X4_countAbove_9 hX hY 400 _ _ _ hf)

theorem dX5_addMeter_0 : decode cX5_addMeter 0 = .ok (.aload_n 0, 1) := by decide +kernel
theorem dX5_addMeter_1 : decode cX5_addMeter 1 = .ok (.getfield 10, 3) := by decide +kernel
theorem dX5_addMeter_4 : decode cX5_addMeter 4 = .ok (.getfield 44, 3) := by decide +kernel
theorem dX5_addMeter_7 : decode cX5_addMeter 7 = .ok (.ifCond .le 17, 3) := by decide +kernel
theorem dX5_addMeter_10 : decode cX5_addMeter 10 = .ok (.aload_n 0, 1) := by decide +kernel
theorem dX5_addMeter_11 : decode cX5_addMeter 11 = .ok (.getfield 10, 3) := by decide +kernel
theorem dX5_addMeter_14 : decode cX5_addMeter 14 = .ok (.iload_n 1, 1) := by decide +kernel
theorem dX5_addMeter_15 : decode cX5_addMeter 15 = .ok (.invokevirtual 48, 3) := by decide +kernel
theorem dX5_addMeter_18 : decode cX5_addMeter 18 = .ok (.ifCond .ne 6, 3) := by decide +kernel
theorem dX5_addMeter_21 : decode cX5_addMeter 21 = .ok (.ldc 52, 2) := by decide +kernel
theorem dX5_addMeter_23 : decode cX5_addMeter 23 = .ok (.ireturn, 1) := by decide +kernel
theorem dX5_addMeter_24 : decode cX5_addMeter 24 = .ok (.aload_n 0, 1) := by decide +kernel
theorem dX5_addMeter_25 : decode cX5_addMeter 25 = .ok (.getfield 10, 3) := by decide +kernel
theorem dX5_addMeter_28 : decode cX5_addMeter 28 = .ok (.getfield 44, 3) := by decide +kernel
theorem dX5_addMeter_31 : decode cX5_addMeter 31 = .ok (.bipush 10, 2) := by decide +kernel
theorem dX5_addMeter_33 : decode cX5_addMeter 33 = .ok (.if_icmp .lt 6, 3) := by decide +kernel
theorem dX5_addMeter_36 : decode cX5_addMeter 36 = .ok (.ldc 53, 2) := by decide +kernel
theorem dX5_addMeter_38 : decode cX5_addMeter 38 = .ok (.ireturn, 1) := by decide +kernel
theorem dX5_addMeter_39 : decode cX5_addMeter 39 = .ok (.aload_n 0, 1) := by decide +kernel
theorem dX5_addMeter_40 : decode cX5_addMeter 40 = .ok (.getfield 19, 3) := by decide +kernel
theorem dX5_addMeter_43 : decode cX5_addMeter 43 = .ok (.aload_n 0, 1) := by decide +kernel
theorem dX5_addMeter_44 : decode cX5_addMeter 44 = .ok (.getfield 10, 3) := by decide +kernel
theorem dX5_addMeter_47 : decode cX5_addMeter 47 = .ok (.invokevirtual 54, 3) := by decide +kernel
theorem dX5_addMeter_50 : decode cX5_addMeter 50 = .ok (.aload_n 0, 1) := by decide +kernel
theorem dX5_addMeter_51 : decode cX5_addMeter 51 = .ok (.getfield 10, 3) := by decide +kernel
theorem dX5_addMeter_54 : decode cX5_addMeter 54 = .ok (.iload_n 1, 1) := by decide +kernel
theorem dX5_addMeter_55 : decode cX5_addMeter 55 = .ok (.invokevirtual 58, 3) := by decide +kernel
theorem dX5_addMeter_58 : decode cX5_addMeter 58 = .ok (.ireturn, 1) := by decide +kernel
abbrev rm_X5_addMeter : Room := { frames := 3, cells := 26, slots := 289, locals := 71 }
theorem hy_X5_addMeter : yX5_addMeter.cls ≠ "java/lang/invoke/MethodHandle" ∧ yX5_addMeter.cls ≠ "java/lang/invoke/VarHandle" ∧ (parseMethodDescriptor yX5_addMeter.desc).map (fun d => d.parameters.length) = some 1 := by decide +kernel
def w_X5_addMeter_24  (Q : Int32 → z_S → Prop) (x1 : Int32) (σ : z_S) : Prop :=
  if (zg_i σ 1 0) < (10 : Int32) then (w_X2_push σ (fun σ4 => w_X4_append x1 σ4 (fun r5 σ6 => Q r5 σ6))) else (Q (-2000000004 : Int32) σ)
def w_X5_addMeter (a1 : Int32) (σ : z_S) (Q : Int32 → z_S → Prop) : Prop :=
  if (zg_i σ 1 0) ≤ 0 then (w_X5_addMeter_24 Q a1 σ) else (w_X4_has a1 σ (fun r7 σ8 => if r7 = 0 then (Q (-2000000001 : Int32) σ8) else (w_X5_addMeter_24 Q a1 σ8)))
set_option maxHeartbeats 4000000 in
set_option maxRecDepth 100000 in
theorem t_X5_addMeter_24 {l : Launch} {D : va_G} {cI cJ cM cS : ClassId} {n0 : Nat} {p : Program} {e : Env} {s : State} {m : MethodId} {args : Array Value} {below : List Frame} {meth : Method} {c : Code}  {Q : Int32 → z_S → Prop} (hX : z_X D cI cJ cM cS p s m args c cX5_addMeter 2 yX5_addMeter.cls) (hY : z_Y s meth (some .int))  (x1 : Int32) (σ : z_S) (hf : w_X5_addMeter_24  Q x1 σ) : z_t D cI cJ cM cS n0 p l e rm_X5_addMeter s m args below meth c 2 (MQ below (va_Qi Q (fun u t => z_Bq D cI cJ cM cS n0 u t) (z_Ab n0)) args s 26 289 (z_Ab n0)) 0 0 24 [(0, .ref (n0 + 0)), (1, .int x1)] [] σ := by
  unfold w_X5_addMeter_24 at hf
  refine zt_aload_n hX 0 dX5_addMeter_24 rfl rfl ?_
  refine zt_get_X5 hX (by decide) (zE_0 _ _) 0 (by decide) kw_234 rfl rfl dX5_addMeter_25 ?_
  refine zt_get_X4 hX (by decide) (zE_1 _ _) 0 (by decide) kw_88 rfl rfl dX5_addMeter_28 ?_
  refine zt_bipush hX dX5_addMeter_31 (v := (10 : Int32)) (by decide) ?_
  refine zt_icmp_lt hX dX5_addMeter_33 (tgt := 39) (by decide) (fun c2 => ?_) (fun c2 => ?_)
  · replace hf := z_pos hf c2
    refine zt_aload_n hX 0 dX5_addMeter_39 rfl rfl ?_
    refine zt_get_X5 hX (by decide) (zE_0 _ _) 1 (by decide) kw_235 rfl rfl dX5_addMeter_40 ?_
    refine zt_aload_n hX 0 dX5_addMeter_43 rfl rfl ?_
    refine zt_get_X5 hX (by decide) (zE_0 _ _) 0 (by decide) kw_234 rfl rfl dX5_addMeter_44 ?_
    refine zt_callvV hX hY (av := [.ref (n0 + 1)]) (c_X2_push hf) dX5_addMeter_47 rfl kw_260 kw_261 kw_262 kw_63 kw_263 ⟨rfl, rfl⟩ hy_X2_push ⟨by decide, by decide⟩ ⟨by decide, by decide⟩ (Nat.le_of_ble_eq_true rfl) (by decide) (zE_27 _ _) rfl rfl (fun σ4 hf => ?_)
    refine zt_aload_n hX 0 dX5_addMeter_50 rfl rfl ?_
    refine zt_get_X5 hX (by decide) (zE_0 _ _) 0 (by decide) kw_234 rfl rfl dX5_addMeter_51 ?_
    refine zt_iload_n hX 1 dX5_addMeter_54 rfl rfl ?_
    refine zt_calliV hX hY (av := [.int x1]) (c_X4_append hf) dX5_addMeter_55 rfl kw_276 kw_277 kw_278 kw_62 kw_279 ⟨rfl, rfl⟩ hy_X4_append ⟨by decide, by decide⟩ ⟨by decide, by decide⟩ (Nat.le_of_ble_eq_true rfl) (by decide) (zE_1 _ _) rfl rfl (fun r5 σ6 hf => ?_)
    exact zt_iret hX hY dX5_addMeter_58 hf
  · replace hf := z_neg hf c2
    refine zt_ldc hX dX5_addMeter_36 kw_259 ?_
    refine zt_widen (c1 := 26) (s1 := 289) (by decide) (by decide) ?_
    exact zt_iret hX hY dX5_addMeter_38 hf
set_option maxHeartbeats 4000000 in
set_option maxRecDepth 100000 in
theorem c_X5_addMeter {l : Launch} {D : va_G} {cI cJ cM cS : ClassId} {n0 : Nat} {a1 : Int32} {σ : z_S} {Q : Int32 → z_S → Prop} (hf : w_X5_addMeter a1 σ Q) : z_ci l D cI cJ cM cS n0 yX5_addMeter cX5_addMeter 2 .int rm_X5_addMeter 26 289 [.ref (n0 + 0), .int a1] σ Q := by
  refine z_ofi (by decide +kernel) (Nat.le_of_ble_eq_true rfl) (fun p e s m args below meth c hX hY => ?_)
  unfold w_X5_addMeter at hf
  refine zt_L (L' := [(0, .ref (n0 + 0)), (1, .int a1)]) rfl ?_
  refine zt_aload_n hX 0 dX5_addMeter_0 rfl rfl ?_
  refine zt_get_X5 hX (by decide) (zE_0 _ _) 0 (by decide) kw_234 rfl rfl dX5_addMeter_1 ?_
  refine zt_get_X4 hX (by decide) (zE_1 _ _) 0 (by decide) kw_88 rfl rfl dX5_addMeter_4 ?_
  refine zt_if_le hX dX5_addMeter_7 (tgt := 24) (by decide) (fun c1 => ?_) (fun c1 => ?_)
  · replace hf := z_pos hf c1
    exact zt_sub [0, 1] rfl (t_X5_addMeter_24 hX hY _ _ hf)
  · replace hf := z_neg hf c1
    refine zt_aload_n hX 0 dX5_addMeter_10 rfl rfl ?_
    refine zt_get_X5 hX (by decide) (zE_0 _ _) 0 (by decide) kw_234 rfl rfl dX5_addMeter_11 ?_
    refine zt_iload_n hX 1 dX5_addMeter_14 rfl rfl ?_
    refine zt_calliV hX hY (av := [.int a1]) (c_X4_has hf) dX5_addMeter_15 rfl kw_254 kw_255 kw_256 kw_62 kw_257 ⟨rfl, rfl⟩ hy_X4_has ⟨by decide, by decide⟩ ⟨by decide, by decide⟩ (Nat.le_of_ble_eq_true rfl) (by decide) (zE_1 _ _) rfl rfl (fun r7 σ8 hf => ?_)
    refine zt_if_ne hX dX5_addMeter_18 (tgt := 24) (by decide) (fun c9 => ?_) (fun c9 => ?_)
    · replace hf := z_neg hf c9
      exact zt_sub [0, 1] rfl (t_X5_addMeter_24 hX hY _ _ hf)
    · replace hf := z_pos hf c9
      refine zt_ldc hX dX5_addMeter_21 kw_258 ?_
      refine zt_widen (c1 := 26) (s1 := 289) (by decide) (by decide) ?_
      exact zt_iret hX hY dX5_addMeter_23 hf

theorem dX5_setMeter_0 : decode cX5_setMeter 0 = .ok (.aload_n 0, 1) := by decide +kernel
theorem dX5_setMeter_1 : decode cX5_setMeter 1 = .ok (.getfield 10, 3) := by decide +kernel
theorem dX5_setMeter_4 : decode cX5_setMeter 4 = .ok (.iload_n 1, 1) := by decide +kernel
theorem dX5_setMeter_5 : decode cX5_setMeter 5 = .ok (.invokevirtual 48, 3) := by decide +kernel
theorem dX5_setMeter_8 : decode cX5_setMeter 8 = .ok (.ifCond .ne 6, 3) := by decide +kernel
theorem dX5_setMeter_11 : decode cX5_setMeter 11 = .ok (.ldc 52, 2) := by decide +kernel
theorem dX5_setMeter_13 : decode cX5_setMeter 13 = .ok (.ireturn, 1) := by decide +kernel
theorem dX5_setMeter_14 : decode cX5_setMeter 14 = .ok (.iload_n 2, 1) := by decide +kernel
theorem dX5_setMeter_15 : decode cX5_setMeter 15 = .ok (.iconst 1, 1) := by decide +kernel
theorem dX5_setMeter_16 : decode cX5_setMeter 16 = .ok (.bipush 100, 2) := by decide +kernel
theorem dX5_setMeter_18 : decode cX5_setMeter 18 = .ok (.invokestatic 62, 3) := by decide +kernel
theorem dX5_setMeter_21 : decode cX5_setMeter 21 = .ok (.ifCond .eq 13, 3) := by decide +kernel
theorem dX5_setMeter_24 : decode cX5_setMeter 24 = .ok (.iload_n 3, 1) := by decide +kernel
theorem dX5_setMeter_25 : decode cX5_setMeter 25 = .ok (.iconst 1, 1) := by decide +kernel
theorem dX5_setMeter_26 : decode cX5_setMeter 26 = .ok (.bipush 100, 2) := by decide +kernel
theorem dX5_setMeter_28 : decode cX5_setMeter 28 = .ok (.invokestatic 62, 3) := by decide +kernel
theorem dX5_setMeter_31 : decode cX5_setMeter 31 = .ok (.ifCond .ne 6, 3) := by decide +kernel
theorem dX5_setMeter_34 : decode cX5_setMeter 34 = .ok (.ldc 66, 2) := by decide +kernel
theorem dX5_setMeter_36 : decode cX5_setMeter 36 = .ok (.ireturn, 1) := by decide +kernel
theorem dX5_setMeter_37 : decode cX5_setMeter 37 = .ok (.aload_n 0, 1) := by decide +kernel
theorem dX5_setMeter_38 : decode cX5_setMeter 38 = .ok (.getfield 19, 3) := by decide +kernel
theorem dX5_setMeter_41 : decode cX5_setMeter 41 = .ok (.aload_n 0, 1) := by decide +kernel
theorem dX5_setMeter_42 : decode cX5_setMeter 42 = .ok (.getfield 10, 3) := by decide +kernel
theorem dX5_setMeter_45 : decode cX5_setMeter 45 = .ok (.invokevirtual 54, 3) := by decide +kernel
theorem dX5_setMeter_48 : decode cX5_setMeter 48 = .ok (.aload_n 0, 1) := by decide +kernel
theorem dX5_setMeter_49 : decode cX5_setMeter 49 = .ok (.getfield 10, 3) := by decide +kernel
theorem dX5_setMeter_52 : decode cX5_setMeter 52 = .ok (.getfield 67, 3) := by decide +kernel
theorem dX5_setMeter_55 : decode cX5_setMeter 55 = .ok (.iload_n 1, 1) := by decide +kernel
theorem dX5_setMeter_56 : decode cX5_setMeter 56 = .ok (.iaload, 1) := by decide +kernel
theorem dX5_setMeter_57 : decode cX5_setMeter 57 = .ok (.istore 4, 2) := by decide +kernel
theorem dX5_setMeter_59 : decode cX5_setMeter 59 = .ok (.aload_n 0, 1) := by decide +kernel
theorem dX5_setMeter_60 : decode cX5_setMeter 60 = .ok (.getfield 10, 3) := by decide +kernel
theorem dX5_setMeter_63 : decode cX5_setMeter 63 = .ok (.getfield 67, 3) := by decide +kernel
theorem dX5_setMeter_66 : decode cX5_setMeter 66 = .ok (.iload_n 1, 1) := by decide +kernel
theorem dX5_setMeter_67 : decode cX5_setMeter 67 = .ok (.iload_n 2, 1) := by decide +kernel
theorem dX5_setMeter_68 : decode cX5_setMeter 68 = .ok (.iastore, 1) := by decide +kernel
theorem dX5_setMeter_69 : decode cX5_setMeter 69 = .ok (.aload_n 0, 1) := by decide +kernel
theorem dX5_setMeter_70 : decode cX5_setMeter 70 = .ok (.getfield 10, 3) := by decide +kernel
theorem dX5_setMeter_73 : decode cX5_setMeter 73 = .ok (.getfield 71, 3) := by decide +kernel
theorem dX5_setMeter_76 : decode cX5_setMeter 76 = .ok (.iload_n 1, 1) := by decide +kernel
theorem dX5_setMeter_77 : decode cX5_setMeter 77 = .ok (.iload_n 3, 1) := by decide +kernel
theorem dX5_setMeter_78 : decode cX5_setMeter 78 = .ok (.iastore, 1) := by decide +kernel
theorem dX5_setMeter_79 : decode cX5_setMeter 79 = .ok (.iload 4, 2) := by decide +kernel
theorem dX5_setMeter_81 : decode cX5_setMeter 81 = .ok (.ireturn, 1) := by decide +kernel
abbrev rm_X5_setMeter : Room := { frames := 3, cells := 26, slots := 289, locals := 71 }
theorem hy_X5_setMeter : yX5_setMeter.cls ≠ "java/lang/invoke/MethodHandle" ∧ yX5_setMeter.cls ≠ "java/lang/invoke/VarHandle" ∧ (parseMethodDescriptor yX5_setMeter.desc).map (fun d => d.parameters.length) = some 3 := by decide +kernel
def w_X5_setMeter (a1 : Int32) (a2 : Int32) (a3 : Int32) (σ : z_S) (Q : Int32 → z_S → Prop) : Prop :=
  w_X4_has a1 σ (fun r1 σ2 => if r1 = 0 then (Q (-2000000001 : Int32) σ2) else (w_X5_within a2 (1 : Int32) (100 : Int32) σ2 (fun r4 σ5 => if r4 = 0 then (Q (-2000000002 : Int32) σ5) else (w_X5_within a3 (1 : Int32) (100 : Int32) σ5 (fun r7 σ8 => if r7 = 0 then (Q (-2000000002 : Int32) σ8) else (w_X2_push σ8 (fun σ11 => vp_in a1 10 ∧ ∀ y13 : Int32, y13 = (zg_i σ11 3 a1.toNatClampNeg) → vp_in a1 10 ∧ ∀ σ15 : z_S, σ15 = zs_i σ11 3 a1.toNatClampNeg a2 → vp_in a1 10 ∧ ∀ σ17 : z_S, σ17 = zs_i σ15 6 a1.toNatClampNeg a3 → Q y13 σ17)))))))
set_option maxHeartbeats 4000000 in
set_option maxRecDepth 100000 in
theorem c_X5_setMeter {l : Launch} {D : va_G} {cI cJ cM cS : ClassId} {n0 : Nat} {a1 : Int32} {a2 : Int32} {a3 : Int32} {σ : z_S} {Q : Int32 → z_S → Prop} (hf : w_X5_setMeter a1 a2 a3 σ Q) : z_ci l D cI cJ cM cS n0 yX5_setMeter cX5_setMeter 5 .int rm_X5_setMeter 26 289 [.ref (n0 + 0), .int a1, .int a2, .int a3] σ Q := by
  refine z_ofi (by decide +kernel) (Nat.le_of_ble_eq_true rfl) (fun p e s m args below meth c hX hY => ?_)
  unfold w_X5_setMeter at hf
  refine zt_L (L' := [(0, .ref (n0 + 0)), (1, .int a1), (2, .int a2), (3, .int a3)]) rfl ?_
  refine zt_aload_n hX 0 dX5_setMeter_0 rfl rfl ?_
  refine zt_get_X5 hX (by decide) (zE_0 _ _) 0 (by decide) kw_234 rfl rfl dX5_setMeter_1 ?_
  refine zt_iload_n hX 1 dX5_setMeter_4 rfl rfl ?_
  refine zt_calliV hX hY (av := [.int a1]) (c_X4_has hf) dX5_setMeter_5 rfl kw_254 kw_255 kw_256 kw_62 kw_257 ⟨rfl, rfl⟩ hy_X4_has ⟨by decide, by decide⟩ ⟨by decide, by decide⟩ (Nat.le_of_ble_eq_true rfl) (by decide) (zE_1 _ _) rfl rfl (fun r1 σ2 hf => ?_)
  refine zt_if_ne hX dX5_setMeter_8 (tgt := 14) (by decide) (fun c3 => ?_) (fun c3 => ?_)
  · replace hf := z_neg hf c3
    refine zt_iload_n hX 2 dX5_setMeter_14 rfl rfl ?_
    refine zt_iconst hX dX5_setMeter_15 (v := (1 : Int32)) (by decide) ?_
    refine zt_bipush hX dX5_setMeter_16 (v := (100 : Int32)) (by decide) ?_
    refine zt_calliS hX hY (av := [.int a2, .int (1 : Int32), .int (100 : Int32)]) (c_X5_within hf) dX5_setMeter_18 rfl kw_290 kw_291 kw_61 kw_292 ⟨rfl, rfl⟩ hy_X5_within ⟨by decide, by decide⟩ ⟨by decide, by decide⟩ (Nat.le_of_ble_eq_true rfl) (fun r4 σ5 hf => ?_)
    refine zt_if_eq hX dX5_setMeter_21 (tgt := 34) (by decide) (fun c6 => ?_) (fun c6 => ?_)
    · replace hf := z_pos hf c6
      refine zt_ldc hX dX5_setMeter_34 kw_293 ?_
      refine zt_widen (c1 := 26) (s1 := 289) (by decide) (by decide) ?_
      exact zt_iret hX hY dX5_setMeter_36 hf
    · replace hf := z_neg hf c6
      refine zt_iload_n hX 3 dX5_setMeter_24 rfl rfl ?_
      refine zt_iconst hX dX5_setMeter_25 (v := (1 : Int32)) (by decide) ?_
      refine zt_bipush hX dX5_setMeter_26 (v := (100 : Int32)) (by decide) ?_
      refine zt_calliS hX hY (av := [.int a3, .int (1 : Int32), .int (100 : Int32)]) (c_X5_within hf) dX5_setMeter_28 rfl kw_290 kw_291 kw_61 kw_292 ⟨rfl, rfl⟩ hy_X5_within ⟨by decide, by decide⟩ ⟨by decide, by decide⟩ (Nat.le_of_ble_eq_true rfl) (fun r7 σ8 hf => ?_)
      refine zt_if_ne hX dX5_setMeter_31 (tgt := 37) (by decide) (fun c9 => ?_) (fun c9 => ?_)
      · replace hf := z_neg hf c9
        refine zt_aload_n hX 0 dX5_setMeter_37 rfl rfl ?_
        refine zt_get_X5 hX (by decide) (zE_0 _ _) 1 (by decide) kw_235 rfl rfl dX5_setMeter_38 ?_
        refine zt_aload_n hX 0 dX5_setMeter_41 rfl rfl ?_
        refine zt_get_X5 hX (by decide) (zE_0 _ _) 0 (by decide) kw_234 rfl rfl dX5_setMeter_42 ?_
        refine zt_callvV hX hY (av := [.ref (n0 + 1)]) (c_X2_push hf) dX5_setMeter_45 rfl kw_260 kw_261 kw_262 kw_63 kw_263 ⟨rfl, rfl⟩ hy_X2_push ⟨by decide, by decide⟩ ⟨by decide, by decide⟩ (Nat.le_of_ble_eq_true rfl) (by decide) (zE_27 _ _) rfl rfl (fun σ11 hf => ?_)
        refine zt_aload_n hX 0 dX5_setMeter_48 rfl rfl ?_
        refine zt_get_X5 hX (by decide) (zE_0 _ _) 0 (by decide) kw_234 rfl rfl dX5_setMeter_49 ?_
        refine zt_get_X4 hX (by decide) (zE_1 _ _) 5 (by decide) kw_105 rfl rfl dX5_setMeter_52 ?_
        refine zt_iload_n hX 1 dX5_setMeter_55 rfl rfl ?_
        obtain ⟨h12, hf⟩ := hf
        refine zt_iaload hX dX5_setMeter_56 (by decide) rfl h12 ?_
        refine zt_nmi (fun y13 e13 => ?_)
        replace hf := hf y13 e13
        refine zt_istore (L' := [(4, .int y13), (0, .ref (n0 + 0)), (1, .int a1), (2, .int a2), (3, .int a3)]) hX dX5_setMeter_57 (by decide) rfl ?_
        refine zt_aload_n hX 1 dX5_setMeter_59 rfl rfl ?_
        refine zt_get_X5 hX (by decide) (zE_0 _ _) 0 (by decide) kw_234 rfl rfl dX5_setMeter_60 ?_
        refine zt_get_X4 hX (by decide) (zE_1 _ _) 5 (by decide) kw_105 rfl rfl dX5_setMeter_63 ?_
        refine zt_iload_n hX 2 dX5_setMeter_66 rfl rfl ?_
        refine zt_iload_n hX 3 dX5_setMeter_67 rfl rfl ?_
        obtain ⟨h14, hf⟩ := hf
        refine zt_iastore hX dX5_setMeter_68 (by decide) rfl h14 ?_
        refine zt_nms (fun σ15 d15 => ?_)
        replace hf := hf σ15 d15
        refine zt_aload_n hX 1 dX5_setMeter_69 rfl rfl ?_
        refine zt_get_X5 hX (by decide) (zE_0 _ _) 0 (by decide) kw_234 rfl rfl dX5_setMeter_70 ?_
        refine zt_get_X4 hX (by decide) (zE_1 _ _) 8 (by decide) kw_112 rfl rfl dX5_setMeter_73 ?_
        refine zt_iload_n hX 2 dX5_setMeter_76 rfl rfl ?_
        refine zt_iload_n hX 4 dX5_setMeter_77 rfl rfl ?_
        obtain ⟨h16, hf⟩ := hf
        refine zt_iastore hX dX5_setMeter_78 (by decide) rfl h16 ?_
        refine zt_nms (fun σ17 d17 => ?_)
        replace hf := hf σ17 d17
        refine zt_iload hX 0 dX5_setMeter_79 rfl ?_
        exact zt_iret hX hY dX5_setMeter_81 hf
      · replace hf := z_pos hf c9
        refine zt_ldc hX dX5_setMeter_34 kw_293 ?_
        refine zt_widen (c1 := 26) (s1 := 289) (by decide) (by decide) ?_
        exact zt_iret hX hY dX5_setMeter_36 hf
  · replace hf := z_pos hf c3
    refine zt_ldc hX dX5_setMeter_11 kw_258 ?_
    refine zt_widen (c1 := 26) (s1 := 289) (by decide) (by decide) ?_
    exact zt_iret hX hY dX5_setMeter_13 hf

theorem dX5_setRegister_0 : decode cX5_setRegister 0 = .ok (.aload_n 0, 1) := by decide +kernel
theorem dX5_setRegister_1 : decode cX5_setRegister 1 = .ok (.getfield 10, 3) := by decide +kernel
theorem dX5_setRegister_4 : decode cX5_setRegister 4 = .ok (.iload_n 1, 1) := by decide +kernel
theorem dX5_setRegister_5 : decode cX5_setRegister 5 = .ok (.invokevirtual 48, 3) := by decide +kernel
theorem dX5_setRegister_8 : decode cX5_setRegister 8 = .ok (.ifCond .ne 6, 3) := by decide +kernel
theorem dX5_setRegister_11 : decode cX5_setRegister 11 = .ok (.ldc 52, 2) := by decide +kernel
theorem dX5_setRegister_13 : decode cX5_setRegister 13 = .ok (.ireturn, 1) := by decide +kernel
theorem dX5_setRegister_14 : decode cX5_setRegister 14 = .ok (.iload_n 2, 1) := by decide +kernel
theorem dX5_setRegister_15 : decode cX5_setRegister 15 = .ok (.iconst 3, 1) := by decide +kernel
theorem dX5_setRegister_16 : decode cX5_setRegister 16 = .ok (.bipush 6, 2) := by decide +kernel
theorem dX5_setRegister_18 : decode cX5_setRegister 18 = .ok (.invokestatic 62, 3) := by decide +kernel
theorem dX5_setRegister_21 : decode cX5_setRegister 21 = .ok (.ifCond .eq 13, 3) := by decide +kernel
theorem dX5_setRegister_24 : decode cX5_setRegister 24 = .ok (.iload_n 3, 1) := by decide +kernel
theorem dX5_setRegister_25 : decode cX5_setRegister 25 = .ok (.iconst 1, 1) := by decide +kernel
theorem dX5_setRegister_26 : decode cX5_setRegister 26 = .ok (.ldc 74, 2) := by decide +kernel
theorem dX5_setRegister_28 : decode cX5_setRegister 28 = .ok (.invokestatic 62, 3) := by decide +kernel
theorem dX5_setRegister_31 : decode cX5_setRegister 31 = .ok (.ifCond .ne 6, 3) := by decide +kernel
theorem dX5_setRegister_34 : decode cX5_setRegister 34 = .ok (.ldc 66, 2) := by decide +kernel
theorem dX5_setRegister_36 : decode cX5_setRegister 36 = .ok (.ireturn, 1) := by decide +kernel
theorem dX5_setRegister_37 : decode cX5_setRegister 37 = .ok (.aload_n 0, 1) := by decide +kernel
theorem dX5_setRegister_38 : decode cX5_setRegister 38 = .ok (.getfield 19, 3) := by decide +kernel
theorem dX5_setRegister_41 : decode cX5_setRegister 41 = .ok (.aload_n 0, 1) := by decide +kernel
theorem dX5_setRegister_42 : decode cX5_setRegister 42 = .ok (.getfield 10, 3) := by decide +kernel
theorem dX5_setRegister_45 : decode cX5_setRegister 45 = .ok (.invokevirtual 54, 3) := by decide +kernel
theorem dX5_setRegister_48 : decode cX5_setRegister 48 = .ok (.aload_n 0, 1) := by decide +kernel
theorem dX5_setRegister_49 : decode cX5_setRegister 49 = .ok (.getfield 10, 3) := by decide +kernel
theorem dX5_setRegister_52 : decode cX5_setRegister 52 = .ok (.getfield 75, 3) := by decide +kernel
theorem dX5_setRegister_55 : decode cX5_setRegister 55 = .ok (.iload_n 1, 1) := by decide +kernel
theorem dX5_setRegister_56 : decode cX5_setRegister 56 = .ok (.iaload, 1) := by decide +kernel
theorem dX5_setRegister_57 : decode cX5_setRegister 57 = .ok (.istore 4, 2) := by decide +kernel
theorem dX5_setRegister_59 : decode cX5_setRegister 59 = .ok (.iload_n 2, 1) := by decide +kernel
theorem dX5_setRegister_60 : decode cX5_setRegister 60 = .ok (.iload 4, 2) := by decide +kernel
theorem dX5_setRegister_62 : decode cX5_setRegister 62 = .ok (.if_icmp .eq 11, 3) := by decide +kernel
theorem dX5_setRegister_65 : decode cX5_setRegister 65 = .ok (.aload_n 0, 1) := by decide +kernel
theorem dX5_setRegister_66 : decode cX5_setRegister 66 = .ok (.getfield 10, 3) := by decide +kernel
theorem dX5_setRegister_69 : decode cX5_setRegister 69 = .ok (.iload_n 1, 1) := by decide +kernel
theorem dX5_setRegister_70 : decode cX5_setRegister 70 = .ok (.invokevirtual 78, 3) := by decide +kernel
theorem dX5_setRegister_73 : decode cX5_setRegister 73 = .ok (.aload_n 0, 1) := by decide +kernel
theorem dX5_setRegister_74 : decode cX5_setRegister 74 = .ok (.getfield 10, 3) := by decide +kernel
theorem dX5_setRegister_77 : decode cX5_setRegister 77 = .ok (.getfield 75, 3) := by decide +kernel
theorem dX5_setRegister_80 : decode cX5_setRegister 80 = .ok (.iload_n 1, 1) := by decide +kernel
theorem dX5_setRegister_81 : decode cX5_setRegister 81 = .ok (.iload_n 2, 1) := by decide +kernel
theorem dX5_setRegister_82 : decode cX5_setRegister 82 = .ok (.iastore, 1) := by decide +kernel
theorem dX5_setRegister_83 : decode cX5_setRegister 83 = .ok (.aload_n 0, 1) := by decide +kernel
theorem dX5_setRegister_84 : decode cX5_setRegister 84 = .ok (.getfield 10, 3) := by decide +kernel
theorem dX5_setRegister_87 : decode cX5_setRegister 87 = .ok (.getfield 82, 3) := by decide +kernel
theorem dX5_setRegister_90 : decode cX5_setRegister 90 = .ok (.iload_n 1, 1) := by decide +kernel
theorem dX5_setRegister_91 : decode cX5_setRegister 91 = .ok (.iload_n 3, 1) := by decide +kernel
theorem dX5_setRegister_92 : decode cX5_setRegister 92 = .ok (.iastore, 1) := by decide +kernel
theorem dX5_setRegister_93 : decode cX5_setRegister 93 = .ok (.iload 4, 2) := by decide +kernel
theorem dX5_setRegister_95 : decode cX5_setRegister 95 = .ok (.ireturn, 1) := by decide +kernel
abbrev rm_X5_setRegister : Room := { frames := 3, cells := 26, slots := 289, locals := 71 }
theorem hy_X5_setRegister : yX5_setRegister.cls ≠ "java/lang/invoke/MethodHandle" ∧ yX5_setRegister.cls ≠ "java/lang/invoke/VarHandle" ∧ (parseMethodDescriptor yX5_setRegister.desc).map (fun d => d.parameters.length) = some 3 := by decide +kernel
def w_X5_setRegister_73  (Q : Int32 → z_S → Prop) (x1 : Int32) (x2 : Int32) (x3 : Int32) (x4 : Int32) (σ : z_S) : Prop :=
  vp_in x1 10 ∧ ∀ σ16 : z_S, σ16 = zs_i σ 4 x1.toNatClampNeg x2 → vp_in x1 10 ∧ ∀ σ18 : z_S, σ18 = zs_i σ16 5 x1.toNatClampNeg x3 → Q x4 σ18
def w_X5_setRegister (a1 : Int32) (a2 : Int32) (a3 : Int32) (σ : z_S) (Q : Int32 → z_S → Prop) : Prop :=
  w_X4_has a1 σ (fun r1 σ2 => if r1 = 0 then (Q (-2000000001 : Int32) σ2) else (w_X5_within a2 (3 : Int32) (6 : Int32) σ2 (fun r4 σ5 => if r4 = 0 then (Q (-2000000002 : Int32) σ5) else (w_X5_within a3 (1 : Int32) (50000 : Int32) σ5 (fun r7 σ8 => if r7 = 0 then (Q (-2000000002 : Int32) σ8) else (w_X2_push σ8 (fun σ11 => vp_in a1 10 ∧ ∀ y13 : Int32, y13 = (zg_i σ11 4 a1.toNatClampNeg) → if a2 = y13 then (w_X5_setRegister_73 Q a1 a2 a3 y13 σ11) else (w_X4_forgetReadings a1 σ11 (fun σ20 => w_X5_setRegister_73 Q a1 a2 a3 y13 σ20)))))))))
set_option maxHeartbeats 4000000 in
set_option maxRecDepth 100000 in
theorem t_X5_setRegister_73 {l : Launch} {D : va_G} {cI cJ cM cS : ClassId} {n0 : Nat} {p : Program} {e : Env} {s : State} {m : MethodId} {args : Array Value} {below : List Frame} {meth : Method} {c : Code}  {Q : Int32 → z_S → Prop} (hX : z_X D cI cJ cM cS p s m args c cX5_setRegister 5 yX5_setRegister.cls) (hY : z_Y s meth (some .int))  (x1 : Int32) (x2 : Int32) (x3 : Int32) (x4 : Int32) (σ : z_S) (hf : w_X5_setRegister_73  Q x1 x2 x3 x4 σ) : z_t D cI cJ cM cS n0 p l e rm_X5_setRegister s m args below meth c 5 (MQ below (va_Qi Q (fun u t => z_Bq D cI cJ cM cS n0 u t) (z_Ab n0)) args s 26 289 (z_Ab n0)) 26 289 73 [(0, .ref (n0 + 0)), (1, .int x1), (2, .int x2), (3, .int x3), (4, .int x4)] [] σ := by
  unfold w_X5_setRegister_73 at hf
  refine zt_aload_n hX 0 dX5_setRegister_73 rfl rfl ?_
  refine zt_get_X5 hX (by decide) (zE_0 _ _) 0 (by decide) kw_234 rfl rfl dX5_setRegister_74 ?_
  refine zt_get_X4 hX (by decide) (zE_1 _ _) 6 (by decide) kw_107 rfl rfl dX5_setRegister_77 ?_
  refine zt_iload_n hX 1 dX5_setRegister_80 rfl rfl ?_
  refine zt_iload_n hX 2 dX5_setRegister_81 rfl rfl ?_
  obtain ⟨h15, hf⟩ := hf
  refine zt_iastore hX dX5_setRegister_82 (by decide) rfl h15 ?_
  refine zt_nms (fun σ16 d16 => ?_)
  replace hf := hf σ16 d16
  refine zt_aload_n hX 0 dX5_setRegister_83 rfl rfl ?_
  refine zt_get_X5 hX (by decide) (zE_0 _ _) 0 (by decide) kw_234 rfl rfl dX5_setRegister_84 ?_
  refine zt_get_X4 hX (by decide) (zE_1 _ _) 7 (by decide) kw_110 rfl rfl dX5_setRegister_87 ?_
  refine zt_iload_n hX 1 dX5_setRegister_90 rfl rfl ?_
  refine zt_iload_n hX 3 dX5_setRegister_91 rfl rfl ?_
  obtain ⟨h17, hf⟩ := hf
  refine zt_iastore hX dX5_setRegister_92 (by decide) rfl h17 ?_
  refine zt_nms (fun σ18 d18 => ?_)
  replace hf := hf σ18 d18
  refine zt_iload hX 4 dX5_setRegister_93 rfl ?_
  exact zt_iret hX hY dX5_setRegister_95 hf
set_option maxHeartbeats 4000000 in
set_option maxRecDepth 100000 in
theorem c_X5_setRegister {l : Launch} {D : va_G} {cI cJ cM cS : ClassId} {n0 : Nat} {a1 : Int32} {a2 : Int32} {a3 : Int32} {σ : z_S} {Q : Int32 → z_S → Prop} (hf : w_X5_setRegister a1 a2 a3 σ Q) : z_ci l D cI cJ cM cS n0 yX5_setRegister cX5_setRegister 5 .int rm_X5_setRegister 26 289 [.ref (n0 + 0), .int a1, .int a2, .int a3] σ Q := by
  refine z_ofi (by decide +kernel) (Nat.le_of_ble_eq_true rfl) (fun p e s m args below meth c hX hY => ?_)
  unfold w_X5_setRegister at hf
  refine zt_L (L' := [(0, .ref (n0 + 0)), (1, .int a1), (2, .int a2), (3, .int a3)]) rfl ?_
  refine zt_aload_n hX 0 dX5_setRegister_0 rfl rfl ?_
  refine zt_get_X5 hX (by decide) (zE_0 _ _) 0 (by decide) kw_234 rfl rfl dX5_setRegister_1 ?_
  refine zt_iload_n hX 1 dX5_setRegister_4 rfl rfl ?_
  refine zt_calliV hX hY (av := [.int a1]) (c_X4_has hf) dX5_setRegister_5 rfl kw_254 kw_255 kw_256 kw_62 kw_257 ⟨rfl, rfl⟩ hy_X4_has ⟨by decide, by decide⟩ ⟨by decide, by decide⟩ (Nat.le_of_ble_eq_true rfl) (by decide) (zE_1 _ _) rfl rfl (fun r1 σ2 hf => ?_)
  refine zt_if_ne hX dX5_setRegister_8 (tgt := 14) (by decide) (fun c3 => ?_) (fun c3 => ?_)
  · replace hf := z_neg hf c3
    refine zt_iload_n hX 2 dX5_setRegister_14 rfl rfl ?_
    refine zt_iconst hX dX5_setRegister_15 (v := (3 : Int32)) (by decide) ?_
    refine zt_bipush hX dX5_setRegister_16 (v := (6 : Int32)) (by decide) ?_
    refine zt_calliS hX hY (av := [.int a2, .int (3 : Int32), .int (6 : Int32)]) (c_X5_within hf) dX5_setRegister_18 rfl kw_290 kw_291 kw_61 kw_292 ⟨rfl, rfl⟩ hy_X5_within ⟨by decide, by decide⟩ ⟨by decide, by decide⟩ (Nat.le_of_ble_eq_true rfl) (fun r4 σ5 hf => ?_)
    refine zt_if_eq hX dX5_setRegister_21 (tgt := 34) (by decide) (fun c6 => ?_) (fun c6 => ?_)
    · replace hf := z_pos hf c6
      refine zt_ldc hX dX5_setRegister_34 kw_293 ?_
      refine zt_widen (c1 := 26) (s1 := 289) (by decide) (by decide) ?_
      exact zt_iret hX hY dX5_setRegister_36 hf
    · replace hf := z_neg hf c6
      refine zt_iload_n hX 3 dX5_setRegister_24 rfl rfl ?_
      refine zt_iconst hX dX5_setRegister_25 (v := (1 : Int32)) (by decide) ?_
      refine zt_ldc hX dX5_setRegister_26 kw_298 ?_
      refine zt_calliS hX hY (av := [.int a3, .int (1 : Int32), .int (50000 : Int32)]) (c_X5_within hf) dX5_setRegister_28 rfl kw_290 kw_291 kw_61 kw_292 ⟨rfl, rfl⟩ hy_X5_within ⟨by decide, by decide⟩ ⟨by decide, by decide⟩ (Nat.le_of_ble_eq_true rfl) (fun r7 σ8 hf => ?_)
      refine zt_if_ne hX dX5_setRegister_31 (tgt := 37) (by decide) (fun c9 => ?_) (fun c9 => ?_)
      · replace hf := z_neg hf c9
        refine zt_aload_n hX 0 dX5_setRegister_37 rfl rfl ?_
        refine zt_get_X5 hX (by decide) (zE_0 _ _) 1 (by decide) kw_235 rfl rfl dX5_setRegister_38 ?_
        refine zt_aload_n hX 0 dX5_setRegister_41 rfl rfl ?_
        refine zt_get_X5 hX (by decide) (zE_0 _ _) 0 (by decide) kw_234 rfl rfl dX5_setRegister_42 ?_
        refine zt_callvV hX hY (av := [.ref (n0 + 1)]) (c_X2_push hf) dX5_setRegister_45 rfl kw_260 kw_261 kw_262 kw_63 kw_263 ⟨rfl, rfl⟩ hy_X2_push ⟨by decide, by decide⟩ ⟨by decide, by decide⟩ (Nat.le_of_ble_eq_true rfl) (by decide) (zE_27 _ _) rfl rfl (fun σ11 hf => ?_)
        refine zt_aload_n hX 0 dX5_setRegister_48 rfl rfl ?_
        refine zt_get_X5 hX (by decide) (zE_0 _ _) 0 (by decide) kw_234 rfl rfl dX5_setRegister_49 ?_
        refine zt_get_X4 hX (by decide) (zE_1 _ _) 6 (by decide) kw_107 rfl rfl dX5_setRegister_52 ?_
        refine zt_iload_n hX 1 dX5_setRegister_55 rfl rfl ?_
        obtain ⟨h12, hf⟩ := hf
        refine zt_iaload hX dX5_setRegister_56 (by decide) rfl h12 ?_
        refine zt_nmi (fun y13 e13 => ?_)
        replace hf := hf y13 e13
        refine zt_istore (L' := [(4, .int y13), (0, .ref (n0 + 0)), (1, .int a1), (2, .int a2), (3, .int a3)]) hX dX5_setRegister_57 (by decide) rfl ?_
        refine zt_iload_n hX 3 dX5_setRegister_59 rfl rfl ?_
        refine zt_iload hX 0 dX5_setRegister_60 rfl ?_
        refine zt_icmp_eq hX dX5_setRegister_62 (tgt := 73) (by decide) (fun c14 => ?_) (fun c14 => ?_)
        · replace hf := z_pos hf c14
          exact zt_sub [1, 2, 3, 4, 0] rfl (t_X5_setRegister_73 hX hY _ _ _ _ _ hf)
        · replace hf := z_neg hf c14
          refine zt_aload_n hX 1 dX5_setRegister_65 rfl rfl ?_
          refine zt_get_X5 hX (by decide) (zE_0 _ _) 0 (by decide) kw_234 rfl rfl dX5_setRegister_66 ?_
          refine zt_iload_n hX 2 dX5_setRegister_69 rfl rfl ?_
          refine zt_callvV hX hY (av := [.int a1]) (c_X4_forgetReadings hf) dX5_setRegister_70 rfl kw_299 kw_283 kw_284 kw_62 kw_285 ⟨rfl, rfl⟩ hy_X4_forgetReadings ⟨by decide, by decide⟩ ⟨by decide, by decide⟩ (Nat.le_of_ble_eq_true rfl) (by decide) (zE_1 _ _) rfl rfl (fun σ20 hf => ?_)
          exact zt_sub [1, 2, 3, 4, 0] rfl (t_X5_setRegister_73 hX hY _ _ _ _ _ hf)
      · replace hf := z_pos hf c9
        refine zt_ldc hX dX5_setRegister_34 kw_293 ?_
        refine zt_widen (c1 := 26) (s1 := 289) (by decide) (by decide) ?_
        exact zt_iret hX hY dX5_setRegister_36 hf
  · replace hf := z_pos hf c3
    refine zt_ldc hX dX5_setRegister_11 kw_258 ?_
    refine zt_widen (c1 := 26) (s1 := 289) (by decide) (by decide) ?_
    exact zt_iret hX hY dX5_setRegister_13 hf

theorem dX5_setRules_0 : decode cX5_setRules 0 = .ok (.iload_n 1, 1) := by decide +kernel
theorem dX5_setRules_1 : decode cX5_setRules 1 = .ok (.iconst 2, 1) := by decide +kernel
theorem dX5_setRules_2 : decode cX5_setRules 2 = .ok (.bipush 20, 2) := by decide +kernel
theorem dX5_setRules_4 : decode cX5_setRules 4 = .ok (.invokestatic 62, 3) := by decide +kernel
theorem dX5_setRules_7 : decode cX5_setRules 7 = .ok (.ifCond .eq 14, 3) := by decide +kernel
theorem dX5_setRules_10 : decode cX5_setRules 10 = .ok (.iload_n 2, 1) := by decide +kernel
theorem dX5_setRules_11 : decode cX5_setRules 11 = .ok (.iconst 0, 1) := by decide +kernel
theorem dX5_setRules_12 : decode cX5_setRules 12 = .ok (.sipush 1000, 3) := by decide +kernel
theorem dX5_setRules_15 : decode cX5_setRules 15 = .ok (.invokestatic 62, 3) := by decide +kernel
theorem dX5_setRules_18 : decode cX5_setRules 18 = .ok (.ifCond .ne 6, 3) := by decide +kernel
theorem dX5_setRules_21 : decode cX5_setRules 21 = .ok (.ldc 66, 2) := by decide +kernel
theorem dX5_setRules_23 : decode cX5_setRules 23 = .ok (.ireturn, 1) := by decide +kernel
theorem dX5_setRules_24 : decode cX5_setRules 24 = .ok (.aload_n 0, 1) := by decide +kernel
theorem dX5_setRules_25 : decode cX5_setRules 25 = .ok (.getfield 19, 3) := by decide +kernel
theorem dX5_setRules_28 : decode cX5_setRules 28 = .ok (.aload_n 0, 1) := by decide +kernel
theorem dX5_setRules_29 : decode cX5_setRules 29 = .ok (.getfield 10, 3) := by decide +kernel
theorem dX5_setRules_32 : decode cX5_setRules 32 = .ok (.invokevirtual 54, 3) := by decide +kernel
theorem dX5_setRules_35 : decode cX5_setRules 35 = .ok (.aload_n 0, 1) := by decide +kernel
theorem dX5_setRules_36 : decode cX5_setRules 36 = .ok (.getfield 10, 3) := by decide +kernel
theorem dX5_setRules_39 : decode cX5_setRules 39 = .ok (.getfield 85, 3) := by decide +kernel
theorem dX5_setRules_42 : decode cX5_setRules 42 = .ok (.istore_n 3, 1) := by decide +kernel
theorem dX5_setRules_43 : decode cX5_setRules 43 = .ok (.aload_n 0, 1) := by decide +kernel
theorem dX5_setRules_44 : decode cX5_setRules 44 = .ok (.getfield 10, 3) := by decide +kernel
theorem dX5_setRules_47 : decode cX5_setRules 47 = .ok (.iload_n 1, 1) := by decide +kernel
theorem dX5_setRules_48 : decode cX5_setRules 48 = .ok (.putfield 85, 3) := by decide +kernel
theorem dX5_setRules_51 : decode cX5_setRules 51 = .ok (.aload_n 0, 1) := by decide +kernel
theorem dX5_setRules_52 : decode cX5_setRules 52 = .ok (.getfield 10, 3) := by decide +kernel
theorem dX5_setRules_55 : decode cX5_setRules 55 = .ok (.iload_n 2, 1) := by decide +kernel
theorem dX5_setRules_56 : decode cX5_setRules 56 = .ok (.putfield 88, 3) := by decide +kernel
theorem dX5_setRules_59 : decode cX5_setRules 59 = .ok (.iload_n 3, 1) := by decide +kernel
theorem dX5_setRules_60 : decode cX5_setRules 60 = .ok (.ireturn, 1) := by decide +kernel
abbrev rm_X5_setRules : Room := { frames := 3, cells := 26, slots := 289, locals := 71 }
theorem hy_X5_setRules : yX5_setRules.cls ≠ "java/lang/invoke/MethodHandle" ∧ yX5_setRules.cls ≠ "java/lang/invoke/VarHandle" ∧ (parseMethodDescriptor yX5_setRules.desc).map (fun d => d.parameters.length) = some 2 := by decide +kernel
def w_X5_setRules (a1 : Int32) (a2 : Int32) (σ : z_S) (Q : Int32 → z_S → Prop) : Prop :=
  w_X5_within a1 (2 : Int32) (20 : Int32) σ (fun r1 σ2 => if r1 = 0 then (Q (-2000000002 : Int32) σ2) else (w_X5_within a2 (0 : Int32) (1000 : Int32) σ2 (fun r4 σ5 => if r4 = 0 then (Q (-2000000002 : Int32) σ5) else (w_X2_push σ5 (fun σ8 => ∀ y9 : Int32, y9 = (zg_i σ8 1 1) → ∀ σ10 : z_S, σ10 = zs_i σ8 1 1 a1 → ∀ σ11 : z_S, σ11 = zs_i σ10 1 2 a2 → Q y9 σ11)))))
set_option maxHeartbeats 4000000 in
set_option maxRecDepth 100000 in
theorem c_X5_setRules {l : Launch} {D : va_G} {cI cJ cM cS : ClassId} {n0 : Nat} {a1 : Int32} {a2 : Int32} {σ : z_S} {Q : Int32 → z_S → Prop} (hf : w_X5_setRules a1 a2 σ Q) : z_ci l D cI cJ cM cS n0 yX5_setRules cX5_setRules 4 .int rm_X5_setRules 26 289 [.ref (n0 + 0), .int a1, .int a2] σ Q := by
  refine z_ofi (by decide +kernel) (Nat.le_of_ble_eq_true rfl) (fun p e s m args below meth c hX hY => ?_)
  unfold w_X5_setRules at hf
  refine zt_L (L' := [(0, .ref (n0 + 0)), (1, .int a1), (2, .int a2)]) rfl ?_
  refine zt_iload_n hX 1 dX5_setRules_0 rfl rfl ?_
  refine zt_iconst hX dX5_setRules_1 (v := (2 : Int32)) (by decide) ?_
  refine zt_bipush hX dX5_setRules_2 (v := (20 : Int32)) (by decide) ?_
  refine zt_calliS hX hY (av := [.int a1, .int (2 : Int32), .int (20 : Int32)]) (c_X5_within hf) dX5_setRules_4 rfl kw_290 kw_291 kw_61 kw_292 ⟨rfl, rfl⟩ hy_X5_within ⟨by decide, by decide⟩ ⟨by decide, by decide⟩ (Nat.le_of_ble_eq_true rfl) (fun r1 σ2 hf => ?_)
  refine zt_if_eq hX dX5_setRules_7 (tgt := 21) (by decide) (fun c3 => ?_) (fun c3 => ?_)
  · replace hf := z_pos hf c3
    refine zt_ldc hX dX5_setRules_21 kw_293 ?_
    refine zt_widen (c1 := 26) (s1 := 289) (by decide) (by decide) ?_
    exact zt_iret hX hY dX5_setRules_23 hf
  · replace hf := z_neg hf c3
    refine zt_iload_n hX 2 dX5_setRules_10 rfl rfl ?_
    refine zt_iconst hX dX5_setRules_11 (v := (0 : Int32)) (by decide) ?_
    refine zt_sipush hX dX5_setRules_12 (v := (1000 : Int32)) (by decide) ?_
    refine zt_calliS hX hY (av := [.int a2, .int (0 : Int32), .int (1000 : Int32)]) (c_X5_within hf) dX5_setRules_15 rfl kw_290 kw_291 kw_61 kw_292 ⟨rfl, rfl⟩ hy_X5_within ⟨by decide, by decide⟩ ⟨by decide, by decide⟩ (Nat.le_of_ble_eq_true rfl) (fun r4 σ5 hf => ?_)
    refine zt_if_ne hX dX5_setRules_18 (tgt := 24) (by decide) (fun c6 => ?_) (fun c6 => ?_)
    · replace hf := z_neg hf c6
      refine zt_aload_n hX 0 dX5_setRules_24 rfl rfl ?_
      refine zt_get_X5 hX (by decide) (zE_0 _ _) 1 (by decide) kw_235 rfl rfl dX5_setRules_25 ?_
      refine zt_aload_n hX 0 dX5_setRules_28 rfl rfl ?_
      refine zt_get_X5 hX (by decide) (zE_0 _ _) 0 (by decide) kw_234 rfl rfl dX5_setRules_29 ?_
      refine zt_callvV hX hY (av := [.ref (n0 + 1)]) (c_X2_push hf) dX5_setRules_32 rfl kw_260 kw_261 kw_262 kw_63 kw_263 ⟨rfl, rfl⟩ hy_X2_push ⟨by decide, by decide⟩ ⟨by decide, by decide⟩ (Nat.le_of_ble_eq_true rfl) (by decide) (zE_27 _ _) rfl rfl (fun σ8 hf => ?_)
      refine zt_aload_n hX 0 dX5_setRules_35 rfl rfl ?_
      refine zt_get_X5 hX (by decide) (zE_0 _ _) 0 (by decide) kw_234 rfl rfl dX5_setRules_36 ?_
      refine zt_get_X4 hX (by decide) (zE_1 _ _) 1 (by decide) kw_93 rfl rfl dX5_setRules_39 ?_
      refine zt_nmi (fun y9 e9 => ?_)
      replace hf := hf y9 e9
      refine zt_istore_n (L' := [(3, .int y9), (0, .ref (n0 + 0)), (1, .int a1), (2, .int a2)]) hX dX5_setRules_42 rfl (by decide) rfl ?_
      refine zt_aload_n hX 1 dX5_setRules_43 rfl rfl ?_
      refine zt_get_X5 hX (by decide) (zE_0 _ _) 0 (by decide) kw_234 rfl rfl dX5_setRules_44 ?_
      refine zt_iload_n hX 2 dX5_setRules_47 rfl rfl ?_
      refine zt_puti_X4 hX (by decide) (zE_1 _ _) 1 (by decide) kw_93 rfl rfl (Nat.le_of_ble_eq_true rfl) rfl rfl dX5_setRules_48 ?_
      refine zt_nms (fun σ10 d10 => ?_)
      replace hf := hf σ10 d10
      refine zt_aload_n hX 1 dX5_setRules_51 rfl rfl ?_
      refine zt_get_X5 hX (by decide) (zE_0 _ _) 0 (by decide) kw_234 rfl rfl dX5_setRules_52 ?_
      refine zt_iload_n hX 3 dX5_setRules_55 rfl rfl ?_
      refine zt_puti_X4 hX (by decide) (zE_1 _ _) 2 (by decide) kw_95 rfl rfl (Nat.le_of_ble_eq_true rfl) rfl rfl dX5_setRules_56 ?_
      refine zt_nms (fun σ11 d11 => ?_)
      replace hf := hf σ11 d11
      refine zt_iload_n hX 0 dX5_setRules_59 rfl rfl ?_
      exact zt_iret hX hY dX5_setRules_60 hf
    · replace hf := z_pos hf c6
      refine zt_ldc hX dX5_setRules_21 kw_293 ?_
      refine zt_widen (c1 := 26) (s1 := 289) (by decide) (by decide) ?_
      exact zt_iret hX hY dX5_setRules_23 hf
