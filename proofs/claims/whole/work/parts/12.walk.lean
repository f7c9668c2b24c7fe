theorem dX1_sumImbalanceScaled_0 : decode cX1_sumImbalanceScaled 0 = .ok (.iconst 0, 1) := by decide +kernel
theorem dX1_sumImbalanceScaled_1 : decode cX1_sumImbalanceScaled 1 = .ok (.istore 5, 2) := by decide +kernel
theorem dX1_sumImbalanceScaled_3 : decode cX1_sumImbalanceScaled 3 = .ok (.iconst 0, 1) := by decide +kernel
theorem dX1_sumImbalanceScaled_4 : decode cX1_sumImbalanceScaled 4 = .ok (.istore 6, 2) := by decide +kernel
theorem dX1_sumImbalanceScaled_6 : decode cX1_sumImbalanceScaled 6 = .ok (.iload 6, 2) := by decide +kernel
theorem dX1_sumImbalanceScaled_8 : decode cX1_sumImbalanceScaled 8 = .ok (.bipush 12, 2) := by decide +kernel
theorem dX1_sumImbalanceScaled_10 : decode cX1_sumImbalanceScaled 10 = .ok (.if_icmp .ge 47, 3) := by decide +kernel
theorem dX1_sumImbalanceScaled_13 : decode cX1_sumImbalanceScaled 13 = .ok (.aload_n 0, 1) := by decide +kernel
theorem dX1_sumImbalanceScaled_14 : decode cX1_sumImbalanceScaled 14 = .ok (.getfield 11, 3) := by decide +kernel
theorem dX1_sumImbalanceScaled_17 : decode cX1_sumImbalanceScaled 17 = .ok (.iload_n 3, 1) := by decide +kernel
theorem dX1_sumImbalanceScaled_18 : decode cX1_sumImbalanceScaled 18 = .ok (.aaload, 1) := by decide +kernel
theorem dX1_sumImbalanceScaled_19 : decode cX1_sumImbalanceScaled 19 = .ok (.iload 6, 2) := by decide +kernel
theorem dX1_sumImbalanceScaled_21 : decode cX1_sumImbalanceScaled 21 = .ok (.iaload, 1) := by decide +kernel
theorem dX1_sumImbalanceScaled_22 : decode cX1_sumImbalanceScaled 22 = .ok (.istore 7, 2) := by decide +kernel
theorem dX1_sumImbalanceScaled_24 : decode cX1_sumImbalanceScaled 24 = .ok (.iload 5, 2) := by decide +kernel
theorem dX1_sumImbalanceScaled_26 : decode cX1_sumImbalanceScaled 26 = .ok (.aload_n 0, 1) := by decide +kernel
theorem dX1_sumImbalanceScaled_27 : decode cX1_sumImbalanceScaled 27 = .ok (.aload_n 1, 1) := by decide +kernel
theorem dX1_sumImbalanceScaled_28 : decode cX1_sumImbalanceScaled 28 = .ok (.iload_n 2, 1) := by decide +kernel
theorem dX1_sumImbalanceScaled_29 : decode cX1_sumImbalanceScaled 29 = .ok (.iload 6, 2) := by decide +kernel
theorem dX1_sumImbalanceScaled_31 : decode cX1_sumImbalanceScaled 31 = .ok (.invokevirtual 71, 3) := by decide +kernel
theorem dX1_sumImbalanceScaled_34 : decode cX1_sumImbalanceScaled 34 = .ok (.iload 7, 2) := by decide +kernel
theorem dX1_sumImbalanceScaled_36 : decode cX1_sumImbalanceScaled 36 = .ok (.iadd, 1) := by decide +kernel
theorem dX1_sumImbalanceScaled_37 : decode cX1_sumImbalanceScaled 37 = .ok (.iload 7, 2) := by decide +kernel
theorem dX1_sumImbalanceScaled_39 : decode cX1_sumImbalanceScaled 39 = .ok (.iload 4, 2) := by decide +kernel
theorem dX1_sumImbalanceScaled_41 : decode cX1_sumImbalanceScaled 41 = .ok (.invokestatic 86, 3) := by decide +kernel
theorem dX1_sumImbalanceScaled_44 : decode cX1_sumImbalanceScaled 44 = .ok (.isub, 1) := by decide +kernel
theorem dX1_sumImbalanceScaled_45 : decode cX1_sumImbalanceScaled 45 = .ok (.invokestatic 80, 3) := by decide +kernel
theorem dX1_sumImbalanceScaled_48 : decode cX1_sumImbalanceScaled 48 = .ok (.iadd, 1) := by decide +kernel
theorem dX1_sumImbalanceScaled_49 : decode cX1_sumImbalanceScaled 49 = .ok (.istore 5, 2) := by decide +kernel
theorem dX1_sumImbalanceScaled_51 : decode cX1_sumImbalanceScaled 51 = .ok (.iinc 6 1, 3) := by decide +kernel
theorem dX1_sumImbalanceScaled_54 : decode cX1_sumImbalanceScaled 54 = .ok (.goto (-48), 3) := by decide +kernel
theorem dX1_sumImbalanceScaled_57 : decode cX1_sumImbalanceScaled 57 = .ok (.iload 5, 2) := by decide +kernel
theorem dX1_sumImbalanceScaled_59 : decode cX1_sumImbalanceScaled 59 = .ok (.ireturn, 1) := by decide +kernel
abbrev rm_X1_sumImbalanceScaled : Room := { frames := 1, cells := 0, slots := 0, locals := 25 }
theorem hy_X1_sumImbalanceScaled : yX1_sumImbalanceScaled.cls ≠ "java/lang/invoke/MethodHandle" ∧ yX1_sumImbalanceScaled.cls ≠ "java/lang/invoke/VarHandle" ∧ (parseMethodDescriptor yX1_sumImbalanceScaled.desc).map (fun d => d.parameters.length) = some 4 := by decide +kernel
def wb_X1_sumImbalanceScaled_6  (Q : Int32 → z_S → Prop) (k6 : Int32 → Int32 → Int32 → Int32 → Int32 → z_S → Prop) (x2 : Int32) (x3 : Int32) (x4 : Int32) (x5 : Int32) (x6 : Int32) (σ : z_S) : Prop :=
  if (12 : Int32) ≤ x6 then (Q x5 σ) else (vp_in x3 10 ∧ vp_in x6 12 ∧ ∀ y4 : Int32, y4 = (zg_i σ (31 + x3.toNatClampNeg) x6.toNatClampNeg) → w_X1_lossIn x2 x6 σ (fun r5 σ6 => w_X1_scaled y4 x4 σ6 (fun r7 σ8 => ∀ y9 : Int32, y9 = (x5 + (if 0 ≤ ((r5 + y4) - r7) then ((r5 + y4) - r7) else 0 - ((r5 + y4) - r7))) → ∀ y10 : Int32, y10 = (x6 + (1 : Int32)) → k6 x2 x3 x4 y9 y10 σ8)))
def w_X1_sumImbalanceScaled_6  (Q : Int32 → z_S → Prop) : Nat → Int32 → Int32 → Int32 → Int32 → Int32 → z_S → Prop
  | 0 => fun _ _ _ _ _ _ => False
  | n + 1 => wb_X1_sumImbalanceScaled_6  Q (w_X1_sumImbalanceScaled_6  Q n)
def w_X1_sumImbalanceScaled (a2 : Int32) (a3 : Int32) (a4 : Int32) (σ : z_S) (Q : Int32 → z_S → Prop) : Prop :=
  w_X1_sumImbalanceScaled_6 Q 400 a2 a3 a4 (0 : Int32) (0 : Int32) σ
set_option maxHeartbeats 4000000 in
set_option maxRecDepth 100000 in
theorem t_X1_sumImbalanceScaled_6 {l : Launch} {D : va_G} {cI cJ cM cS : ClassId} {n0 : Nat} {p : Program} {e : Env} {s : State} {m : MethodId} {args : Array Value} {below : List Frame} {meth : Method} {c : Code}  {Q : Int32 → z_S → Prop} (hX : z_X D cI cJ cM cS p s m args c cX1_sumImbalanceScaled 8 yX1_sumImbalanceScaled.cls) (hY : z_Y s meth (some .int))  : ∀ (n : Nat) (x2 : Int32) (x3 : Int32) (x4 : Int32) (x5 : Int32) (x6 : Int32) (σ : z_S), w_X1_sumImbalanceScaled_6  Q n x2 x3 x4 x5 x6 σ → z_t D cI cJ cM cS n0 p l e rm_X1_sumImbalanceScaled s m args below meth c 8 (MQ below (va_Qi Q (fun u t => z_Bq D cI cJ cM cS n0 u t) (z_Ab n0)) args s 0 0 (z_Ab n0)) 0 0 6 [(0, .ref (n0 + 29)), (1, .ref (n0 + 1)), (2, .int x2), (3, .int x3), (4, .int x4), (5, .int x5), (6, .int x6)] [] σ := by
  intro n
  induction n with
  | zero => intro _ _ _ _ _ _ hf; exact hf.elim
  | succ n ih6 =>
    intro x2 x3 x4 x5 x6 σ hf
    have hf : wb_X1_sumImbalanceScaled_6  Q (w_X1_sumImbalanceScaled_6  Q n) x2 x3 x4 x5 x6 σ := hf
    unfold wb_X1_sumImbalanceScaled_6 at hf
    refine zt_iload hX 6 dX1_sumImbalanceScaled_6 rfl ?_
    refine zt_bipush hX dX1_sumImbalanceScaled_8 (v := (12 : Int32)) (by decide) ?_
    refine zt_icmp_ge hX dX1_sumImbalanceScaled_10 (tgt := 57) (by decide) (fun c1 => ?_) (fun c1 => ?_)
    · replace hf := z_pos hf c1
      refine zt_iload hX 5 dX1_sumImbalanceScaled_57 rfl ?_
      exact zt_iret hX hY dX1_sumImbalanceScaled_59 hf
    · replace hf := z_neg hf c1
      refine zt_aload_n hX 0 dX1_sumImbalanceScaled_13 rfl rfl ?_
      refine zt_get_X1 hX (by decide) (zE_29 _ _) 0 (by decide) kw_166 rfl rfl dX1_sumImbalanceScaled_14 ?_
      refine zt_iload_n hX 3 dX1_sumImbalanceScaled_17 rfl rfl ?_
      obtain ⟨h2, hf⟩ := hf
      refine zt_aaloadM hX dX1_sumImbalanceScaled_18 (by decide) rfl (k1 := 31) rfl h2 ?_
      refine zt_iload hX 6 dX1_sumImbalanceScaled_19 rfl ?_
      obtain ⟨h3, hf⟩ := hf
      refine zt_iaload hX dX1_sumImbalanceScaled_21 (z_row31 (z_lt h2)) (z_sh31 (z_lt h2)) h3 ?_
      refine zt_nmi (fun y4 e4 => ?_)
      replace hf := hf y4 e4
      refine zt_istore (L' := [(7, .int y4), (0, .ref (n0 + 29)), (1, .ref (n0 + 1)), (2, .int x2), (3, .int x3), (4, .int x4), (5, .int x5), (6, .int x6)]) hX dX1_sumImbalanceScaled_22 (by decide) rfl ?_
      refine zt_iload hX 6 dX1_sumImbalanceScaled_24 rfl ?_
      refine zt_aload_n hX 1 dX1_sumImbalanceScaled_26 rfl rfl ?_
      refine zt_aload_n hX 2 dX1_sumImbalanceScaled_27 rfl rfl ?_
      refine zt_iload_n hX 3 dX1_sumImbalanceScaled_28 rfl rfl ?_
      refine zt_iload hX 7 dX1_sumImbalanceScaled_29 rfl ?_
      refine zt_calliV hX hY (av := [.ref (n0 + 1), .int x2, .int x6]) (c_X1_lossIn hf) dX1_sumImbalanceScaled_31 rfl kw_482 kw_431 kw_432 kw_64 kw_433 ⟨rfl, rfl⟩ hy_X1_lossIn ⟨by decide, by decide⟩ ⟨by decide, by decide⟩ (Nat.le_of_ble_eq_true rfl) (by decide) (zE_29 _ _) rfl rfl (fun r5 σ6 hf => ?_)
      refine zt_iload hX 0 dX1_sumImbalanceScaled_34 rfl ?_
      refine zt_iadd hX dX1_sumImbalanceScaled_36 ?_
      refine zt_iload hX 0 dX1_sumImbalanceScaled_37 rfl ?_
      refine zt_iload hX 5 dX1_sumImbalanceScaled_39 rfl ?_
      refine zt_calliS hX hY (av := [.int y4, .int x4]) (c_X1_scaled hf) dX1_sumImbalanceScaled_41 rfl kw_534 kw_535 kw_64 kw_536 ⟨rfl, rfl⟩ hy_X1_scaled ⟨by decide, by decide⟩ ⟨by decide, by decide⟩ (Nat.le_of_ble_eq_true rfl) (fun r7 σ8 hf => ?_)
      refine zt_isub hX dX1_sumImbalanceScaled_44 ?_
      refine zt_abs hX dX1_sumImbalanceScaled_45 kw_523 (by decide) (Nat.le_of_ble_eq_true rfl) (by decide) (by decide) ?_
      refine zt_iadd hX dX1_sumImbalanceScaled_48 ?_
      refine zt_nmi (fun y9 e9 => ?_)
      replace hf := hf y9 e9
      refine zt_istore (L' := [(5, .int y9), (7, .int y4), (0, .ref (n0 + 29)), (1, .ref (n0 + 1)), (2, .int x2), (3, .int x3), (4, .int x4), (6, .int x6)]) hX dX1_sumImbalanceScaled_49 (by decide) rfl ?_
      obtain ⟨y10, e10⟩ : ∃ y : Int32, y = (x6 + (1 : Int32)) := ⟨_, rfl⟩
      replace hf := hf y10 e10
      refine zt_iinc (L' := [(6, .int y10), (5, .int y9), (7, .int y4), (0, .ref (n0 + 29)), (1, .ref (n0 + 1)), (2, .int x2), (3, .int x3), (4, .int x4)]) hX 7 dX1_sumImbalanceScaled_51 rfl (v := y10) (by rw [e10]; rfl) (by decide) rfl ?_
      refine zt_goto hX dX1_sumImbalanceScaled_54 (tgt := 6) (by decide) ?_
      exact zt_sub [3, 4, 5, 6, 7, 1, 0] rfl (ih6 _ _ _ _ _ _ hf)
set_option maxHeartbeats 4000000 in
set_option maxRecDepth 100000 in
theorem c_X1_sumImbalanceScaled {l : Launch} {D : va_G} {cI cJ cM cS : ClassId} {n0 : Nat} {a2 : Int32} {a3 : Int32} {a4 : Int32} {σ : z_S} {Q : Int32 → z_S → Prop} (hf : w_X1_sumImbalanceScaled a2 a3 a4 σ Q) : z_ci l D cI cJ cM cS n0 yX1_sumImbalanceScaled cX1_sumImbalanceScaled 8 .int rm_X1_sumImbalanceScaled 0 0 [.ref (n0 + 29), .ref (n0 + 1), .int a2, .int a3, .int a4] σ Q := by
  refine z_ofi (by decide +kernel) (Nat.le_of_ble_eq_true rfl) (fun p e s m args below meth c hX hY => ?_)
  unfold w_X1_sumImbalanceScaled at hf
  refine zt_L (L' := [(0, .ref (n0 + 29)), (1, .ref (n0 + 1)), (2, .int a2), (3, .int a3), (4, .int a4)]) rfl ?_
  refine zt_iconst hX dX1_sumImbalanceScaled_0 (v := (0 : Int32)) (by decide) ?_
  refine zt_istore (L' := [(5, .int (0 : Int32)), (0, .ref (n0 + 29)), (1, .ref (n0 + 1)), (2, .int a2), (3, .int a3), (4, .int a4)]) hX dX1_sumImbalanceScaled_1 (by decide) rfl ?_
  refine zt_iconst hX dX1_sumImbalanceScaled_3 (v := (0 : Int32)) (by decide) ?_
  refine zt_istore (L' := [(6, .int (0 : Int32)), (5, .int (0 : Int32)), (0, .ref (n0 + 29)), (1, .ref (n0 + 1)), (2, .int a2), (3, .int a3), (4, .int a4)]) hX dX1_sumImbalanceScaled_4 (by decide) rfl ?_
  exact zt_sub [2, 3, 4, 5, 6, 1, 0] rfl (t_X1_sumImbalanceScaled_6 hX hY 400 _ _ _ _ _ _ hf)

theorem dX1_findSuspect_0 : decode cX1_findSuspect 0 = .ok (.iconst 0, 1) := by decide +kernel
theorem dX1_findSuspect_1 : decode cX1_findSuspect 1 = .ok (.istore_n 3, 1) := by decide +kernel
theorem dX1_findSuspect_2 : decode cX1_findSuspect 2 = .ok (.ldc 55, 2) := by decide +kernel
theorem dX1_findSuspect_4 : decode cX1_findSuspect 4 = .ok (.istore 4, 2) := by decide +kernel
theorem dX1_findSuspect_6 : decode cX1_findSuspect 6 = .ok (.iload_n 2, 1) := by decide +kernel
theorem dX1_findSuspect_7 : decode cX1_findSuspect 7 = .ok (.iconst 1, 1) := by decide +kernel
theorem dX1_findSuspect_8 : decode cX1_findSuspect 8 = .ok (.iadd, 1) := by decide +kernel
theorem dX1_findSuspect_9 : decode cX1_findSuspect 9 = .ok (.istore 5, 2) := by decide +kernel
theorem dX1_findSuspect_11 : decode cX1_findSuspect 11 = .ok (.iload 5, 2) := by decide +kernel
theorem dX1_findSuspect_13 : decode cX1_findSuspect 13 = .ok (.aload_n 1, 1) := by decide +kernel
theorem dX1_findSuspect_14 : decode cX1_findSuspect 14 = .ok (.getfield 27, 3) := by decide +kernel
theorem dX1_findSuspect_17 : decode cX1_findSuspect 17 = .ok (.if_icmp .ge 74, 3) := by decide +kernel
theorem dX1_findSuspect_20 : decode cX1_findSuspect 20 = .ok (.aload_n 1, 1) := by decide +kernel
theorem dX1_findSuspect_21 : decode cX1_findSuspect 21 = .ok (.getfield 33, 3) := by decide +kernel
theorem dX1_findSuspect_24 : decode cX1_findSuspect 24 = .ok (.iload 5, 2) := by decide +kernel
theorem dX1_findSuspect_26 : decode cX1_findSuspect 26 = .ok (.iaload, 1) := by decide +kernel
theorem dX1_findSuspect_27 : decode cX1_findSuspect 27 = .ok (.iload_n 2, 1) := by decide +kernel
theorem dX1_findSuspect_28 : decode cX1_findSuspect 28 = .ok (.if_icmp .ne 57, 3) := by decide +kernel
theorem dX1_findSuspect_31 : decode cX1_findSuspect 31 = .ok (.iconst 0, 1) := by decide +kernel
theorem dX1_findSuspect_32 : decode cX1_findSuspect 32 = .ok (.istore 6, 2) := by decide +kernel
theorem dX1_findSuspect_34 : decode cX1_findSuspect 34 = .ok (.iload 6, 2) := by decide +kernel
theorem dX1_findSuspect_36 : decode cX1_findSuspect 36 = .ok (.bipush 8, 2) := by decide +kernel
theorem dX1_findSuspect_38 : decode cX1_findSuspect 38 = .ok (.if_icmp .ge 47, 3) := by decide +kernel
theorem dX1_findSuspect_41 : decode cX1_findSuspect 41 = .ok (.aload_n 0, 1) := by decide +kernel
theorem dX1_findSuspect_42 : decode cX1_findSuspect 42 = .ok (.aload_n 1, 1) := by decide +kernel
theorem dX1_findSuspect_43 : decode cX1_findSuspect 43 = .ok (.iload_n 2, 1) := by decide +kernel
theorem dX1_findSuspect_44 : decode cX1_findSuspect 44 = .ok (.iload 5, 2) := by decide +kernel
theorem dX1_findSuspect_46 : decode cX1_findSuspect 46 = .ok (.iload 6, 2) := by decide +kernel
theorem dX1_findSuspect_48 : decode cX1_findSuspect 48 = .ok (.invokevirtual 89, 3) := by decide +kernel
theorem dX1_findSuspect_51 : decode cX1_findSuspect 51 = .ok (.istore 7, 2) := by decide +kernel
theorem dX1_findSuspect_53 : decode cX1_findSuspect 53 = .ok (.iload 4, 2) := by decide +kernel
theorem dX1_findSuspect_55 : decode cX1_findSuspect 55 = .ok (.ldc 55, 2) := by decide +kernel
theorem dX1_findSuspect_57 : decode cX1_findSuspect 57 = .ok (.if_icmp .eq 9, 3) := by decide +kernel
theorem dX1_findSuspect_60 : decode cX1_findSuspect 60 = .ok (.iload 7, 2) := by decide +kernel
theorem dX1_findSuspect_62 : decode cX1_findSuspect 62 = .ok (.iload_n 3, 1) := by decide +kernel
theorem dX1_findSuspect_63 : decode cX1_findSuspect 63 = .ok (.if_icmp .ge 16, 3) := by decide +kernel
theorem dX1_findSuspect_66 : decode cX1_findSuspect 66 = .ok (.iload 7, 2) := by decide +kernel
theorem dX1_findSuspect_68 : decode cX1_findSuspect 68 = .ok (.istore_n 3, 1) := by decide +kernel
theorem dX1_findSuspect_69 : decode cX1_findSuspect 69 = .ok (.bipush 10, 2) := by decide +kernel
theorem dX1_findSuspect_71 : decode cX1_findSuspect 71 = .ok (.iload 5, 2) := by decide +kernel
theorem dX1_findSuspect_73 : decode cX1_findSuspect 73 = .ok (.imul, 1) := by decide +kernel
theorem dX1_findSuspect_74 : decode cX1_findSuspect 74 = .ok (.iload 6, 2) := by decide +kernel
theorem dX1_findSuspect_76 : decode cX1_findSuspect 76 = .ok (.iadd, 1) := by decide +kernel
theorem dX1_findSuspect_77 : decode cX1_findSuspect 77 = .ok (.istore 4, 2) := by decide +kernel
theorem dX1_findSuspect_79 : decode cX1_findSuspect 79 = .ok (.iinc 6 1, 3) := by decide +kernel
theorem dX1_findSuspect_82 : decode cX1_findSuspect 82 = .ok (.goto (-48), 3) := by decide +kernel
theorem dX1_findSuspect_85 : decode cX1_findSuspect 85 = .ok (.iinc 5 1, 3) := by decide +kernel
theorem dX1_findSuspect_88 : decode cX1_findSuspect 88 = .ok (.goto (-77), 3) := by decide +kernel
theorem dX1_findSuspect_91 : decode cX1_findSuspect 91 = .ok (.iload_n 3, 1) := by decide +kernel
theorem dX1_findSuspect_92 : decode cX1_findSuspect 92 = .ok (.i2l, 1) := by decide +kernel
theorem dX1_findSuspect_93 : decode cX1_findSuspect 93 = .ok (.ldc2_w 93, 3) := by decide +kernel
theorem dX1_findSuspect_96 : decode cX1_findSuspect 96 = .ok (.lmul, 1) := by decide +kernel
theorem dX1_findSuspect_97 : decode cX1_findSuspect 97 = .ok (.aload_n 0, 1) := by decide +kernel
theorem dX1_findSuspect_98 : decode cX1_findSuspect 98 = .ok (.aload_n 1, 1) := by decide +kernel
theorem dX1_findSuspect_99 : decode cX1_findSuspect 99 = .ok (.iload_n 2, 1) := by decide +kernel
theorem dX1_findSuspect_100 : decode cX1_findSuspect 100 = .ok (.invokevirtual 95, 3) := by decide +kernel
theorem dX1_findSuspect_103 : decode cX1_findSuspect 103 = .ok (.i2l, 1) := by decide +kernel
theorem dX1_findSuspect_104 : decode cX1_findSuspect 104 = .ok (.lcmp, 1) := by decide +kernel
theorem dX1_findSuspect_105 : decode cX1_findSuspect 105 = .ok (.ifCond .ge 8, 3) := by decide +kernel
theorem dX1_findSuspect_108 : decode cX1_findSuspect 108 = .ok (.iload 4, 2) := by decide +kernel
theorem dX1_findSuspect_110 : decode cX1_findSuspect 110 = .ok (.goto 5, 3) := by decide +kernel
theorem dX1_findSuspect_113 : decode cX1_findSuspect 113 = .ok (.ldc 55, 2) := by decide +kernel
theorem dX1_findSuspect_115 : decode cX1_findSuspect 115 = .ok (.ireturn, 1) := by decide +kernel
abbrev rm_X1_findSuspect : Room := { frames := 2, cells := 0, slots := 0, locals := 52 }
theorem hy_X1_findSuspect : yX1_findSuspect.cls ≠ "java/lang/invoke/MethodHandle" ∧ yX1_findSuspect.cls ≠ "java/lang/invoke/VarHandle" ∧ (parseMethodDescriptor yX1_findSuspect.desc).map (fun d => d.parameters.length) = some 2 := by decide +kernel
def w_X1_findSuspect_85 (k11 : Int32 → Int32 → Int32 → Int32 → z_S → Prop) (Q : Int32 → z_S → Prop) (x2 : Int32) (x3 : Int32) (x4 : Int32) (x5 : Int32) (σ : z_S) : Prop :=
  ∀ y8 : Int32, y8 = (x5 + (1 : Int32)) → k11 x2 x3 x4 y8 σ
def w_X1_findSuspect_79 (k11 : Int32 → Int32 → Int32 → Int32 → z_S → Prop) (k34 : Int32 → Int32 → Int32 → Int32 → Int32 → z_S → Prop) (Q : Int32 → z_S → Prop) (x2 : Int32) (x3 : Int32) (x4 : Int32) (x5 : Int32) (x6 : Int32) (σ : z_S) : Prop :=
  ∀ y14 : Int32, y14 = (x6 + (1 : Int32)) → k34 x2 x3 x4 x5 y14 σ
def w_X1_findSuspect_66 (k11 : Int32 → Int32 → Int32 → Int32 → z_S → Prop) (k34 : Int32 → Int32 → Int32 → Int32 → Int32 → z_S → Prop) (Q : Int32 → z_S → Prop) (x2 : Int32) (x5 : Int32) (x6 : Int32) (x7 : Int32) (σ : z_S) : Prop :=
  ∀ y13 : Int32, y13 = (((10 : Int32) * x5) + x6) → w_X1_findSuspect_79 k11 k34 Q x2 x7 y13 x5 x6 σ
def wb_X1_findSuspect_34 (k11 : Int32 → Int32 → Int32 → Int32 → z_S → Prop) (Q : Int32 → z_S → Prop) (k34 : Int32 → Int32 → Int32 → Int32 → Int32 → z_S → Prop) (x2 : Int32) (x3 : Int32) (x4 : Int32) (x5 : Int32) (x6 : Int32) (σ : z_S) : Prop :=
  if (8 : Int32) ≤ x6 then (w_X1_findSuspect_85 k11 Q x2 x3 x4 x5 σ) else (w_X1_sumImbalanceScaled x2 x5 x6 σ (fun r10 σ11 => if x4 = (-2000000000 : Int32) then (w_X1_findSuspect_66 k11 k34 Q x2 x5 x6 r10 σ11) else (if x3 ≤ r10 then (w_X1_findSuspect_79 k11 k34 Q x2 x3 x4 x5 x6 σ11) else (w_X1_findSuspect_66 k11 k34 Q x2 x5 x6 r10 σ11))))
def w_X1_findSuspect_34 (k11 : Int32 → Int32 → Int32 → Int32 → z_S → Prop) (Q : Int32 → z_S → Prop) : Nat → Int32 → Int32 → Int32 → Int32 → Int32 → z_S → Prop
  | 0 => fun _ _ _ _ _ _ => False
  | n + 1 => wb_X1_findSuspect_34 k11 Q (w_X1_findSuspect_34 k11 Q n)
def wb_X1_findSuspect_11  (Q : Int32 → z_S → Prop) (k11 : Int32 → Int32 → Int32 → Int32 → z_S → Prop) (x2 : Int32) (x3 : Int32) (x4 : Int32) (x5 : Int32) (σ : z_S) : Prop :=
  if (zg_i σ 1 0) ≤ x5 then (w_X1_sumImbalance x2 σ (fun r3 σ4 => if 0 ≤ (lg_cmp (x3.toInt64 * (4 : Int64)) r3.toInt64) then (Q (-2000000000 : Int32) σ4) else (Q x4 σ4))) else (vp_in x5 10 ∧ if (zg_i σ 2 x5.toNatClampNeg) = x2 then (w_X1_findSuspect_34 k11 Q 400 x2 x3 x4 x5 (0 : Int32) σ) else (w_X1_findSuspect_85 k11 Q x2 x3 x4 x5 σ))
def w_X1_findSuspect_11  (Q : Int32 → z_S → Prop) : Nat → Int32 → Int32 → Int32 → Int32 → z_S → Prop
  | 0 => fun _ _ _ _ _ => False
  | n + 1 => wb_X1_findSuspect_11  Q (w_X1_findSuspect_11  Q n)
def w_X1_findSuspect (a2 : Int32) (σ : z_S) (Q : Int32 → z_S → Prop) : Prop :=
  ∀ y1 : Int32, y1 = (a2 + (1 : Int32)) → w_X1_findSuspect_11 Q 400 a2 (0 : Int32) (-2000000000 : Int32) y1 σ
set_option maxHeartbeats 4000000 in
set_option maxRecDepth 100000 in
theorem t_X1_findSuspect_85 {l : Launch} {D : va_G} {cI cJ cM cS : ClassId} {n0 : Nat} {p : Program} {e : Env} {s : State} {m : MethodId} {args : Array Value} {below : List Frame} {meth : Method} {c : Code} {k11 : Int32 → Int32 → Int32 → Int32 → z_S → Prop} {Q : Int32 → z_S → Prop} (hX : z_X D cI cJ cM cS p s m args c cX1_findSuspect 8 yX1_findSuspect.cls) (hY : z_Y s meth (some .int)) (hk11 : ∀ (x2 : Int32) (x3 : Int32) (x4 : Int32) (x5 : Int32) (σ : z_S), k11 x2 x3 x4 x5 σ → z_t D cI cJ cM cS n0 p l e rm_X1_findSuspect s m args below meth c 8 (MQ below (va_Qi Q (fun u t => z_Bq D cI cJ cM cS n0 u t) (z_Ab n0)) args s 0 0 (z_Ab n0)) 0 0 11 [(0, .ref (n0 + 29)), (1, .ref (n0 + 1)), (2, .int x2), (3, .int x3), (4, .int x4), (5, .int x5)] [] σ) (x2 : Int32) (x3 : Int32) (x4 : Int32) (x5 : Int32) (σ : z_S) (hf : w_X1_findSuspect_85 k11 Q x2 x3 x4 x5 σ) : z_t D cI cJ cM cS n0 p l e rm_X1_findSuspect s m args below meth c 8 (MQ below (va_Qi Q (fun u t => z_Bq D cI cJ cM cS n0 u t) (z_Ab n0)) args s 0 0 (z_Ab n0)) 0 0 85 [(0, .ref (n0 + 29)), (1, .ref (n0 + 1)), (2, .int x2), (3, .int x3), (4, .int x4), (5, .int x5)] [] σ := by
  unfold w_X1_findSuspect_85 at hf
  obtain ⟨y8, e8⟩ : ∃ y : Int32, y = (x5 + (1 : Int32)) := ⟨_, rfl⟩
  replace hf := hf y8 e8
  refine zt_iinc (L' := [(5, .int y8), (0, .ref (n0 + 29)), (1, .ref (n0 + 1)), (2, .int x2), (3, .int x3), (4, .int x4)]) hX 5 dX1_findSuspect_85 rfl (v := y8) (by rw [e8]; rfl) (by decide) rfl ?_
  refine zt_goto hX dX1_findSuspect_88 (tgt := 11) (by decide) ?_
  exact zt_sub [1, 2, 3, 4, 5, 0] rfl (hk11 _ _ _ _ _ hf)
set_option maxHeartbeats 4000000 in
set_option maxRecDepth 100000 in
theorem t_X1_findSuspect_79 {l : Launch} {D : va_G} {cI cJ cM cS : ClassId} {n0 : Nat} {p : Program} {e : Env} {s : State} {m : MethodId} {args : Array Value} {below : List Frame} {meth : Method} {c : Code} {k11 : Int32 → Int32 → Int32 → Int32 → z_S → Prop} {k34 : Int32 → Int32 → Int32 → Int32 → Int32 → z_S → Prop} {Q : Int32 → z_S → Prop} (hX : z_X D cI cJ cM cS p s m args c cX1_findSuspect 8 yX1_findSuspect.cls) (hY : z_Y s meth (some .int)) (hk11 : ∀ (x2 : Int32) (x3 : Int32) (x4 : Int32) (x5 : Int32) (σ : z_S), k11 x2 x3 x4 x5 σ → z_t D cI cJ cM cS n0 p l e rm_X1_findSuspect s m args below meth c 8 (MQ below (va_Qi Q (fun u t => z_Bq D cI cJ cM cS n0 u t) (z_Ab n0)) args s 0 0 (z_Ab n0)) 0 0 11 [(0, .ref (n0 + 29)), (1, .ref (n0 + 1)), (2, .int x2), (3, .int x3), (4, .int x4), (5, .int x5)] [] σ) (hk34 : ∀ (x2 : Int32) (x3 : Int32) (x4 : Int32) (x5 : Int32) (x6 : Int32) (σ : z_S), k34 x2 x3 x4 x5 x6 σ → z_t D cI cJ cM cS n0 p l e rm_X1_findSuspect s m args below meth c 8 (MQ below (va_Qi Q (fun u t => z_Bq D cI cJ cM cS n0 u t) (z_Ab n0)) args s 0 0 (z_Ab n0)) 0 0 34 [(0, .ref (n0 + 29)), (1, .ref (n0 + 1)), (2, .int x2), (3, .int x3), (4, .int x4), (5, .int x5), (6, .int x6)] [] σ) (x2 : Int32) (x3 : Int32) (x4 : Int32) (x5 : Int32) (x6 : Int32) (σ : z_S) (hf : w_X1_findSuspect_79 k11 k34 Q x2 x3 x4 x5 x6 σ) : z_t D cI cJ cM cS n0 p l e rm_X1_findSuspect s m args below meth c 8 (MQ below (va_Qi Q (fun u t => z_Bq D cI cJ cM cS n0 u t) (z_Ab n0)) args s 0 0 (z_Ab n0)) 0 0 79 [(0, .ref (n0 + 29)), (1, .ref (n0 + 1)), (2, .int x2), (3, .int x3), (4, .int x4), (5, .int x5), (6, .int x6)] [] σ := by
  unfold w_X1_findSuspect_79 at hf
  obtain ⟨y14, e14⟩ : ∃ y : Int32, y = (x6 + (1 : Int32)) := ⟨_, rfl⟩
  replace hf := hf y14 e14
  refine zt_iinc (L' := [(6, .int y14), (0, .ref (n0 + 29)), (1, .ref (n0 + 1)), (2, .int x2), (3, .int x3), (4, .int x4), (5, .int x5)]) hX 6 dX1_findSuspect_79 rfl (v := y14) (by rw [e14]; rfl) (by decide) rfl ?_
  refine zt_goto hX dX1_findSuspect_82 (tgt := 34) (by decide) ?_
  exact zt_sub [1, 2, 3, 4, 5, 6, 0] rfl (hk34 _ _ _ _ _ _ hf)
set_option maxHeartbeats 4000000 in
set_option maxRecDepth 100000 in
theorem t_X1_findSuspect_66 {l : Launch} {D : va_G} {cI cJ cM cS : ClassId} {n0 : Nat} {p : Program} {e : Env} {s : State} {m : MethodId} {args : Array Value} {below : List Frame} {meth : Method} {c : Code} {k11 : Int32 → Int32 → Int32 → Int32 → z_S → Prop} {k34 : Int32 → Int32 → Int32 → Int32 → Int32 → z_S → Prop} {Q : Int32 → z_S → Prop} (hX : z_X D cI cJ cM cS p s m args c cX1_findSuspect 8 yX1_findSuspect.cls) (hY : z_Y s meth (some .int)) (hk11 : ∀ (x2 : Int32) (x3 : Int32) (x4 : Int32) (x5 : Int32) (σ : z_S), k11 x2 x3 x4 x5 σ → z_t D cI cJ cM cS n0 p l e rm_X1_findSuspect s m args below meth c 8 (MQ below (va_Qi Q (fun u t => z_Bq D cI cJ cM cS n0 u t) (z_Ab n0)) args s 0 0 (z_Ab n0)) 0 0 11 [(0, .ref (n0 + 29)), (1, .ref (n0 + 1)), (2, .int x2), (3, .int x3), (4, .int x4), (5, .int x5)] [] σ) (hk34 : ∀ (x2 : Int32) (x3 : Int32) (x4 : Int32) (x5 : Int32) (x6 : Int32) (σ : z_S), k34 x2 x3 x4 x5 x6 σ → z_t D cI cJ cM cS n0 p l e rm_X1_findSuspect s m args below meth c 8 (MQ below (va_Qi Q (fun u t => z_Bq D cI cJ cM cS n0 u t) (z_Ab n0)) args s 0 0 (z_Ab n0)) 0 0 34 [(0, .ref (n0 + 29)), (1, .ref (n0 + 1)), (2, .int x2), (3, .int x3), (4, .int x4), (5, .int x5), (6, .int x6)] [] σ) (x2 : Int32) (x5 : Int32) (x6 : Int32) (x7 : Int32) (σ : z_S) (hf : w_X1_findSuspect_66 k11 k34 Q x2 x5 x6 x7 σ) : z_t D cI cJ cM cS n0 p l e rm_X1_findSuspect s m args below meth c 8 (MQ below (va_Qi Q (fun u t => z_Bq D cI cJ cM cS n0 u t) (z_Ab n0)) args s 0 0 (z_Ab n0)) 0 0 66 [(0, .ref (n0 + 29)), (1, .ref (n0 + 1)), (2, .int x2), (5, .int x5), (6, .int x6), (7, .int x7)] [] σ := by
  unfold w_X1_findSuspect_66 at hf
  refine zt_iload hX 5 dX1_findSuspect_66 rfl ?_
  refine zt_istore_n (L' := [(3, .int x7), (0, .ref (n0 + 29)), (1, .ref (n0 + 1)), (2, .int x2), (5, .int x5), (6, .int x6), (7, .int x7)]) hX dX1_findSuspect_68 rfl (by decide) rfl ?_
  refine zt_bipush hX dX1_findSuspect_69 (v := (10 : Int32)) (by decide) ?_
  refine zt_iload hX 4 dX1_findSuspect_71 rfl ?_
  refine zt_imul hX dX1_findSuspect_73 ?_
  refine zt_iload hX 5 dX1_findSuspect_74 rfl ?_
  refine zt_iadd hX dX1_findSuspect_76 ?_
  refine zt_nmi (fun y13 e13 => ?_)
  replace hf := hf y13 e13
  refine zt_istore (L' := [(4, .int y13), (3, .int x7), (0, .ref (n0 + 29)), (1, .ref (n0 + 1)), (2, .int x2), (5, .int x5), (6, .int x6), (7, .int x7)]) hX dX1_findSuspect_77 (by decide) rfl ?_
  exact zt_sub [2, 3, 4, 1, 0, 5, 6] rfl (t_X1_findSuspect_79 hX hY hk11 hk34 _ _ _ _ _ _ hf)
set_option maxHeartbeats 4000000 in
set_option maxRecDepth 100000 in
theorem t_X1_findSuspect_34 {l : Launch} {D : va_G} {cI cJ cM cS : ClassId} {n0 : Nat} {p : Program} {e : Env} {s : State} {m : MethodId} {args : Array Value} {below : List Frame} {meth : Method} {c : Code} {k11 : Int32 → Int32 → Int32 → Int32 → z_S → Prop} {Q : Int32 → z_S → Prop} (hX : z_X D cI cJ cM cS p s m args c cX1_findSuspect 8 yX1_findSuspect.cls) (hY : z_Y s meth (some .int)) (hk11 : ∀ (x2 : Int32) (x3 : Int32) (x4 : Int32) (x5 : Int32) (σ : z_S), k11 x2 x3 x4 x5 σ → z_t D cI cJ cM cS n0 p l e rm_X1_findSuspect s m args below meth c 8 (MQ below (va_Qi Q (fun u t => z_Bq D cI cJ cM cS n0 u t) (z_Ab n0)) args s 0 0 (z_Ab n0)) 0 0 11 [(0, .ref (n0 + 29)), (1, .ref (n0 + 1)), (2, .int x2), (3, .int x3), (4, .int x4), (5, .int x5)] [] σ) : ∀ (n : Nat) (x2 : Int32) (x3 : Int32) (x4 : Int32) (x5 : Int32) (x6 : Int32) (σ : z_S), w_X1_findSuspect_34 k11 Q n x2 x3 x4 x5 x6 σ → z_t D cI cJ cM cS n0 p l e rm_X1_findSuspect s m args below meth c 8 (MQ below (va_Qi Q (fun u t => z_Bq D cI cJ cM cS n0 u t) (z_Ab n0)) args s 0 0 (z_Ab n0)) 0 0 34 [(0, .ref (n0 + 29)), (1, .ref (n0 + 1)), (2, .int x2), (3, .int x3), (4, .int x4), (5, .int x5), (6, .int x6)] [] σ := by
  intro n
  induction n with
  | zero => intro _ _ _ _ _ _ hf; exact hf.elim
  | succ n ih34 =>
    intro x2 x3 x4 x5 x6 σ hf
    have hf : wb_X1_findSuspect_34 k11 Q (w_X1_findSuspect_34 k11 Q n) x2 x3 x4 x5 x6 σ := hf
    unfold wb_X1_findSuspect_34 at hf
    refine zt_iload hX 6 dX1_findSuspect_34 rfl ?_
    refine zt_bipush hX dX1_findSuspect_36 (v := (8 : Int32)) (by decide) ?_
    refine zt_icmp_ge hX dX1_findSuspect_38 (tgt := 85) (by decide) (fun c9 => ?_) (fun c9 => ?_)
    · replace hf := z_pos hf c9
      exact zt_sub [0, 1, 2, 3, 4, 5] rfl (t_X1_findSuspect_85 hX hY hk11 _ _ _ _ _ hf)
    · replace hf := z_neg hf c9
      refine zt_aload_n hX 0 dX1_findSuspect_41 rfl rfl ?_
      refine zt_aload_n hX 1 dX1_findSuspect_42 rfl rfl ?_
      refine zt_iload_n hX 2 dX1_findSuspect_43 rfl rfl ?_
      refine zt_iload hX 5 dX1_findSuspect_44 rfl ?_
      refine zt_iload hX 6 dX1_findSuspect_46 rfl ?_
      refine zt_calliV hX hY (av := [.ref (n0 + 1), .int x2, .int x5, .int x6]) (c_X1_sumImbalanceScaled hf) dX1_findSuspect_48 rfl kw_545 kw_531 kw_532 kw_64 kw_533 ⟨rfl, rfl⟩ hy_X1_sumImbalanceScaled ⟨by decide, by decide⟩ ⟨by decide, by decide⟩ (Nat.le_of_ble_eq_true rfl) (by decide) (zE_29 _ _) rfl rfl (fun r10 σ11 hf => ?_)
      refine zt_istore (L' := [(7, .int r10), (0, .ref (n0 + 29)), (1, .ref (n0 + 1)), (2, .int x2), (3, .int x3), (4, .int x4), (5, .int x5), (6, .int x6)]) hX dX1_findSuspect_51 (by decide) rfl ?_
      refine zt_iload hX 5 dX1_findSuspect_53 rfl ?_
      refine zt_ldc hX dX1_findSuspect_55 kw_397 ?_
      refine zt_icmp_eq hX dX1_findSuspect_57 (tgt := 66) (by decide) (fun c12 => ?_) (fun c12 => ?_)
      · replace hf := z_pos hf c12
        exact zt_sub [1, 2, 3, 6, 7, 0] rfl (t_X1_findSuspect_66 hX hY hk11 ih34 _ _ _ _ _ hf)
      · replace hf := z_neg hf c12
        refine zt_iload hX 0 dX1_findSuspect_60 rfl ?_
        refine zt_iload_n hX 4 dX1_findSuspect_62 rfl rfl ?_
        refine zt_icmp_ge hX dX1_findSuspect_63 (tgt := 79) (by decide) (fun c15 => ?_) (fun c15 => ?_)
        · replace hf := z_pos hf c15
          exact zt_sub [1, 2, 3, 4, 5, 6, 7] rfl (t_X1_findSuspect_79 hX hY hk11 ih34 _ _ _ _ _ _ hf)
        · replace hf := z_neg hf c15
          exact zt_sub [1, 2, 3, 6, 7, 0] rfl (t_X1_findSuspect_66 hX hY hk11 ih34 _ _ _ _ _ hf)
set_option maxHeartbeats 4000000 in
set_option maxRecDepth 100000 in
theorem t_X1_findSuspect_11 {l : Launch} {D : va_G} {cI cJ cM cS : ClassId} {n0 : Nat} {p : Program} {e : Env} {s : State} {m : MethodId} {args : Array Value} {below : List Frame} {meth : Method} {c : Code}  {Q : Int32 → z_S → Prop} (hX : z_X D cI cJ cM cS p s m args c cX1_findSuspect 8 yX1_findSuspect.cls) (hY : z_Y s meth (some .int))  : ∀ (n : Nat) (x2 : Int32) (x3 : Int32) (x4 : Int32) (x5 : Int32) (σ : z_S), w_X1_findSuspect_11  Q n x2 x3 x4 x5 σ → z_t D cI cJ cM cS n0 p l e rm_X1_findSuspect s m args below meth c 8 (MQ below (va_Qi Q (fun u t => z_Bq D cI cJ cM cS n0 u t) (z_Ab n0)) args s 0 0 (z_Ab n0)) 0 0 11 [(0, .ref (n0 + 29)), (1, .ref (n0 + 1)), (2, .int x2), (3, .int x3), (4, .int x4), (5, .int x5)] [] σ := by
  intro n
  induction n with
  | zero => intro _ _ _ _ _ hf; exact hf.elim
  | succ n ih11 =>
    intro x2 x3 x4 x5 σ hf
    have hf : wb_X1_findSuspect_11  Q (w_X1_findSuspect_11  Q n) x2 x3 x4 x5 σ := hf
    unfold wb_X1_findSuspect_11 at hf
    refine zt_iload hX 5 dX1_findSuspect_11 rfl ?_
    refine zt_aload_n hX 1 dX1_findSuspect_13 rfl rfl ?_
    refine zt_get_X4 hX (by decide) (zE_1 _ _) 0 (by decide) kw_90 rfl rfl dX1_findSuspect_14 ?_
    refine zt_icmp_ge hX dX1_findSuspect_17 (tgt := 91) (by decide) (fun c2 => ?_) (fun c2 => ?_)
    · replace hf := z_pos hf c2
      refine zt_iload_n hX 3 dX1_findSuspect_91 rfl rfl ?_
      refine zt_i2l hX dX1_findSuspect_92 ?_
      refine zt_ldc2 hX dX1_findSuspect_93 kw_546 ?_
      refine zt_lmul hX dX1_findSuspect_96 ?_
      refine zt_aload_n hX 0 dX1_findSuspect_97 rfl rfl ?_
      refine zt_aload_n hX 1 dX1_findSuspect_98 rfl rfl ?_
      refine zt_iload_n hX 2 dX1_findSuspect_99 rfl rfl ?_
      refine zt_calliV hX hY (av := [.ref (n0 + 1), .int x2]) (c_X1_sumImbalance hf) dX1_findSuspect_100 rfl kw_547 kw_520 kw_521 kw_64 kw_522 ⟨rfl, rfl⟩ hy_X1_sumImbalance ⟨by decide, by decide⟩ ⟨by decide, by decide⟩ (Nat.le_of_ble_eq_true rfl) (by decide) (zE_29 _ _) rfl rfl (fun r3 σ4 hf => ?_)
      refine zt_i2l hX dX1_findSuspect_103 ?_
      refine zt_lcmp hX dX1_findSuspect_104 ?_
      refine zt_if_ge hX dX1_findSuspect_105 (tgt := 113) (by decide) (fun c5 => ?_) (fun c5 => ?_)
      · replace hf := z_pos hf c5
        refine zt_ldc hX dX1_findSuspect_113 kw_397 ?_
        exact zt_iret hX hY dX1_findSuspect_115 hf
      · replace hf := z_neg hf c5
        refine zt_iload hX 4 dX1_findSuspect_108 rfl ?_
        refine zt_goto hX dX1_findSuspect_110 (tgt := 115) (by decide) ?_
        exact zt_iret hX hY dX1_findSuspect_115 hf
    · replace hf := z_neg hf c2
      refine zt_aload_n hX 1 dX1_findSuspect_20 rfl rfl ?_
      refine zt_get_X4 hX (by decide) (zE_1 _ _) 4 (by decide) kw_100 rfl rfl dX1_findSuspect_21 ?_
      refine zt_iload hX 5 dX1_findSuspect_24 rfl ?_
      obtain ⟨h6, hf⟩ := hf
      refine zt_iaload hX dX1_findSuspect_26 (by decide) rfl h6 ?_
      refine zt_iload_n hX 2 dX1_findSuspect_27 rfl rfl ?_
      refine zt_icmp_ne hX dX1_findSuspect_28 (tgt := 85) (by decide) (fun c7 => ?_) (fun c7 => ?_)
      · replace hf := z_neg hf c7
        exact zt_sub [0, 1, 2, 3, 4, 5] rfl (t_X1_findSuspect_85 hX hY ih11 _ _ _ _ _ hf)
      · replace hf := z_pos hf c7
        refine zt_iconst hX dX1_findSuspect_31 (v := (0 : Int32)) (by decide) ?_
        refine zt_istore (L' := [(6, .int (0 : Int32)), (0, .ref (n0 + 29)), (1, .ref (n0 + 1)), (2, .int x2), (3, .int x3), (4, .int x4), (5, .int x5)]) hX dX1_findSuspect_32 (by decide) rfl ?_
        exact zt_sub [1, 2, 3, 4, 5, 6, 0] rfl (t_X1_findSuspect_34 hX hY ih11 400 _ _ _ _ _ _ hf)
set_option maxHeartbeats 4000000 in
set_option maxRecDepth 100000 in
theorem c_X1_findSuspect {l : Launch} {D : va_G} {cI cJ cM cS : ClassId} {n0 : Nat} {a2 : Int32} {σ : z_S} {Q : Int32 → z_S → Prop} (hf : w_X1_findSuspect a2 σ Q) : z_ci l D cI cJ cM cS n0 yX1_findSuspect cX1_findSuspect 8 .int rm_X1_findSuspect 0 0 [.ref (n0 + 29), .ref (n0 + 1), .int a2] σ Q := by
  refine z_ofi (by decide +kernel) (Nat.le_of_ble_eq_true rfl) (fun p e s m args below meth c hX hY => ?_)
  unfold w_X1_findSuspect at hf
  refine zt_L (L' := [(0, .ref (n0 + 29)), (1, .ref (n0 + 1)), (2, .int a2)]) rfl ?_
  refine zt_iconst hX dX1_findSuspect_0 (v := (0 : Int32)) (by decide) ?_
  refine zt_istore_n (L' := [(3, .int (0 : Int32)), (0, .ref (n0 + 29)), (1, .ref (n0 + 1)), (2, .int a2)]) hX dX1_findSuspect_1 rfl (by decide) rfl ?_
  refine zt_ldc hX dX1_findSuspect_2 kw_397 ?_
  refine zt_istore (L' := [(4, .int (-2000000000 : Int32)), (3, .int (0 : Int32)), (0, .ref (n0 + 29)), (1, .ref (n0 + 1)), (2, .int a2)]) hX dX1_findSuspect_4 (by decide) rfl ?_
  refine zt_iload_n hX 4 dX1_findSuspect_6 rfl rfl ?_
  refine zt_iconst hX dX1_findSuspect_7 (v := (1 : Int32)) (by decide) ?_
  refine zt_iadd hX dX1_findSuspect_8 ?_
  refine zt_nmi (fun y1 e1 => ?_)
  replace hf := hf y1 e1
  refine zt_istore (L' := [(5, .int y1), (4, .int (-2000000000 : Int32)), (3, .int (0 : Int32)), (0, .ref (n0 + 29)), (1, .ref (n0 + 1)), (2, .int a2)]) hX dX1_findSuspect_9 (by decide) rfl ?_
  exact zt_sub [3, 4, 5, 2, 1, 0] rfl (t_X1_findSuspect_11 hX hY 400 _ _ _ _ _ hf)

theorem dX3_keep_0 : decode cX3_keep 0 = .ok (.aload_n 0, 1) := by decide +kernel
theorem dX3_keep_1 : decode cX3_keep 1 = .ok (.getfield 28, 3) := by decide +kernel
theorem dX3_keep_4 : decode cX3_keep 4 = .ok (.bipush 24, 2) := by decide +kernel
theorem dX3_keep_6 : decode cX3_keep 6 = .ok (.if_icmp .ge 43, 3) := by decide +kernel
theorem dX3_keep_9 : decode cX3_keep 9 = .ok (.aload_n 0, 1) := by decide +kernel
theorem dX3_keep_10 : decode cX3_keep 10 = .ok (.getfield 15, 3) := by decide +kernel
theorem dX3_keep_13 : decode cX3_keep 13 = .ok (.aload_n 0, 1) := by decide +kernel
theorem dX3_keep_14 : decode cX3_keep 14 = .ok (.getfield 28, 3) := by decide +kernel
theorem dX3_keep_17 : decode cX3_keep 17 = .ok (.iload_n 1, 1) := by decide +kernel
theorem dX3_keep_18 : decode cX3_keep 18 = .ok (.iastore, 1) := by decide +kernel
theorem dX3_keep_19 : decode cX3_keep 19 = .ok (.aload_n 0, 1) := by decide +kernel
theorem dX3_keep_20 : decode cX3_keep 20 = .ok (.getfield 18, 3) := by decide +kernel
theorem dX3_keep_23 : decode cX3_keep 23 = .ok (.aload_n 0, 1) := by decide +kernel
theorem dX3_keep_24 : decode cX3_keep 24 = .ok (.getfield 28, 3) := by decide +kernel
theorem dX3_keep_27 : decode cX3_keep 27 = .ok (.iload_n 2, 1) := by decide +kernel
theorem dX3_keep_28 : decode cX3_keep 28 = .ok (.iastore, 1) := by decide +kernel
theorem dX3_keep_29 : decode cX3_keep 29 = .ok (.aload_n 0, 1) := by decide +kernel
theorem dX3_keep_30 : decode cX3_keep 30 = .ok (.getfield 21, 3) := by decide +kernel
theorem dX3_keep_33 : decode cX3_keep 33 = .ok (.aload_n 0, 1) := by decide +kernel
theorem dX3_keep_34 : decode cX3_keep 34 = .ok (.getfield 28, 3) := by decide +kernel
theorem dX3_keep_37 : decode cX3_keep 37 = .ok (.iload_n 3, 1) := by decide +kernel
theorem dX3_keep_38 : decode cX3_keep 38 = .ok (.iastore, 1) := by decide +kernel
theorem dX3_keep_39 : decode cX3_keep 39 = .ok (.aload_n 0, 1) := by decide +kernel
theorem dX3_keep_40 : decode cX3_keep 40 = .ok (.dup, 1) := by decide +kernel
theorem dX3_keep_41 : decode cX3_keep 41 = .ok (.getfield 28, 3) := by decide +kernel
theorem dX3_keep_44 : decode cX3_keep 44 = .ok (.iconst 1, 1) := by decide +kernel
theorem dX3_keep_45 : decode cX3_keep 45 = .ok (.iadd, 1) := by decide +kernel
theorem dX3_keep_46 : decode cX3_keep 46 = .ok (.putfield 28, 3) := by decide +kernel
theorem dX3_keep_49 : decode cX3_keep 49 = .ok (.return_, 1) := by decide +kernel
abbrev rm_X3_keep : Room := { frames := 0, cells := 0, slots := 0, locals := 0 }
theorem hy_X3_keep : yX3_keep.cls ≠ "java/lang/invoke/MethodHandle" ∧ yX3_keep.cls ≠ "java/lang/invoke/VarHandle" ∧ (parseMethodDescriptor yX3_keep.desc).map (fun d => d.parameters.length) = some 3 := by decide +kernel
def w_X3_keep (a1 : Int32) (a2 : Int32) (a3 : Int32) (σ : z_S) (Q : z_S → Prop) : Prop :=
  if (24 : Int32) ≤ (zg_i σ 68 5) then (Q σ) else (vp_in (zg_i σ 68 5) 24 ∧ ∀ σ3 : z_S, σ3 = zs_i σ 70 (zg_i σ 68 5).toNatClampNeg a1 → vp_in (zg_i σ3 68 5) 24 ∧ ∀ σ5 : z_S, σ5 = zs_i σ3 71 (zg_i σ3 68 5).toNatClampNeg a2 → vp_in (zg_i σ5 68 5) 24 ∧ ∀ σ7 : z_S, σ7 = zs_i σ5 72 (zg_i σ5 68 5).toNatClampNeg a3 → ∀ σ8 : z_S, σ8 = zs_i σ7 68 5 ((zg_i σ7 68 5) + (1 : Int32)) → Q σ8)
set_option maxHeartbeats 4000000 in
set_option maxRecDepth 100000 in
theorem c_X3_keep {l : Launch} {D : va_G} {cI cJ cM cS : ClassId} {n0 : Nat} {a1 : Int32} {a2 : Int32} {a3 : Int32} {σ : z_S} {Q : z_S → Prop} (hf : w_X3_keep a1 a2 a3 σ Q) : z_cv l D cI cJ cM cS n0 yX3_keep cX3_keep 4 rm_X3_keep 0 0 [.ref (n0 + 68), .int a1, .int a2, .int a3] σ Q := by
  refine z_ofv (by decide +kernel) (Nat.le_of_ble_eq_true rfl) (fun p e s m args below meth c hX hY => ?_)
  unfold w_X3_keep at hf
  refine zt_L (L' := [(0, .ref (n0 + 68)), (1, .int a1), (2, .int a2), (3, .int a3)]) rfl ?_
  refine zt_aload_n hX 0 dX3_keep_0 rfl rfl ?_
  refine zt_get_X3 hX (by decide) (zE_68 _ _) 5 (by decide) kw_214 rfl rfl dX3_keep_1 ?_
  refine zt_bipush hX dX3_keep_4 (v := (24 : Int32)) (by decide) ?_
  refine zt_icmp_ge hX dX3_keep_6 (tgt := 49) (by decide) (fun c1 => ?_) (fun c1 => ?_)
  · replace hf := z_pos hf c1
    exact zt_vret hX hY dX3_keep_49 hf
  · replace hf := z_neg hf c1
    refine zt_aload_n hX 0 dX3_keep_9 rfl rfl ?_
    refine zt_get_X3 hX (by decide) (zE_68 _ _) 2 (by decide) kw_211 rfl rfl dX3_keep_10 ?_
    refine zt_aload_n hX 0 dX3_keep_13 rfl rfl ?_
    refine zt_get_X3 hX (by decide) (zE_68 _ _) 5 (by decide) kw_214 rfl rfl dX3_keep_14 ?_
    refine zt_iload_n hX 1 dX3_keep_17 rfl rfl ?_
    obtain ⟨h2, hf⟩ := hf
    refine zt_iastore hX dX3_keep_18 (by decide) rfl h2 ?_
    refine zt_nms (fun σ3 d3 => ?_)
    replace hf := hf σ3 d3
    refine zt_aload_n hX 0 dX3_keep_19 rfl rfl ?_
    refine zt_get_X3 hX (by decide) (zE_68 _ _) 3 (by decide) kw_212 rfl rfl dX3_keep_20 ?_
    refine zt_aload_n hX 0 dX3_keep_23 rfl rfl ?_
    refine zt_get_X3 hX (by decide) (zE_68 _ _) 5 (by decide) kw_214 rfl rfl dX3_keep_24 ?_
    refine zt_iload_n hX 2 dX3_keep_27 rfl rfl ?_
    obtain ⟨h4, hf⟩ := hf
    refine zt_iastore hX dX3_keep_28 (by decide) rfl h4 ?_
    refine zt_nms (fun σ5 d5 => ?_)
    replace hf := hf σ5 d5
    refine zt_aload_n hX 0 dX3_keep_29 rfl rfl ?_
    refine zt_get_X3 hX (by decide) (zE_68 _ _) 4 (by decide) kw_213 rfl rfl dX3_keep_30 ?_
    refine zt_aload_n hX 0 dX3_keep_33 rfl rfl ?_
    refine zt_get_X3 hX (by decide) (zE_68 _ _) 5 (by decide) kw_214 rfl rfl dX3_keep_34 ?_
    refine zt_iload_n hX 3 dX3_keep_37 rfl rfl ?_
    obtain ⟨h6, hf⟩ := hf
    refine zt_iastore hX dX3_keep_38 (by decide) rfl h6 ?_
    refine zt_nms (fun σ7 d7 => ?_)
    replace hf := hf σ7 d7
    refine zt_aload_n hX 0 dX3_keep_39 rfl rfl ?_
    refine zt_dup hX dX3_keep_40 rfl ?_
    refine zt_get_X3 hX (by decide) (zE_68 _ _) 5 (by decide) kw_214 rfl rfl dX3_keep_41 ?_
    refine zt_iconst hX dX3_keep_44 (v := (1 : Int32)) (by decide) ?_
    refine zt_iadd hX dX3_keep_45 ?_
    refine zt_puti_X3 hX (by decide) (zE_68 _ _) 5 (by decide) kw_214 rfl rfl (Nat.le_of_ble_eq_true rfl) rfl rfl dX3_keep_46 ?_
    refine zt_nms (fun σ8 d8 => ?_)
    replace hf := hf σ8 d8
    exact zt_vret hX hY dX3_keep_49 hf

theorem dX3_peek_0 : decode cX3_peek 0 = .ok (.aload_n 0, 1) := by decide +kernel
theorem dX3_peek_1 : decode cX3_peek 1 = .ok (.getfield 24, 3) := by decide +kernel
theorem dX3_peek_4 : decode cX3_peek 4 = .ok (.ifCond .lt 26, 3) := by decide +kernel
theorem dX3_peek_7 : decode cX3_peek 7 = .ok (.aload_n 0, 1) := by decide +kernel
theorem dX3_peek_8 : decode cX3_peek 8 = .ok (.getfield 24, 3) := by decide +kernel
theorem dX3_peek_11 : decode cX3_peek 11 = .ok (.aload_n 0, 1) := by decide +kernel
theorem dX3_peek_12 : decode cX3_peek 12 = .ok (.getfield 41, 3) := by decide +kernel
theorem dX3_peek_15 : decode cX3_peek 15 = .ok (.if_icmp .ge 15, 3) := by decide +kernel
theorem dX3_peek_18 : decode cX3_peek 18 = .ok (.aload_n 0, 1) := by decide +kernel
theorem dX3_peek_19 : decode cX3_peek 19 = .ok (.getfield 9, 3) := by decide +kernel
theorem dX3_peek_22 : decode cX3_peek 22 = .ok (.aload_n 0, 1) := by decide +kernel
theorem dX3_peek_23 : decode cX3_peek 23 = .ok (.getfield 24, 3) := by decide +kernel
theorem dX3_peek_26 : decode cX3_peek 26 = .ok (.iaload, 1) := by decide +kernel
theorem dX3_peek_27 : decode cX3_peek 27 = .ok (.goto 5, 3) := by decide +kernel
theorem dX3_peek_30 : decode cX3_peek 30 = .ok (.ldc 44, 2) := by decide +kernel
theorem dX3_peek_32 : decode cX3_peek 32 = .ok (.ireturn, 1) := by decide +kernel
abbrev rm_X3_peek : Room := { frames := 0, cells := 0, slots := 0, locals := 0 }
theorem hy_X3_peek : yX3_peek.cls ≠ "java/lang/invoke/MethodHandle" ∧ yX3_peek.cls ≠ "java/lang/invoke/VarHandle" ∧ (parseMethodDescriptor yX3_peek.desc).map (fun d => d.parameters.length) = some 0 := by decide +kernel
def w_X3_peek  (σ : z_S) (Q : Int32 → z_S → Prop) : Prop :=
  if (zg_i σ 68 6) < 0 then (Q (-2000000000 : Int32) σ) else (if (zg_i σ 68 1) ≤ (zg_i σ 68 6) then (Q (-2000000000 : Int32) σ) else (vp_in (zg_i σ 68 6) 120 ∧ Q (zg_i σ 69 (zg_i σ 68 6).toNatClampNeg) σ))
set_option maxHeartbeats 4000000 in
set_option maxRecDepth 100000 in
theorem c_X3_peek {l : Launch} {D : va_G} {cI cJ cM cS : ClassId} {n0 : Nat}  {σ : z_S} {Q : Int32 → z_S → Prop} (hf : w_X3_peek  σ Q) : z_ci l D cI cJ cM cS n0 yX3_peek cX3_peek 1 .int rm_X3_peek 0 0 [.ref (n0 + 68)] σ Q := by
  refine z_ofi (by decide +kernel) (Nat.le_of_ble_eq_true rfl) (fun p e s m args below meth c hX hY => ?_)
  unfold w_X3_peek at hf
  refine zt_L (L' := [(0, .ref (n0 + 68))]) rfl ?_
  refine zt_aload_n hX 0 dX3_peek_0 rfl rfl ?_
  refine zt_get_X3 hX (by decide) (zE_68 _ _) 6 (by decide) kw_215 rfl rfl dX3_peek_1 ?_
  refine zt_if_lt hX dX3_peek_4 (tgt := 30) (by decide) (fun c1 => ?_) (fun c1 => ?_)
  · replace hf := z_pos hf c1
    refine zt_ldc hX dX3_peek_30 kw_616 ?_
    exact zt_iret hX hY dX3_peek_32 hf
  · replace hf := z_neg hf c1
    refine zt_aload_n hX 0 dX3_peek_7 rfl rfl ?_
    refine zt_get_X3 hX (by decide) (zE_68 _ _) 6 (by decide) kw_215 rfl rfl dX3_peek_8 ?_
    refine zt_aload_n hX 0 dX3_peek_11 rfl rfl ?_
    refine zt_get_X3 hX (by decide) (zE_68 _ _) 1 (by decide) kw_209 rfl rfl dX3_peek_12 ?_
    refine zt_icmp_ge hX dX3_peek_15 (tgt := 30) (by decide) (fun c2 => ?_) (fun c2 => ?_)
    · replace hf := z_pos hf c2
      refine zt_ldc hX dX3_peek_30 kw_616 ?_
      exact zt_iret hX hY dX3_peek_32 hf
    · replace hf := z_neg hf c2
      refine zt_aload_n hX 0 dX3_peek_18 rfl rfl ?_
      refine zt_get_X3 hX (by decide) (zE_68 _ _) 0 (by decide) kw_207 rfl rfl dX3_peek_19 ?_
      refine zt_aload_n hX 0 dX3_peek_22 rfl rfl ?_
      refine zt_get_X3 hX (by decide) (zE_68 _ _) 6 (by decide) kw_215 rfl rfl dX3_peek_23 ?_
      obtain ⟨h3, hf⟩ := hf
      refine zt_iaload hX dX3_peek_26 (by decide) rfl h3 ?_
      refine zt_goto hX dX3_peek_27 (tgt := 32) (by decide) ?_
      exact zt_iret hX hY dX3_peek_32 hf

theorem dX3_skipBlanks_0 : decode cX3_skipBlanks 0 = .ok (.aload_n 0, 1) := by decide +kernel
theorem dX3_skipBlanks_1 : decode cX3_skipBlanks 1 = .ok (.getfield 24, 3) := by decide +kernel
theorem dX3_skipBlanks_4 : decode cX3_skipBlanks 4 = .ok (.aload_n 0, 1) := by decide +kernel
theorem dX3_skipBlanks_5 : decode cX3_skipBlanks 5 = .ok (.getfield 41, 3) := by decide +kernel
theorem dX3_skipBlanks_8 : decode cX3_skipBlanks 8 = .ok (.if_icmp .ge 25, 3) := by decide +kernel
theorem dX3_skipBlanks_11 : decode cX3_skipBlanks 11 = .ok (.aload_n 0, 1) := by decide +kernel
theorem dX3_skipBlanks_12 : decode cX3_skipBlanks 12 = .ok (.invokevirtual 61, 3) := by decide +kernel
theorem dX3_skipBlanks_15 : decode cX3_skipBlanks 15 = .ok (.bipush 32, 2) := by decide +kernel
theorem dX3_skipBlanks_17 : decode cX3_skipBlanks 17 = .ok (.if_icmp .ne 16, 3) := by decide +kernel
theorem dX3_skipBlanks_20 : decode cX3_skipBlanks 20 = .ok (.aload_n 0, 1) := by decide +kernel
theorem dX3_skipBlanks_21 : decode cX3_skipBlanks 21 = .ok (.dup, 1) := by decide +kernel
theorem dX3_skipBlanks_22 : decode cX3_skipBlanks 22 = .ok (.getfield 24, 3) := by decide +kernel
theorem dX3_skipBlanks_25 : decode cX3_skipBlanks 25 = .ok (.iconst 1, 1) := by decide +kernel
theorem dX3_skipBlanks_26 : decode cX3_skipBlanks 26 = .ok (.iadd, 1) := by decide +kernel
theorem dX3_skipBlanks_27 : decode cX3_skipBlanks 27 = .ok (.putfield 24, 3) := by decide +kernel
theorem dX3_skipBlanks_30 : decode cX3_skipBlanks 30 = .ok (.goto (-30), 3) := by decide +kernel
theorem dX3_skipBlanks_33 : decode cX3_skipBlanks 33 = .ok (.return_, 1) := by decide +kernel
abbrev rm_X3_skipBlanks : Room := { frames := 1, cells := 0, slots := 0, locals := 20 }
theorem hy_X3_skipBlanks : yX3_skipBlanks.cls ≠ "java/lang/invoke/MethodHandle" ∧ yX3_skipBlanks.cls ≠ "java/lang/invoke/VarHandle" ∧ (parseMethodDescriptor yX3_skipBlanks.desc).map (fun d => d.parameters.length) = some 0 := by decide +kernel
def wb_X3_skipBlanks_0  (Q : z_S → Prop) (k0 : z_S → Prop)  (σ : z_S) : Prop :=
  if (zg_i σ 68 1) ≤ (zg_i σ 68 6) then (Q σ) else (w_X3_peek σ (fun r2 σ3 => if r2 = (32 : Int32) then (∀ σ5 : z_S, σ5 = zs_i σ3 68 6 ((zg_i σ3 68 6) + (1 : Int32)) → k0 σ5) else (Q σ3)))
def w_X3_skipBlanks_0  (Q : z_S → Prop) : Nat → z_S → Prop
  | 0 => fun _ => False
  | n + 1 => wb_X3_skipBlanks_0  Q (w_X3_skipBlanks_0  Q n)
def w_X3_skipBlanks  (σ : z_S) (Q : z_S → Prop) : Prop :=
  w_X3_skipBlanks_0 Q 400 σ
set_option maxHeartbeats 4000000 in
set_option maxRecDepth 100000 in
theorem t_X3_skipBlanks_0 {l : Launch} {D : va_G} {cI cJ cM cS : ClassId} {n0 : Nat} {p : Program} {e : Env} {s : State} {m : MethodId} {args : Array Value} {below : List Frame} {meth : Method} {c : Code}  {Q : z_S → Prop} (hX : z_X D cI cJ cM cS p s m args c cX3_skipBlanks 1 yX3_skipBlanks.cls) (hY : z_Y s meth none)  : ∀ (n : Nat)  (σ : z_S), w_X3_skipBlanks_0  Q n  σ → z_t D cI cJ cM cS n0 p l e rm_X3_skipBlanks s m args below meth c 1 (MQ below (va_Qv Q (fun u t => z_Bq D cI cJ cM cS n0 u t) (z_Ab n0)) args s 0 0 (z_Ab n0)) 0 0 0 [(0, .ref (n0 + 68))] [] σ := by
  intro n
  induction n with
  | zero => intro  _ hf; exact hf.elim
  | succ n ih0 =>
    intro  σ hf
    have hf : wb_X3_skipBlanks_0  Q (w_X3_skipBlanks_0  Q n)  σ := hf
    unfold wb_X3_skipBlanks_0 at hf
    refine zt_aload_n hX 0 dX3_skipBlanks_0 rfl rfl ?_
    refine zt_get_X3 hX (by decide) (zE_68 _ _) 6 (by decide) kw_215 rfl rfl dX3_skipBlanks_1 ?_
    refine zt_aload_n hX 0 dX3_skipBlanks_4 rfl rfl ?_
    refine zt_get_X3 hX (by decide) (zE_68 _ _) 1 (by decide) kw_209 rfl rfl dX3_skipBlanks_5 ?_
    refine zt_icmp_ge hX dX3_skipBlanks_8 (tgt := 33) (by decide) (fun c1 => ?_) (fun c1 => ?_)
    · replace hf := z_pos hf c1
      exact zt_vret hX hY dX3_skipBlanks_33 hf
    · replace hf := z_neg hf c1
      refine zt_aload_n hX 0 dX3_skipBlanks_11 rfl rfl ?_
      refine zt_calliV hX hY (av := []) (c_X3_peek hf) dX3_skipBlanks_12 rfl kw_612 kw_614 kw_17 kw_66 kw_615 ⟨rfl, rfl⟩ hy_X3_peek ⟨by decide, by decide⟩ ⟨by decide, by decide⟩ (Nat.le_of_ble_eq_true rfl) (by decide) (zE_68 _ _) rfl rfl (fun r2 σ3 hf => ?_)
      refine zt_bipush hX dX3_skipBlanks_15 (v := (32 : Int32)) (by decide) ?_
      refine zt_icmp_ne hX dX3_skipBlanks_17 (tgt := 33) (by decide) (fun c4 => ?_) (fun c4 => ?_)
      · replace hf := z_neg hf c4
        exact zt_vret hX hY dX3_skipBlanks_33 hf
      · replace hf := z_pos hf c4
        refine zt_aload_n hX 0 dX3_skipBlanks_20 rfl rfl ?_
        refine zt_dup hX dX3_skipBlanks_21 rfl ?_
        refine zt_get_X3 hX (by decide) (zE_68 _ _) 6 (by decide) kw_215 rfl rfl dX3_skipBlanks_22 ?_
        refine zt_iconst hX dX3_skipBlanks_25 (v := (1 : Int32)) (by decide) ?_
        refine zt_iadd hX dX3_skipBlanks_26 ?_
        refine zt_puti_X3 hX (by decide) (zE_68 _ _) 6 (by decide) kw_215 rfl rfl (Nat.le_of_ble_eq_true rfl) rfl rfl dX3_skipBlanks_27 ?_
        refine zt_nms (fun σ5 d5 => ?_)
        replace hf := hf σ5 d5
        refine zt_goto hX dX3_skipBlanks_30 (tgt := 0) (by decide) ?_
        exact zt_sub [0] rfl (ih0 _ hf)
set_option maxHeartbeats 4000000 in
set_option maxRecDepth 100000 in
theorem c_X3_skipBlanks {l : Launch} {D : va_G} {cI cJ cM cS : ClassId} {n0 : Nat}  {σ : z_S} {Q : z_S → Prop} (hf : w_X3_skipBlanks  σ Q) : z_cv l D cI cJ cM cS n0 yX3_skipBlanks cX3_skipBlanks 1 rm_X3_skipBlanks 0 0 [.ref (n0 + 68)] σ Q := by
  refine z_ofv (by decide +kernel) (Nat.le_of_ble_eq_true rfl) (fun p e s m args below meth c hX hY => ?_)
  unfold w_X3_skipBlanks at hf
  refine zt_L (L' := [(0, .ref (n0 + 68))]) rfl ?_
  exact zt_sub [0] rfl (t_X3_skipBlanks_0 hX hY 400 _ hf)

theorem dX3_isDigit_0 : decode cX3_isDigit 0 = .ok (.iload_n 0, 1) := by decide +kernel
theorem dX3_isDigit_1 : decode cX3_isDigit 1 = .ok (.bipush 48, 2) := by decide +kernel
theorem dX3_isDigit_3 : decode cX3_isDigit 3 = .ok (.if_icmp .lt 13, 3) := by decide +kernel
theorem dX3_isDigit_6 : decode cX3_isDigit 6 = .ok (.iload_n 0, 1) := by decide +kernel
theorem dX3_isDigit_7 : decode cX3_isDigit 7 = .ok (.bipush 57, 2) := by decide +kernel
theorem dX3_isDigit_9 : decode cX3_isDigit 9 = .ok (.if_icmp .gt 7, 3) := by decide +kernel
theorem dX3_isDigit_12 : decode cX3_isDigit 12 = .ok (.iconst 1, 1) := by decide +kernel
theorem dX3_isDigit_13 : decode cX3_isDigit 13 = .ok (.goto 4, 3) := by decide +kernel
theorem dX3_isDigit_16 : decode cX3_isDigit 16 = .ok (.iconst 0, 1) := by decide +kernel
theorem dX3_isDigit_17 : decode cX3_isDigit 17 = .ok (.ireturn, 1) := by decide +kernel
abbrev rm_X3_isDigit : Room := { frames := 0, cells := 0, slots := 0, locals := 0 }
theorem hy_X3_isDigit : yX3_isDigit.cls ≠ "java/lang/invoke/MethodHandle" ∧ yX3_isDigit.cls ≠ "java/lang/invoke/VarHandle" ∧ (parseMethodDescriptor yX3_isDigit.desc).map (fun d => d.parameters.length) = some 1 := by decide +kernel
def w_X3_isDigit (a0 : Int32) (σ : z_S) (Q : Int32 → z_S → Prop) : Prop :=
  if a0 < (48 : Int32) then (((0 : Int32) = 0 ∨ (0 : Int32) = 1) ∧ Q (0 : Int32) σ) else (if (57 : Int32) < a0 then (((0 : Int32) = 0 ∨ (0 : Int32) = 1) ∧ Q (0 : Int32) σ) else (((1 : Int32) = 0 ∨ (1 : Int32) = 1) ∧ Q (1 : Int32) σ))
set_option maxHeartbeats 4000000 in
set_option maxRecDepth 100000 in
theorem c_X3_isDigit {l : Launch} {D : va_G} {cI cJ cM cS : ClassId} {n0 : Nat} {a0 : Int32} {σ : z_S} {Q : Int32 → z_S → Prop} (hf : w_X3_isDigit a0 σ Q) : z_ci l D cI cJ cM cS n0 yX3_isDigit cX3_isDigit 1 .boolean rm_X3_isDigit 0 0 [.int a0] σ Q := by
  refine z_ofi (by decide +kernel) (Nat.le_of_ble_eq_true rfl) (fun p e s m args below meth c hX hY => ?_)
  unfold w_X3_isDigit at hf
  refine zt_L (L' := [(0, .int a0)]) rfl ?_
  refine zt_iload_n hX 0 dX3_isDigit_0 rfl rfl ?_
  refine zt_bipush hX dX3_isDigit_1 (v := (48 : Int32)) (by decide) ?_
  refine zt_icmp_lt hX dX3_isDigit_3 (tgt := 16) (by decide) (fun c1 => ?_) (fun c1 => ?_)
  · replace hf := z_pos hf c1
    refine zt_iconst hX dX3_isDigit_16 (v := (0 : Int32)) (by decide) ?_
    exact zt_zret hX hY dX3_isDigit_17 hf
  · replace hf := z_neg hf c1
    refine zt_iload_n hX 0 dX3_isDigit_6 rfl rfl ?_
    refine zt_bipush hX dX3_isDigit_7 (v := (57 : Int32)) (by decide) ?_
    refine zt_icmp_gt hX dX3_isDigit_9 (tgt := 16) (by decide) (fun c2 => ?_) (fun c2 => ?_)
    · replace hf := z_pos hf c2
      refine zt_iconst hX dX3_isDigit_16 (v := (0 : Int32)) (by decide) ?_
      exact zt_zret hX hY dX3_isDigit_17 hf
    · replace hf := z_neg hf c2
      refine zt_iconst hX dX3_isDigit_12 (v := (1 : Int32)) (by decide) ?_
      refine zt_goto hX dX3_isDigit_13 (tgt := 17) (by decide) ?_
      exact zt_zret hX hY dX3_isDigit_17 hf

theorem dX3_takeNumber_0 : decode cX3_takeNumber 0 = .ok (.aload_n 0, 1) := by decide +kernel
theorem dX3_takeNumber_1 : decode cX3_takeNumber 1 = .ok (.invokevirtual 38, 3) := by decide +kernel
theorem dX3_takeNumber_4 : decode cX3_takeNumber 4 = .ok (.aload_n 0, 1) := by decide +kernel
theorem dX3_takeNumber_5 : decode cX3_takeNumber 5 = .ok (.getfield 24, 3) := by decide +kernel
theorem dX3_takeNumber_8 : decode cX3_takeNumber 8 = .ok (.istore_n 2, 1) := by decide +kernel
theorem dX3_takeNumber_9 : decode cX3_takeNumber 9 = .ok (.iconst 0, 1) := by decide +kernel
theorem dX3_takeNumber_10 : decode cX3_takeNumber 10 = .ok (.istore_n 3, 1) := by decide +kernel
theorem dX3_takeNumber_11 : decode cX3_takeNumber 11 = .ok (.aload_n 0, 1) := by decide +kernel
theorem dX3_takeNumber_12 : decode cX3_takeNumber 12 = .ok (.getfield 24, 3) := by decide +kernel
theorem dX3_takeNumber_15 : decode cX3_takeNumber 15 = .ok (.aload_n 0, 1) := by decide +kernel
theorem dX3_takeNumber_16 : decode cX3_takeNumber 16 = .ok (.getfield 41, 3) := by decide +kernel
theorem dX3_takeNumber_19 : decode cX3_takeNumber 19 = .ok (.if_icmp .ge 50, 3) := by decide +kernel
theorem dX3_takeNumber_22 : decode cX3_takeNumber 22 = .ok (.aload_n 0, 1) := by decide +kernel
theorem dX3_takeNumber_23 : decode cX3_takeNumber 23 = .ok (.invokevirtual 61, 3) := by decide +kernel
theorem dX3_takeNumber_26 : decode cX3_takeNumber 26 = .ok (.invokestatic 72, 3) := by decide +kernel
theorem dX3_takeNumber_29 : decode cX3_takeNumber 29 = .ok (.ifCond .eq 40, 3) := by decide +kernel
theorem dX3_takeNumber_32 : decode cX3_takeNumber 32 = .ok (.aload_n 0, 1) := by decide +kernel
theorem dX3_takeNumber_33 : decode cX3_takeNumber 33 = .ok (.getfield 24, 3) := by decide +kernel
theorem dX3_takeNumber_36 : decode cX3_takeNumber 36 = .ok (.iload_n 2, 1) := by decide +kernel
theorem dX3_takeNumber_37 : decode cX3_takeNumber 37 = .ok (.isub, 1) := by decide +kernel
theorem dX3_takeNumber_38 : decode cX3_takeNumber 38 = .ok (.bipush 6, 2) := by decide +kernel
theorem dX3_takeNumber_40 : decode cX3_takeNumber 40 = .ok (.if_icmp .ge 16, 3) := by decide +kernel
theorem dX3_takeNumber_43 : decode cX3_takeNumber 43 = .ok (.iload_n 3, 1) := by decide +kernel
theorem dX3_takeNumber_44 : decode cX3_takeNumber 44 = .ok (.bipush 10, 2) := by decide +kernel
theorem dX3_takeNumber_46 : decode cX3_takeNumber 46 = .ok (.imul, 1) := by decide +kernel
theorem dX3_takeNumber_47 : decode cX3_takeNumber 47 = .ok (.aload_n 0, 1) := by decide +kernel
theorem dX3_takeNumber_48 : decode cX3_takeNumber 48 = .ok (.invokevirtual 61, 3) := by decide +kernel
theorem dX3_takeNumber_51 : decode cX3_takeNumber 51 = .ok (.iadd, 1) := by decide +kernel
theorem dX3_takeNumber_52 : decode cX3_takeNumber 52 = .ok (.bipush 48, 2) := by decide +kernel
theorem dX3_takeNumber_54 : decode cX3_takeNumber 54 = .ok (.isub, 1) := by decide +kernel
theorem dX3_takeNumber_55 : decode cX3_takeNumber 55 = .ok (.istore_n 3, 1) := by decide +kernel
theorem dX3_takeNumber_56 : decode cX3_takeNumber 56 = .ok (.aload_n 0, 1) := by decide +kernel
theorem dX3_takeNumber_57 : decode cX3_takeNumber 57 = .ok (.dup, 1) := by decide +kernel
theorem dX3_takeNumber_58 : decode cX3_takeNumber 58 = .ok (.getfield 24, 3) := by decide +kernel
theorem dX3_takeNumber_61 : decode cX3_takeNumber 61 = .ok (.iconst 1, 1) := by decide +kernel
theorem dX3_takeNumber_62 : decode cX3_takeNumber 62 = .ok (.iadd, 1) := by decide +kernel
theorem dX3_takeNumber_63 : decode cX3_takeNumber 63 = .ok (.putfield 24, 3) := by decide +kernel
theorem dX3_takeNumber_66 : decode cX3_takeNumber 66 = .ok (.goto (-55), 3) := by decide +kernel
theorem dX3_takeNumber_69 : decode cX3_takeNumber 69 = .ok (.aload_n 0, 1) := by decide +kernel
theorem dX3_takeNumber_70 : decode cX3_takeNumber 70 = .ok (.getfield 24, 3) := by decide +kernel
theorem dX3_takeNumber_73 : decode cX3_takeNumber 73 = .ok (.iload_n 2, 1) := by decide +kernel
theorem dX3_takeNumber_74 : decode cX3_takeNumber 74 = .ok (.isub, 1) := by decide +kernel
theorem dX3_takeNumber_75 : decode cX3_takeNumber 75 = .ok (.istore 4, 2) := by decide +kernel
theorem dX3_takeNumber_77 : decode cX3_takeNumber 77 = .ok (.iload 4, 2) := by decide +kernel
theorem dX3_takeNumber_79 : decode cX3_takeNumber 79 = .ok (.ifCond .eq 15, 3) := by decide +kernel
theorem dX3_takeNumber_82 : decode cX3_takeNumber 82 = .ok (.iload 4, 2) := by decide +kernel
theorem dX3_takeNumber_84 : decode cX3_takeNumber 84 = .ok (.bipush 6, 2) := by decide +kernel
theorem dX3_takeNumber_86 : decode cX3_takeNumber 86 = .ok (.if_icmp .gt 8, 3) := by decide +kernel
theorem dX3_takeNumber_89 : decode cX3_takeNumber 89 = .ok (.iload_n 3, 1) := by decide +kernel
theorem dX3_takeNumber_90 : decode cX3_takeNumber 90 = .ok (.iload_n 1, 1) := by decide +kernel
theorem dX3_takeNumber_91 : decode cX3_takeNumber 91 = .ok (.if_icmp .lt 11, 3) := by decide +kernel
theorem dX3_takeNumber_94 : decode cX3_takeNumber 94 = .ok (.aload_n 0, 1) := by decide +kernel
theorem dX3_takeNumber_95 : decode cX3_takeNumber 95 = .ok (.iload_n 2, 1) := by decide +kernel
theorem dX3_takeNumber_96 : decode cX3_takeNumber 96 = .ok (.putfield 35, 3) := by decide +kernel
theorem dX3_takeNumber_99 : decode cX3_takeNumber 99 = .ok (.ldc 44, 2) := by decide +kernel
theorem dX3_takeNumber_101 : decode cX3_takeNumber 101 = .ok (.ireturn, 1) := by decide +kernel
theorem dX3_takeNumber_102 : decode cX3_takeNumber 102 = .ok (.iload_n 3, 1) := by decide +kernel
theorem dX3_takeNumber_103 : decode cX3_takeNumber 103 = .ok (.ireturn, 1) := by decide +kernel
abbrev rm_X3_takeNumber : Room := { frames := 2, cells := 0, slots := 0, locals := 40 }
theorem hy_X3_takeNumber : yX3_takeNumber.cls ≠ "java/lang/invoke/MethodHandle" ∧ yX3_takeNumber.cls ≠ "java/lang/invoke/VarHandle" ∧ (parseMethodDescriptor yX3_takeNumber.desc).map (fun d => d.parameters.length) = some 1 := by decide +kernel
def w_X3_takeNumber_94  (Q : Int32 → z_S → Prop) (x2 : Int32) (σ : z_S) : Prop :=
  ∀ σ7 : z_S, σ7 = zs_i σ 68 7 x2 → Q (-2000000000 : Int32) σ7
def w_X3_takeNumber_69  (Q : Int32 → z_S → Prop) (x1 : Int32) (x2 : Int32) (x3 : Int32) (σ : z_S) : Prop :=
  ∀ y5 : Int32, y5 = ((zg_i σ 68 6) - x2) → if y5 = 0 then (w_X3_takeNumber_94 Q x2 σ) else (if (6 : Int32) < y5 then (w_X3_takeNumber_94 Q x2 σ) else (if x3 < x1 then (Q x3 σ) else (w_X3_takeNumber_94 Q x2 σ)))
def w_X3_takeNumber_56 (k11 : Int32 → Int32 → Int32 → z_S → Prop) (Q : Int32 → z_S → Prop) (x1 : Int32) (x2 : Int32) (x3 : Int32) (σ : z_S) : Prop :=
  ∀ σ16 : z_S, σ16 = zs_i σ 68 6 ((zg_i σ 68 6) + (1 : Int32)) → k11 x1 x2 x3 σ16
def wb_X3_takeNumber_11  (Q : Int32 → z_S → Prop) (k11 : Int32 → Int32 → Int32 → z_S → Prop) (x1 : Int32) (x2 : Int32) (x3 : Int32) (σ : z_S) : Prop :=
  if (zg_i σ 68 1) ≤ (zg_i σ 68 6) then (w_X3_takeNumber_69 Q x1 x2 x3 σ) else (w_X3_peek σ (fun r10 σ11 => w_X3_isDigit r10 σ11 (fun r12 σ13 => if r12 = 0 then (w_X3_takeNumber_69 Q x1 x2 x3 σ13) else (if (6 : Int32) ≤ ((zg_i σ13 68 6) - x2) then (w_X3_takeNumber_56 k11 Q x1 x2 x3 σ13) else (w_X3_peek σ13 (fun r17 σ18 => ∀ y19 : Int32, y19 = (((x3 * (10 : Int32)) + r17) - (48 : Int32)) → w_X3_takeNumber_56 k11 Q x1 x2 y19 σ18))))))
def w_X3_takeNumber_11  (Q : Int32 → z_S → Prop) : Nat → Int32 → Int32 → Int32 → z_S → Prop
  | 0 => fun _ _ _ _ => False
  | n + 1 => wb_X3_takeNumber_11  Q (w_X3_takeNumber_11  Q n)
def w_X3_takeNumber (a1 : Int32) (σ : z_S) (Q : Int32 → z_S → Prop) : Prop :=
  w_X3_skipBlanks σ (fun σ2 => ∀ y3 : Int32, y3 = (zg_i σ2 68 6) → w_X3_takeNumber_11 Q 400 a1 y3 (0 : Int32) σ2)
set_option maxHeartbeats 4000000 in
set_option maxRecDepth 100000 in
theorem t_X3_takeNumber_94 {l : Launch} {D : va_G} {cI cJ cM cS : ClassId} {n0 : Nat} {p : Program} {e : Env} {s : State} {m : MethodId} {args : Array Value} {below : List Frame} {meth : Method} {c : Code}  {Q : Int32 → z_S → Prop} (hX : z_X D cI cJ cM cS p s m args c cX3_takeNumber 5 yX3_takeNumber.cls) (hY : z_Y s meth (some .int))  (x2 : Int32) (σ : z_S) (hf : w_X3_takeNumber_94  Q x2 σ) : z_t D cI cJ cM cS n0 p l e rm_X3_takeNumber s m args below meth c 5 (MQ below (va_Qi Q (fun u t => z_Bq D cI cJ cM cS n0 u t) (z_Ab n0)) args s 0 0 (z_Ab n0)) 0 0 94 [(0, .ref (n0 + 68)), (2, .int x2)] [] σ := by
  unfold w_X3_takeNumber_94 at hf
  refine zt_aload_n hX 0 dX3_takeNumber_94 rfl rfl ?_
  refine zt_iload_n hX 1 dX3_takeNumber_95 rfl rfl ?_
  refine zt_puti_X3 hX (by decide) (zE_68 _ _) 7 (by decide) kw_216 rfl rfl (Nat.le_of_ble_eq_true rfl) rfl rfl dX3_takeNumber_96 ?_
  refine zt_nms (fun σ7 d7 => ?_)
  replace hf := hf σ7 d7
  refine zt_ldc hX dX3_takeNumber_99 kw_616 ?_
  exact zt_iret hX hY dX3_takeNumber_101 hf
set_option maxHeartbeats 4000000 in
set_option maxRecDepth 100000 in
theorem t_X3_takeNumber_69 {l : Launch} {D : va_G} {cI cJ cM cS : ClassId} {n0 : Nat} {p : Program} {e : Env} {s : State} {m : MethodId} {args : Array Value} {below : List Frame} {meth : Method} {c : Code}  {Q : Int32 → z_S → Prop} (hX : z_X D cI cJ cM cS p s m args c cX3_takeNumber 5 yX3_takeNumber.cls) (hY : z_Y s meth (some .int))  (x1 : Int32) (x2 : Int32) (x3 : Int32) (σ : z_S) (hf : w_X3_takeNumber_69  Q x1 x2 x3 σ) : z_t D cI cJ cM cS n0 p l e rm_X3_takeNumber s m args below meth c 5 (MQ below (va_Qi Q (fun u t => z_Bq D cI cJ cM cS n0 u t) (z_Ab n0)) args s 0 0 (z_Ab n0)) 0 0 69 [(0, .ref (n0 + 68)), (1, .int x1), (2, .int x2), (3, .int x3)] [] σ := by
  unfold w_X3_takeNumber_69 at hf
  refine zt_aload_n hX 0 dX3_takeNumber_69 rfl rfl ?_
  refine zt_get_X3 hX (by decide) (zE_68 _ _) 6 (by decide) kw_215 rfl rfl dX3_takeNumber_70 ?_
  refine zt_iload_n hX 2 dX3_takeNumber_73 rfl rfl ?_
  refine zt_isub hX dX3_takeNumber_74 ?_
  refine zt_nmi (fun y5 e5 => ?_)
  replace hf := hf y5 e5
  refine zt_istore (L' := [(4, .int y5), (0, .ref (n0 + 68)), (1, .int x1), (2, .int x2), (3, .int x3)]) hX dX3_takeNumber_75 (by decide) rfl ?_
  refine zt_iload hX 0 dX3_takeNumber_77 rfl ?_
  refine zt_if_eq hX dX3_takeNumber_79 (tgt := 94) (by decide) (fun c6 => ?_) (fun c6 => ?_)
  · replace hf := z_pos hf c6
    exact zt_sub [1, 3] rfl (t_X3_takeNumber_94 hX hY _ _ hf)
  · replace hf := z_neg hf c6
    refine zt_iload hX 0 dX3_takeNumber_82 rfl ?_
    refine zt_bipush hX dX3_takeNumber_84 (v := (6 : Int32)) (by decide) ?_
    refine zt_icmp_gt hX dX3_takeNumber_86 (tgt := 94) (by decide) (fun c8 => ?_) (fun c8 => ?_)
    · replace hf := z_pos hf c8
      exact zt_sub [1, 3] rfl (t_X3_takeNumber_94 hX hY _ _ hf)
    · replace hf := z_neg hf c8
      refine zt_iload_n hX 4 dX3_takeNumber_89 rfl rfl ?_
      refine zt_iload_n hX 2 dX3_takeNumber_90 rfl rfl ?_
      refine zt_icmp_lt hX dX3_takeNumber_91 (tgt := 102) (by decide) (fun c9 => ?_) (fun c9 => ?_)
      · replace hf := z_pos hf c9
        refine zt_iload_n hX 4 dX3_takeNumber_102 rfl rfl ?_
        exact zt_iret hX hY dX3_takeNumber_103 hf
      · replace hf := z_neg hf c9
        exact zt_sub [1, 3] rfl (t_X3_takeNumber_94 hX hY _ _ hf)
set_option maxHeartbeats 4000000 in
set_option maxRecDepth 100000 in
theorem t_X3_takeNumber_56 {l : Launch} {D : va_G} {cI cJ cM cS : ClassId} {n0 : Nat} {p : Program} {e : Env} {s : State} {m : MethodId} {args : Array Value} {below : List Frame} {meth : Method} {c : Code} {k11 : Int32 → Int32 → Int32 → z_S → Prop} {Q : Int32 → z_S → Prop} (hX : z_X D cI cJ cM cS p s m args c cX3_takeNumber 5 yX3_takeNumber.cls) (hY : z_Y s meth (some .int)) (hk11 : ∀ (x1 : Int32) (x2 : Int32) (x3 : Int32) (σ : z_S), k11 x1 x2 x3 σ → z_t D cI cJ cM cS n0 p l e rm_X3_takeNumber s m args below meth c 5 (MQ below (va_Qi Q (fun u t => z_Bq D cI cJ cM cS n0 u t) (z_Ab n0)) args s 0 0 (z_Ab n0)) 0 0 11 [(0, .ref (n0 + 68)), (1, .int x1), (2, .int x2), (3, .int x3)] [] σ) (x1 : Int32) (x2 : Int32) (x3 : Int32) (σ : z_S) (hf : w_X3_takeNumber_56 k11 Q x1 x2 x3 σ) : z_t D cI cJ cM cS n0 p l e rm_X3_takeNumber s m args below meth c 5 (MQ below (va_Qi Q (fun u t => z_Bq D cI cJ cM cS n0 u t) (z_Ab n0)) args s 0 0 (z_Ab n0)) 0 0 56 [(0, .ref (n0 + 68)), (1, .int x1), (2, .int x2), (3, .int x3)] [] σ := by
  unfold w_X3_takeNumber_56 at hf
  refine zt_aload_n hX 0 dX3_takeNumber_56 rfl rfl ?_
  refine zt_dup hX dX3_takeNumber_57 rfl ?_
  refine zt_get_X3 hX (by decide) (zE_68 _ _) 6 (by decide) kw_215 rfl rfl dX3_takeNumber_58 ?_
  refine zt_iconst hX dX3_takeNumber_61 (v := (1 : Int32)) (by decide) ?_
  refine zt_iadd hX dX3_takeNumber_62 ?_
  refine zt_puti_X3 hX (by decide) (zE_68 _ _) 6 (by decide) kw_215 rfl rfl (Nat.le_of_ble_eq_true rfl) rfl rfl dX3_takeNumber_63 ?_
  refine zt_nms (fun σ16 d16 => ?_)
  replace hf := hf σ16 d16
  refine zt_goto hX dX3_takeNumber_66 (tgt := 11) (by decide) ?_
  exact zt_sub [0, 1, 2, 3] rfl (hk11 _ _ _ _ hf)
set_option maxHeartbeats 4000000 in
set_option maxRecDepth 100000 in
theorem t_X3_takeNumber_11 {l : Launch} {D : va_G} {cI cJ cM cS : ClassId} {n0 : Nat} {p : Program} {e : Env} {s : State} {m : MethodId} {args : Array Value} {below : List Frame} {meth : Method} {c : Code}  {Q : Int32 → z_S → Prop} (hX : z_X D cI cJ cM cS p s m args c cX3_takeNumber 5 yX3_takeNumber.cls) (hY : z_Y s meth (some .int))  : ∀ (n : Nat) (x1 : Int32) (x2 : Int32) (x3 : Int32) (σ : z_S), w_X3_takeNumber_11  Q n x1 x2 x3 σ → z_t D cI cJ cM cS n0 p l e rm_X3_takeNumber s m args below meth c 5 (MQ below (va_Qi Q (fun u t => z_Bq D cI cJ cM cS n0 u t) (z_Ab n0)) args s 0 0 (z_Ab n0)) 0 0 11 [(0, .ref (n0 + 68)), (1, .int x1), (2, .int x2), (3, .int x3)] [] σ := by
  intro n
  induction n with
  | zero => intro _ _ _ _ hf; exact hf.elim
  | succ n ih11 =>
    intro x1 x2 x3 σ hf
    have hf : wb_X3_takeNumber_11  Q (w_X3_takeNumber_11  Q n) x1 x2 x3 σ := hf
    unfold wb_X3_takeNumber_11 at hf
    refine zt_aload_n hX 0 dX3_takeNumber_11 rfl rfl ?_
    refine zt_get_X3 hX (by decide) (zE_68 _ _) 6 (by decide) kw_215 rfl rfl dX3_takeNumber_12 ?_
    refine zt_aload_n hX 0 dX3_takeNumber_15 rfl rfl ?_
    refine zt_get_X3 hX (by decide) (zE_68 _ _) 1 (by decide) kw_209 rfl rfl dX3_takeNumber_16 ?_
    refine zt_icmp_ge hX dX3_takeNumber_19 (tgt := 69) (by decide) (fun c4 => ?_) (fun c4 => ?_)
    · replace hf := z_pos hf c4
      exact zt_sub [0, 1, 2, 3] rfl (t_X3_takeNumber_69 hX hY _ _ _ _ hf)
    · replace hf := z_neg hf c4
      refine zt_aload_n hX 0 dX3_takeNumber_22 rfl rfl ?_
      refine zt_calliV hX hY (av := []) (c_X3_peek hf) dX3_takeNumber_23 rfl kw_612 kw_614 kw_17 kw_66 kw_615 ⟨rfl, rfl⟩ hy_X3_peek ⟨by decide, by decide⟩ ⟨by decide, by decide⟩ (Nat.le_of_ble_eq_true rfl) (by decide) (zE_68 _ _) rfl rfl (fun r10 σ11 hf => ?_)
      refine zt_calliS hX hY (av := [.int r10]) (c_X3_isDigit hf) dX3_takeNumber_26 rfl kw_617 kw_618 kw_66 kw_619 ⟨rfl, rfl⟩ hy_X3_isDigit ⟨by decide, by decide⟩ ⟨by decide, by decide⟩ (Nat.le_of_ble_eq_true rfl) (fun r12 σ13 hf => ?_)
      refine zt_if_eq hX dX3_takeNumber_29 (tgt := 69) (by decide) (fun c14 => ?_) (fun c14 => ?_)
      · replace hf := z_pos hf c14
        exact zt_sub [0, 1, 2, 3] rfl (t_X3_takeNumber_69 hX hY _ _ _ _ hf)
      · replace hf := z_neg hf c14
        refine zt_aload_n hX 0 dX3_takeNumber_32 rfl rfl ?_
        refine zt_get_X3 hX (by decide) (zE_68 _ _) 6 (by decide) kw_215 rfl rfl dX3_takeNumber_33 ?_
        refine zt_iload_n hX 2 dX3_takeNumber_36 rfl rfl ?_
        refine zt_isub hX dX3_takeNumber_37 ?_
        refine zt_bipush hX dX3_takeNumber_38 (v := (6 : Int32)) (by decide) ?_
        refine zt_icmp_ge hX dX3_takeNumber_40 (tgt := 56) (by decide) (fun c15 => ?_) (fun c15 => ?_)
        · replace hf := z_pos hf c15
          exact zt_sub [0, 1, 2, 3] rfl (t_X3_takeNumber_56 hX hY ih11 _ _ _ _ hf)
        · replace hf := z_neg hf c15
          refine zt_iload_n hX 3 dX3_takeNumber_43 rfl rfl ?_
          refine zt_bipush hX dX3_takeNumber_44 (v := (10 : Int32)) (by decide) ?_
          refine zt_imul hX dX3_takeNumber_46 ?_
          refine zt_aload_n hX 0 dX3_takeNumber_47 rfl rfl ?_
          refine zt_calliV hX hY (av := []) (c_X3_peek hf) dX3_takeNumber_48 rfl kw_612 kw_614 kw_17 kw_66 kw_615 ⟨rfl, rfl⟩ hy_X3_peek ⟨by decide, by decide⟩ ⟨by decide, by decide⟩ (Nat.le_of_ble_eq_true rfl) (by decide) (zE_68 _ _) rfl rfl (fun r17 σ18 hf => ?_)
          refine zt_iadd hX dX3_takeNumber_51 ?_
          refine zt_bipush hX dX3_takeNumber_52 (v := (48 : Int32)) (by decide) ?_
          refine zt_isub hX dX3_takeNumber_54 ?_
          refine zt_nmi (fun y19 e19 => ?_)
          replace hf := hf y19 e19
          refine zt_istore_n (L' := [(3, .int y19), (0, .ref (n0 + 68)), (1, .int x1), (2, .int x2)]) hX dX3_takeNumber_55 rfl (by decide) rfl ?_
          exact zt_sub [1, 2, 3, 0] rfl (t_X3_takeNumber_56 hX hY ih11 _ _ _ _ hf)
set_option maxHeartbeats 4000000 in
set_option maxRecDepth 100000 in
theorem c_X3_takeNumber {l : Launch} {D : va_G} {cI cJ cM cS : ClassId} {n0 : Nat} {a1 : Int32} {σ : z_S} {Q : Int32 → z_S → Prop} (hf : w_X3_takeNumber a1 σ Q) : z_ci l D cI cJ cM cS n0 yX3_takeNumber cX3_takeNumber 5 .int rm_X3_takeNumber 0 0 [.ref (n0 + 68), .int a1] σ Q := by
  refine z_ofi (by decide +kernel) (Nat.le_of_ble_eq_true rfl) (fun p e s m args below meth c hX hY => ?_)
  unfold w_X3_takeNumber at hf
  refine zt_L (L' := [(0, .ref (n0 + 68)), (1, .int a1)]) rfl ?_
  refine zt_aload_n hX 0 dX3_takeNumber_0 rfl rfl ?_
  refine zt_callvV hX hY (av := []) (c_X3_skipBlanks hf) dX3_takeNumber_1 rfl kw_608 kw_610 kw_16 kw_66 kw_611 ⟨rfl, rfl⟩ hy_X3_skipBlanks ⟨by decide, by decide⟩ ⟨by decide, by decide⟩ (Nat.le_of_ble_eq_true rfl) (by decide) (zE_68 _ _) rfl rfl (fun σ2 hf => ?_)
  refine zt_aload_n hX 0 dX3_takeNumber_4 rfl rfl ?_
  refine zt_get_X3 hX (by decide) (zE_68 _ _) 6 (by decide) kw_215 rfl rfl dX3_takeNumber_5 ?_
  refine zt_nmi (fun y3 e3 => ?_)
  replace hf := hf y3 e3
  refine zt_istore_n (L' := [(2, .int y3), (0, .ref (n0 + 68)), (1, .int a1)]) hX dX3_takeNumber_8 rfl (by decide) rfl ?_
  refine zt_iconst hX dX3_takeNumber_9 (v := (0 : Int32)) (by decide) ?_
  refine zt_istore_n (L' := [(3, .int (0 : Int32)), (2, .int y3), (0, .ref (n0 + 68)), (1, .int a1)]) hX dX3_takeNumber_10 rfl (by decide) rfl ?_
  exact zt_sub [2, 3, 1, 0] rfl (t_X3_takeNumber_11 hX hY 400 _ _ _ _ hf)

theorem dX3_takeSign_0 : decode cX3_takeSign 0 = .ok (.aload_n 0, 1) := by decide +kernel
theorem dX3_takeSign_1 : decode cX3_takeSign 1 = .ok (.invokevirtual 38, 3) := by decide +kernel
theorem dX3_takeSign_4 : decode cX3_takeSign 4 = .ok (.aload_n 0, 1) := by decide +kernel
theorem dX3_takeSign_5 : decode cX3_takeSign 5 = .ok (.invokevirtual 61, 3) := by decide +kernel
theorem dX3_takeSign_8 : decode cX3_takeSign 8 = .ok (.iload_n 1, 1) := by decide +kernel
theorem dX3_takeSign_9 : decode cX3_takeSign 9 = .ok (.if_icmp .eq 13, 3) := by decide +kernel
theorem dX3_takeSign_12 : decode cX3_takeSign 12 = .ok (.aload_n 0, 1) := by decide +kernel
theorem dX3_takeSign_13 : decode cX3_takeSign 13 = .ok (.aload_n 0, 1) := by decide +kernel
theorem dX3_takeSign_14 : decode cX3_takeSign 14 = .ok (.getfield 24, 3) := by decide +kernel
theorem dX3_takeSign_17 : decode cX3_takeSign 17 = .ok (.putfield 35, 3) := by decide +kernel
theorem dX3_takeSign_20 : decode cX3_takeSign 20 = .ok (.iconst 0, 1) := by decide +kernel
theorem dX3_takeSign_21 : decode cX3_takeSign 21 = .ok (.ireturn, 1) := by decide +kernel
theorem dX3_takeSign_22 : decode cX3_takeSign 22 = .ok (.aload_n 0, 1) := by decide +kernel
theorem dX3_takeSign_23 : decode cX3_takeSign 23 = .ok (.dup, 1) := by decide +kernel
theorem dX3_takeSign_24 : decode cX3_takeSign 24 = .ok (.getfield 24, 3) := by decide +kernel
theorem dX3_takeSign_27 : decode cX3_takeSign 27 = .ok (.iconst 1, 1) := by decide +kernel
theorem dX3_takeSign_28 : decode cX3_takeSign 28 = .ok (.iadd, 1) := by decide +kernel
theorem dX3_takeSign_29 : decode cX3_takeSign 29 = .ok (.putfield 24, 3) := by decide +kernel
theorem dX3_takeSign_32 : decode cX3_takeSign 32 = .ok (.iconst 1, 1) := by decide +kernel
theorem dX3_takeSign_33 : decode cX3_takeSign 33 = .ok (.ireturn, 1) := by decide +kernel
abbrev rm_X3_takeSign : Room := { frames := 2, cells := 0, slots := 0, locals := 40 }
theorem hy_X3_takeSign : yX3_takeSign.cls ≠ "java/lang/invoke/MethodHandle" ∧ yX3_takeSign.cls ≠ "java/lang/invoke/VarHandle" ∧ (parseMethodDescriptor yX3_takeSign.desc).map (fun d => d.parameters.length) = some 1 := by decide +kernel
def w_X3_takeSign (a1 : Int32) (σ : z_S) (Q : Int32 → z_S → Prop) : Prop :=
  w_X3_skipBlanks σ (fun σ2 => w_X3_peek σ2 (fun r3 σ4 => if r3 = a1 then (∀ σ6 : z_S, σ6 = zs_i σ4 68 6 ((zg_i σ4 68 6) + (1 : Int32)) → ((1 : Int32) = 0 ∨ (1 : Int32) = 1) ∧ Q (1 : Int32) σ6) else (∀ σ7 : z_S, σ7 = zs_i σ4 68 7 (zg_i σ4 68 6) → ((0 : Int32) = 0 ∨ (0 : Int32) = 1) ∧ Q (0 : Int32) σ7)))
set_option maxHeartbeats 4000000 in
set_option maxRecDepth 100000 in
theorem c_X3_takeSign {l : Launch} {D : va_G} {cI cJ cM cS : ClassId} {n0 : Nat} {a1 : Int32} {σ : z_S} {Q : Int32 → z_S → Prop} (hf : w_X3_takeSign a1 σ Q) : z_ci l D cI cJ cM cS n0 yX3_takeSign cX3_takeSign 2 .boolean rm_X3_takeSign 0 0 [.ref (n0 + 68), .int a1] σ Q := by
  refine z_ofi (by decide +kernel) (Nat.le_of_ble_eq_true rfl) (fun p e s m args below meth c hX hY => ?_)
  unfold w_X3_takeSign at hf
  refine zt_L (L' := [(0, .ref (n0 + 68)), (1, .int a1)]) rfl ?_
  refine zt_aload_n hX 0 dX3_takeSign_0 rfl rfl ?_
  refine zt_callvV hX hY (av := []) (c_X3_skipBlanks hf) dX3_takeSign_1 rfl kw_608 kw_610 kw_16 kw_66 kw_611 ⟨rfl, rfl⟩ hy_X3_skipBlanks ⟨by decide, by decide⟩ ⟨by decide, by decide⟩ (Nat.le_of_ble_eq_true rfl) (by decide) (zE_68 _ _) rfl rfl (fun σ2 hf => ?_)
  refine zt_aload_n hX 0 dX3_takeSign_4 rfl rfl ?_
  refine zt_calliV hX hY (av := []) (c_X3_peek hf) dX3_takeSign_5 rfl kw_612 kw_614 kw_17 kw_66 kw_615 ⟨rfl, rfl⟩ hy_X3_peek ⟨by decide, by decide⟩ ⟨by decide, by decide⟩ (Nat.le_of_ble_eq_true rfl) (by decide) (zE_68 _ _) rfl rfl (fun r3 σ4 hf => ?_)
  refine zt_iload_n hX 1 dX3_takeSign_8 rfl rfl ?_
  refine zt_icmp_eq hX dX3_takeSign_9 (tgt := 22) (by decide) (fun c5 => ?_) (fun c5 => ?_)
  · replace hf := z_pos hf c5
    refine zt_aload_n hX 0 dX3_takeSign_22 rfl rfl ?_
    refine zt_dup hX dX3_takeSign_23 rfl ?_
    refine zt_get_X3 hX (by decide) (zE_68 _ _) 6 (by decide) kw_215 rfl rfl dX3_takeSign_24 ?_
    refine zt_iconst hX dX3_takeSign_27 (v := (1 : Int32)) (by decide) ?_
    refine zt_iadd hX dX3_takeSign_28 ?_
    refine zt_puti_X3 hX (by decide) (zE_68 _ _) 6 (by decide) kw_215 rfl rfl (Nat.le_of_ble_eq_true rfl) rfl rfl dX3_takeSign_29 ?_
    refine zt_nms (fun σ6 d6 => ?_)
    replace hf := hf σ6 d6
    refine zt_iconst hX dX3_takeSign_32 (v := (1 : Int32)) (by decide) ?_
    exact zt_zret hX hY dX3_takeSign_33 hf
  · replace hf := z_neg hf c5
    refine zt_aload_n hX 0 dX3_takeSign_12 rfl rfl ?_
    refine zt_aload_n hX 0 dX3_takeSign_13 rfl rfl ?_
    refine zt_get_X3 hX (by decide) (zE_68 _ _) 6 (by decide) kw_215 rfl rfl dX3_takeSign_14 ?_
    refine zt_puti_X3 hX (by decide) (zE_68 _ _) 7 (by decide) kw_216 rfl rfl (Nat.le_of_ble_eq_true rfl) rfl rfl dX3_takeSign_17 ?_
    refine zt_nms (fun σ7 d7 => ?_)
    replace hf := hf σ7 d7
    refine zt_iconst hX dX3_takeSign_20 (v := (0 : Int32)) (by decide) ?_
    exact zt_zret hX hY dX3_takeSign_21 hf

theorem dX4_has_0 : decode cX4_has 0 = .ok (.iload_n 1, 1) := by decide +kernel
theorem dX4_has_1 : decode cX4_has 1 = .ok (.ifCond .lt 15, 3) := by decide +kernel
theorem dX4_has_4 : decode cX4_has 4 = .ok (.iload_n 1, 1) := by decide +kernel
theorem dX4_has_5 : decode cX4_has 5 = .ok (.aload_n 0, 1) := by decide +kernel
theorem dX4_has_6 : decode cX4_has 6 = .ok (.getfield 42, 3) := by decide +kernel
theorem dX4_has_9 : decode cX4_has 9 = .ok (.if_icmp .ge 7, 3) := by decide +kernel
theorem dX4_has_12 : decode cX4_has 12 = .ok (.iconst 1, 1) := by decide +kernel
theorem dX4_has_13 : decode cX4_has 13 = .ok (.goto 4, 3) := by decide +kernel
theorem dX4_has_16 : decode cX4_has 16 = .ok (.iconst 0, 1) := by decide +kernel
theorem dX4_has_17 : decode cX4_has 17 = .ok (.ireturn, 1) := by decide +kernel
abbrev rm_X4_has : Room := { frames := 0, cells := 0, slots := 0, locals := 0 }
theorem hy_X4_has : yX4_has.cls ≠ "java/lang/invoke/MethodHandle" ∧ yX4_has.cls ≠ "java/lang/invoke/VarHandle" ∧ (parseMethodDescriptor yX4_has.desc).map (fun d => d.parameters.length) = some 1 := by decide +kernel
def w_X4_has (a1 : Int32) (σ : z_S) (Q : Int32 → z_S → Prop) : Prop :=
  if a1 < 0 then (((0 : Int32) = 0 ∨ (0 : Int32) = 1) ∧ Q (0 : Int32) σ) else (if (zg_i σ 1 0) ≤ a1 then (((0 : Int32) = 0 ∨ (0 : Int32) = 1) ∧ Q (0 : Int32) σ) else (((1 : Int32) = 0 ∨ (1 : Int32) = 1) ∧ Q (1 : Int32) σ))
set_option maxHeartbeats 4000000 in
set_option maxRecDepth 100000 in
theorem c_X4_has {l : Launch} {D : va_G} {cI cJ cM cS : ClassId} {n0 : Nat} {a1 : Int32} {σ : z_S} {Q : Int32 → z_S → Prop} (hf : w_X4_has a1 σ Q) : z_ci l D cI cJ cM cS n0 yX4_has cX4_has 2 .boolean rm_X4_has 0 0 [.ref (n0 + 1), .int a1] σ Q := by
  refine z_ofi (by decide +kernel) (Nat.le_of_ble_eq_true rfl) (fun p e s m args below meth c hX hY => ?_)
  unfold w_X4_has at hf
  refine zt_L (L' := [(0, .ref (n0 + 1)), (1, .int a1)]) rfl ?_
  refine zt_iload_n hX 1 dX4_has_0 rfl rfl ?_
  refine zt_if_lt hX dX4_has_1 (tgt := 16) (by decide) (fun c1 => ?_) (fun c1 => ?_)
  · replace hf := z_pos hf c1
    refine zt_iconst hX dX4_has_16 (v := (0 : Int32)) (by decide) ?_
    exact zt_zret hX hY dX4_has_17 hf
  · replace hf := z_neg hf c1
    refine zt_iload_n hX 1 dX4_has_4 rfl rfl ?_
    refine zt_aload_n hX 0 dX4_has_5 rfl rfl ?_
    refine zt_get_X4 hX (by decide) (zE_1 _ _) 0 (by decide) kw_87 rfl rfl dX4_has_6 ?_
    refine zt_icmp_ge hX dX4_has_9 (tgt := 16) (by decide) (fun c2 => ?_) (fun c2 => ?_)
    · replace hf := z_pos hf c2
      refine zt_iconst hX dX4_has_16 (v := (0 : Int32)) (by decide) ?_
      exact zt_zret hX hY dX4_has_17 hf
    · replace hf := z_neg hf c2
      refine zt_iconst hX dX4_has_12 (v := (1 : Int32)) (by decide) ?_
      refine zt_goto hX dX4_has_13 (tgt := 17) (by decide) ?_
      exact zt_zret hX hY dX4_has_17 hf

theorem dX3_parseEntry_0 : decode cX3_parseEntry 0 = .ok (.aload_n 0, 1) := by decide +kernel
theorem dX3_parseEntry_1 : decode cX3_parseEntry 1 = .ok (.aload_n 1, 1) := by decide +kernel
theorem dX3_parseEntry_2 : decode cX3_parseEntry 2 = .ok (.getfield 49, 3) := by decide +kernel
theorem dX3_parseEntry_5 : decode cX3_parseEntry 5 = .ok (.invokevirtual 54, 3) := by decide +kernel
theorem dX3_parseEntry_8 : decode cX3_parseEntry 8 = .ok (.istore_n 2, 1) := by decide +kernel
theorem dX3_parseEntry_9 : decode cX3_parseEntry 9 = .ok (.aload_n 1, 1) := by decide +kernel
theorem dX3_parseEntry_10 : decode cX3_parseEntry 10 = .ok (.iload_n 2, 1) := by decide +kernel
theorem dX3_parseEntry_11 : decode cX3_parseEntry 11 = .ok (.invokevirtual 58, 3) := by decide +kernel
theorem dX3_parseEntry_14 : decode cX3_parseEntry 14 = .ok (.ifCond .eq 12, 3) := by decide +kernel
theorem dX3_parseEntry_17 : decode cX3_parseEntry 17 = .ok (.aload_n 0, 1) := by decide +kernel
theorem dX3_parseEntry_18 : decode cX3_parseEntry 18 = .ok (.bipush 64, 2) := by decide +kernel
theorem dX3_parseEntry_20 : decode cX3_parseEntry 20 = .ok (.invokevirtual 45, 3) := by decide +kernel
theorem dX3_parseEntry_23 : decode cX3_parseEntry 23 = .ok (.ifCond .ne 5, 3) := by decide +kernel
theorem dX3_parseEntry_26 : decode cX3_parseEntry 26 = .ok (.iconst 0, 1) := by decide +kernel
theorem dX3_parseEntry_27 : decode cX3_parseEntry 27 = .ok (.ireturn, 1) := by decide +kernel
theorem dX3_parseEntry_28 : decode cX3_parseEntry 28 = .ok (.aload_n 0, 1) := by decide +kernel
theorem dX3_parseEntry_29 : decode cX3_parseEntry 29 = .ok (.bipush 13, 2) := by decide +kernel
theorem dX3_parseEntry_31 : decode cX3_parseEntry 31 = .ok (.invokevirtual 54, 3) := by decide +kernel
theorem dX3_parseEntry_34 : decode cX3_parseEntry 34 = .ok (.istore_n 3, 1) := by decide +kernel
theorem dX3_parseEntry_35 : decode cX3_parseEntry 35 = .ok (.iload_n 3, 1) := by decide +kernel
theorem dX3_parseEntry_36 : decode cX3_parseEntry 36 = .ok (.ifCond .lt 12, 3) := by decide +kernel
theorem dX3_parseEntry_39 : decode cX3_parseEntry 39 = .ok (.aload_n 0, 1) := by decide +kernel
theorem dX3_parseEntry_40 : decode cX3_parseEntry 40 = .ok (.bipush 61, 2) := by decide +kernel
theorem dX3_parseEntry_42 : decode cX3_parseEntry 42 = .ok (.invokevirtual 45, 3) := by decide +kernel
theorem dX3_parseEntry_45 : decode cX3_parseEntry 45 = .ok (.ifCond .ne 5, 3) := by decide +kernel
theorem dX3_parseEntry_48 : decode cX3_parseEntry 48 = .ok (.iconst 0, 1) := by decide +kernel
theorem dX3_parseEntry_49 : decode cX3_parseEntry 49 = .ok (.ireturn, 1) := by decide +kernel
theorem dX3_parseEntry_50 : decode cX3_parseEntry 50 = .ok (.aload_n 0, 1) := by decide +kernel
theorem dX3_parseEntry_51 : decode cX3_parseEntry 51 = .ok (.invokevirtual 38, 3) := by decide +kernel
theorem dX3_parseEntry_54 : decode cX3_parseEntry 54 = .ok (.ldc 44, 2) := by decide +kernel
theorem dX3_parseEntry_56 : decode cX3_parseEntry 56 = .ok (.istore 4, 2) := by decide +kernel
theorem dX3_parseEntry_58 : decode cX3_parseEntry 58 = .ok (.aload_n 0, 1) := by decide +kernel
theorem dX3_parseEntry_59 : decode cX3_parseEntry 59 = .ok (.invokevirtual 61, 3) := by decide +kernel
theorem dX3_parseEntry_62 : decode cX3_parseEntry 62 = .ok (.bipush 45, 2) := by decide +kernel
theorem dX3_parseEntry_64 : decode cX3_parseEntry 64 = .ok (.if_icmp .ne 16, 3) := by decide +kernel
theorem dX3_parseEntry_67 : decode cX3_parseEntry 67 = .ok (.aload_n 0, 1) := by decide +kernel
theorem dX3_parseEntry_68 : decode cX3_parseEntry 68 = .ok (.dup, 1) := by decide +kernel
theorem dX3_parseEntry_69 : decode cX3_parseEntry 69 = .ok (.getfield 24, 3) := by decide +kernel
theorem dX3_parseEntry_72 : decode cX3_parseEntry 72 = .ok (.iconst 1, 1) := by decide +kernel
theorem dX3_parseEntry_73 : decode cX3_parseEntry 73 = .ok (.iadd, 1) := by decide +kernel
theorem dX3_parseEntry_74 : decode cX3_parseEntry 74 = .ok (.putfield 24, 3) := by decide +kernel
theorem dX3_parseEntry_77 : decode cX3_parseEntry 77 = .ok (.goto 21, 3) := by decide +kernel
theorem dX3_parseEntry_80 : decode cX3_parseEntry 80 = .ok (.aload_n 0, 1) := by decide +kernel
theorem dX3_parseEntry_81 : decode cX3_parseEntry 81 = .ok (.aload_n 1, 1) := by decide +kernel
theorem dX3_parseEntry_82 : decode cX3_parseEntry 82 = .ok (.iload_n 2, 1) := by decide +kernel
theorem dX3_parseEntry_83 : decode cX3_parseEntry 83 = .ok (.invokevirtual 65, 3) := by decide +kernel
theorem dX3_parseEntry_86 : decode cX3_parseEntry 86 = .ok (.invokevirtual 54, 3) := by decide +kernel
theorem dX3_parseEntry_89 : decode cX3_parseEntry 89 = .ok (.istore 4, 2) := by decide +kernel
theorem dX3_parseEntry_91 : decode cX3_parseEntry 91 = .ok (.iload 4, 2) := by decide +kernel
theorem dX3_parseEntry_93 : decode cX3_parseEntry 93 = .ok (.ifCond .ge 5, 3) := by decide +kernel
theorem dX3_parseEntry_96 : decode cX3_parseEntry 96 = .ok (.iconst 0, 1) := by decide +kernel
theorem dX3_parseEntry_97 : decode cX3_parseEntry 97 = .ok (.ireturn, 1) := by decide +kernel
theorem dX3_parseEntry_98 : decode cX3_parseEntry 98 = .ok (.aload_n 0, 1) := by decide +kernel
theorem dX3_parseEntry_99 : decode cX3_parseEntry 99 = .ok (.iload_n 2, 1) := by decide +kernel
theorem dX3_parseEntry_100 : decode cX3_parseEntry 100 = .ok (.iload_n 3, 1) := by decide +kernel
theorem dX3_parseEntry_101 : decode cX3_parseEntry 101 = .ok (.iload 4, 2) := by decide +kernel
theorem dX3_parseEntry_103 : decode cX3_parseEntry 103 = .ok (.invokevirtual 68, 3) := by decide +kernel
theorem dX3_parseEntry_106 : decode cX3_parseEntry 106 = .ok (.iconst 1, 1) := by decide +kernel
theorem dX3_parseEntry_107 : decode cX3_parseEntry 107 = .ok (.ireturn, 1) := by decide +kernel
abbrev rm_X3_parseEntry : Room := { frames := 3, cells := 0, slots := 0, locals := 64 }
theorem hy_X3_parseEntry : yX3_parseEntry.cls ≠ "java/lang/invoke/MethodHandle" ∧ yX3_parseEntry.cls ≠ "java/lang/invoke/VarHandle" ∧ (parseMethodDescriptor yX3_parseEntry.desc).map (fun d => d.parameters.length) = some 1 := by decide +kernel
def w_X3_parseEntry_98  (Q : Int32 → z_S → Prop) (x2 : Int32) (x3 : Int32) (x4 : Int32) (σ : z_S) : Prop :=
  w_X3_keep x2 x3 x4 σ (fun σ26 => ((1 : Int32) = 0 ∨ (1 : Int32) = 1) ∧ Q (1 : Int32) σ26)
def w_X3_parseEntry  (σ : z_S) (Q : Int32 → z_S → Prop) : Prop :=
  w_X3_takeNumber (zg_i σ 1 0) σ (fun r1 σ2 => w_X4_has r1 σ2 (fun r3 σ4 => if r3 = 0 then (((0 : Int32) = 0 ∨ (0 : Int32) = 1) ∧ Q (0 : Int32) σ4) else (w_X3_takeSign (64 : Int32) σ4 (fun r6 σ7 => if r6 = 0 then (((0 : Int32) = 0 ∨ (0 : Int32) = 1) ∧ Q (0 : Int32) σ7) else (w_X3_takeNumber (13 : Int32) σ7 (fun r9 σ10 => if r9 < 0 then (((0 : Int32) = 0 ∨ (0 : Int32) = 1) ∧ Q (0 : Int32) σ10) else (w_X3_takeSign (61 : Int32) σ10 (fun r12 σ13 => if r12 = 0 then (((0 : Int32) = 0 ∨ (0 : Int32) = 1) ∧ Q (0 : Int32) σ13) else (w_X3_skipBlanks σ13 (fun σ16 => w_X3_peek σ16 (fun r17 σ18 => if r17 = (45 : Int32) then (∀ σ27 : z_S, σ27 = zs_i σ18 68 6 ((zg_i σ18 68 6) + (1 : Int32)) → w_X3_parseEntry_98 Q r1 r9 (-2000000000 : Int32) σ27) else (w_X4_span r1 σ18 (fun r20 σ21 => w_X3_takeNumber r20 σ21 (fun r22 σ23 => if 0 ≤ r22 then (w_X3_parseEntry_98 Q r1 r9 r22 σ23) else (((0 : Int32) = 0 ∨ (0 : Int32) = 1) ∧ Q (0 : Int32) σ23)))))))))))))))
set_option maxHeartbeats 4000000 in
set_option maxRecDepth 100000 in
theorem t_X3_parseEntry_98 {l : Launch} {D : va_G} {cI cJ cM cS : ClassId} {n0 : Nat} {p : Program} {e : Env} {s : State} {m : MethodId} {args : Array Value} {below : List Frame} {meth : Method} {c : Code}  {Q : Int32 → z_S → Prop} (hX : z_X D cI cJ cM cS p s m args c cX3_parseEntry 5 yX3_parseEntry.cls) (hY : z_Y s meth (some .boolean))  (x2 : Int32) (x3 : Int32) (x4 : Int32) (σ : z_S) (hf : w_X3_parseEntry_98  Q x2 x3 x4 σ) : z_t D cI cJ cM cS n0 p l e rm_X3_parseEntry s m args below meth c 5 (MQ below (va_Qi Q (fun u t => z_Bq D cI cJ cM cS n0 u t) (z_Ab n0)) args s 0 0 (z_Ab n0)) 0 0 98 [(0, .ref (n0 + 68)), (2, .int x2), (3, .int x3), (4, .int x4)] [] σ := by
  unfold w_X3_parseEntry_98 at hf
  refine zt_aload_n hX 0 dX3_parseEntry_98 rfl rfl ?_
  refine zt_iload_n hX 1 dX3_parseEntry_99 rfl rfl ?_
  refine zt_iload_n hX 2 dX3_parseEntry_100 rfl rfl ?_
  refine zt_iload hX 3 dX3_parseEntry_101 rfl ?_
  refine zt_callvV hX hY (av := [.int x2, .int x3, .int x4]) (c_X3_keep hf) dX3_parseEntry_103 rfl kw_626 kw_628 kw_19 kw_66 kw_629 ⟨rfl, rfl⟩ hy_X3_keep ⟨by decide, by decide⟩ ⟨by decide, by decide⟩ (Nat.le_of_ble_eq_true rfl) (by decide) (zE_68 _ _) rfl rfl (fun σ26 hf => ?_)
  refine zt_iconst hX dX3_parseEntry_106 (v := (1 : Int32)) (by decide) ?_
  exact zt_zret hX hY dX3_parseEntry_107 hf
set_option maxHeartbeats 4000000 in
set_option maxRecDepth 100000 in
theorem c_X3_parseEntry {l : Launch} {D : va_G} {cI cJ cM cS : ClassId} {n0 : Nat}  {σ : z_S} {Q : Int32 → z_S → Prop} (hf : w_X3_parseEntry  σ Q) : z_ci l D cI cJ cM cS n0 yX3_parseEntry cX3_parseEntry 5 .boolean rm_X3_parseEntry 0 0 [.ref (n0 + 68), .ref (n0 + 1)] σ Q := by
  refine z_ofi (by decide +kernel) (Nat.le_of_ble_eq_true rfl) (fun p e s m args below meth c hX hY => ?_)
  unfold w_X3_parseEntry at hf
  refine zt_L (L' := [(0, .ref (n0 + 68)), (1, .ref (n0 + 1))]) rfl ?_
  refine zt_aload_n hX 0 dX3_parseEntry_0 rfl rfl ?_
  refine zt_aload_n hX 1 dX3_parseEntry_1 rfl rfl ?_
  refine zt_get_X4 hX (by decide) (zE_1 _ _) 0 (by decide) kw_91 rfl rfl dX3_parseEntry_2 ?_
  refine zt_calliV hX hY (av := [.int (zg_i σ 1 0)]) (c_X3_takeNumber hf) dX3_parseEntry_5 rfl kw_604 kw_606 kw_15 kw_66 kw_607 ⟨rfl, rfl⟩ hy_X3_takeNumber ⟨by decide, by decide⟩ ⟨by decide, by decide⟩ (Nat.le_of_ble_eq_true rfl) (by decide) (zE_68 _ _) rfl rfl (fun r1 σ2 hf => ?_)
  refine zt_istore_n (L' := [(2, .int r1), (0, .ref (n0 + 68)), (1, .ref (n0 + 1))]) hX dX3_parseEntry_8 rfl (by decide) rfl ?_
  refine zt_aload_n hX 2 dX3_parseEntry_9 rfl rfl ?_
  refine zt_iload_n hX 0 dX3_parseEntry_10 rfl rfl ?_
  refine zt_calliV hX hY (av := [.int r1]) (c_X4_has hf) dX3_parseEntry_11 rfl kw_620 kw_255 kw_256 kw_62 kw_257 ⟨rfl, rfl⟩ hy_X4_has ⟨by decide, by decide⟩ ⟨by decide, by decide⟩ (Nat.le_of_ble_eq_true rfl) (by decide) (zE_1 _ _) rfl rfl (fun r3 σ4 hf => ?_)
  refine zt_if_eq hX dX3_parseEntry_14 (tgt := 26) (by decide) (fun c5 => ?_) (fun c5 => ?_)
  · replace hf := z_pos hf c5
    refine zt_iconst hX dX3_parseEntry_26 (v := (0 : Int32)) (by decide) ?_
    exact zt_zret hX hY dX3_parseEntry_27 hf
  · replace hf := z_neg hf c5
    refine zt_aload_n hX 1 dX3_parseEntry_17 rfl rfl ?_
    refine zt_bipush hX dX3_parseEntry_18 (v := (64 : Int32)) (by decide) ?_
    refine zt_calliV hX hY (av := [.int (64 : Int32)]) (c_X3_takeSign hf) dX3_parseEntry_20 rfl kw_621 kw_623 kw_18 kw_66 kw_624 ⟨rfl, rfl⟩ hy_X3_takeSign ⟨by decide, by decide⟩ ⟨by decide, by decide⟩ (Nat.le_of_ble_eq_true rfl) (by decide) (zE_68 _ _) rfl rfl (fun r6 σ7 hf => ?_)
    refine zt_if_ne hX dX3_parseEntry_23 (tgt := 28) (by decide) (fun c8 => ?_) (fun c8 => ?_)
    · replace hf := z_neg hf c8
      refine zt_aload_n hX 1 dX3_parseEntry_28 rfl rfl ?_
      refine zt_bipush hX dX3_parseEntry_29 (v := (13 : Int32)) (by decide) ?_
      refine zt_calliV hX hY (av := [.int (13 : Int32)]) (c_X3_takeNumber hf) dX3_parseEntry_31 rfl kw_604 kw_606 kw_15 kw_66 kw_607 ⟨rfl, rfl⟩ hy_X3_takeNumber ⟨by decide, by decide⟩ ⟨by decide, by decide⟩ (Nat.le_of_ble_eq_true rfl) (by decide) (zE_68 _ _) rfl rfl (fun r9 σ10 hf => ?_)
      refine zt_istore_n (L' := [(3, .int r9), (2, .int r1), (0, .ref (n0 + 68)), (1, .ref (n0 + 1))]) hX dX3_parseEntry_34 rfl (by decide) rfl ?_
      refine zt_iload_n hX 0 dX3_parseEntry_35 rfl rfl ?_
      refine zt_if_lt hX dX3_parseEntry_36 (tgt := 48) (by decide) (fun c11 => ?_) (fun c11 => ?_)
      · replace hf := z_pos hf c11
        refine zt_iconst hX dX3_parseEntry_48 (v := (0 : Int32)) (by decide) ?_
        exact zt_zret hX hY dX3_parseEntry_49 hf
      · replace hf := z_neg hf c11
        refine zt_aload_n hX 2 dX3_parseEntry_39 rfl rfl ?_
        refine zt_bipush hX dX3_parseEntry_40 (v := (61 : Int32)) (by decide) ?_
        refine zt_calliV hX hY (av := [.int (61 : Int32)]) (c_X3_takeSign hf) dX3_parseEntry_42 rfl kw_621 kw_623 kw_18 kw_66 kw_624 ⟨rfl, rfl⟩ hy_X3_takeSign ⟨by decide, by decide⟩ ⟨by decide, by decide⟩ (Nat.le_of_ble_eq_true rfl) (by decide) (zE_68 _ _) rfl rfl (fun r12 σ13 hf => ?_)
        refine zt_if_ne hX dX3_parseEntry_45 (tgt := 50) (by decide) (fun c14 => ?_) (fun c14 => ?_)
        · replace hf := z_neg hf c14
          refine zt_aload_n hX 2 dX3_parseEntry_50 rfl rfl ?_
          refine zt_callvV hX hY (av := []) (c_X3_skipBlanks hf) dX3_parseEntry_51 rfl kw_608 kw_610 kw_16 kw_66 kw_611 ⟨rfl, rfl⟩ hy_X3_skipBlanks ⟨by decide, by decide⟩ ⟨by decide, by decide⟩ (Nat.le_of_ble_eq_true rfl) (by decide) (zE_68 _ _) rfl rfl (fun σ16 hf => ?_)
          refine zt_ldc hX dX3_parseEntry_54 kw_616 ?_
          refine zt_istore (L' := [(4, .int (-2000000000 : Int32)), (3, .int r9), (2, .int r1), (0, .ref (n0 + 68)), (1, .ref (n0 + 1))]) hX dX3_parseEntry_56 (by decide) rfl ?_
          refine zt_aload_n hX 3 dX3_parseEntry_58 rfl rfl ?_
          refine zt_calliV hX hY (av := []) (c_X3_peek hf) dX3_parseEntry_59 rfl kw_612 kw_614 kw_17 kw_66 kw_615 ⟨rfl, rfl⟩ hy_X3_peek ⟨by decide, by decide⟩ ⟨by decide, by decide⟩ (Nat.le_of_ble_eq_true rfl) (by decide) (zE_68 _ _) rfl rfl (fun r17 σ18 hf => ?_)
          refine zt_bipush hX dX3_parseEntry_62 (v := (45 : Int32)) (by decide) ?_
          refine zt_icmp_ne hX dX3_parseEntry_64 (tgt := 80) (by decide) (fun c19 => ?_) (fun c19 => ?_)
          · replace hf := z_neg hf c19
            refine zt_aload_n hX 3 dX3_parseEntry_80 rfl rfl ?_
            refine zt_aload_n hX 4 dX3_parseEntry_81 rfl rfl ?_
            refine zt_iload_n hX 2 dX3_parseEntry_82 rfl rfl ?_
            refine zt_calliV hX hY (av := [.int r1]) (c_X4_span hf) dX3_parseEntry_83 rfl kw_625 kw_338 kw_339 kw_62 kw_340 ⟨rfl, rfl⟩ hy_X4_span ⟨by decide, by decide⟩ ⟨by decide, by decide⟩ (Nat.le_of_ble_eq_true rfl) (by decide) (zE_1 _ _) rfl rfl (fun r20 σ21 hf => ?_)
            refine zt_calliV hX hY (av := [.int r20]) (c_X3_takeNumber hf) dX3_parseEntry_86 rfl kw_604 kw_606 kw_15 kw_66 kw_607 ⟨rfl, rfl⟩ hy_X3_takeNumber ⟨by decide, by decide⟩ ⟨by decide, by decide⟩ (Nat.le_of_ble_eq_true rfl) (by decide) (zE_68 _ _) rfl rfl (fun r22 σ23 hf => ?_)
            refine zt_istore (L' := [(4, .int r22), (3, .int r9), (2, .int r1), (0, .ref (n0 + 68)), (1, .ref (n0 + 1))]) hX dX3_parseEntry_89 (by decide) rfl ?_
            refine zt_iload hX 0 dX3_parseEntry_91 rfl ?_
            refine zt_if_ge hX dX3_parseEntry_93 (tgt := 98) (by decide) (fun c24 => ?_) (fun c24 => ?_)
            · replace hf := z_pos hf c24
              exact zt_sub [3, 2, 1, 0] rfl (t_X3_parseEntry_98 hX hY _ _ _ _ hf)
            · replace hf := z_neg hf c24
              refine zt_iconst hX dX3_parseEntry_96 (v := (0 : Int32)) (by decide) ?_
              exact zt_zret hX hY dX3_parseEntry_97 hf
          · replace hf := z_pos hf c19
            refine zt_aload_n hX 3 dX3_parseEntry_67 rfl rfl ?_
            refine zt_dup hX dX3_parseEntry_68 rfl ?_
            refine zt_get_X3 hX (by decide) (zE_68 _ _) 6 (by decide) kw_215 rfl rfl dX3_parseEntry_69 ?_
            refine zt_iconst hX dX3_parseEntry_72 (v := (1 : Int32)) (by decide) ?_
            refine zt_iadd hX dX3_parseEntry_73 ?_
            refine zt_puti_X3 hX (by decide) (zE_68 _ _) 6 (by decide) kw_215 rfl rfl (Nat.le_of_ble_eq_true rfl) rfl rfl dX3_parseEntry_74 ?_
            refine zt_nms (fun σ27 d27 => ?_)
            replace hf := hf σ27 d27
            refine zt_goto hX dX3_parseEntry_77 (tgt := 98) (by decide) ?_
            exact zt_sub [3, 2, 1, 0] rfl (t_X3_parseEntry_98 hX hY _ _ _ _ hf)
        · replace hf := z_pos hf c14
          refine zt_iconst hX dX3_parseEntry_48 (v := (0 : Int32)) (by decide) ?_
          exact zt_zret hX hY dX3_parseEntry_49 hf
    · replace hf := z_pos hf c8
      refine zt_iconst hX dX3_parseEntry_26 (v := (0 : Int32)) (by decide) ?_
      exact zt_zret hX hY dX3_parseEntry_27 hf

theorem dX3_parse_0 : decode cX3_parse 0 = .ok (.aload_n 0, 1) := by decide +kernel
theorem dX3_parse_1 : decode cX3_parse 1 = .ok (.iconst 0, 1) := by decide +kernel
theorem dX3_parse_2 : decode cX3_parse 2 = .ok (.putfield 24, 3) := by decide +kernel
theorem dX3_parse_5 : decode cX3_parse 5 = .ok (.aload_n 0, 1) := by decide +kernel
theorem dX3_parse_6 : decode cX3_parse 6 = .ok (.iconst 0, 1) := by decide +kernel
theorem dX3_parse_7 : decode cX3_parse 7 = .ok (.putfield 28, 3) := by decide +kernel
theorem dX3_parse_10 : decode cX3_parse 10 = .ok (.iconst 0, 1) := by decide +kernel
theorem dX3_parse_11 : decode cX3_parse 11 = .ok (.istore_n 2, 1) := by decide +kernel
theorem dX3_parse_12 : decode cX3_parse 12 = .ok (.iload_n 2, 1) := by decide +kernel
theorem dX3_parse_13 : decode cX3_parse 13 = .ok (.bipush 120, 2) := by decide +kernel
theorem dX3_parse_15 : decode cX3_parse 15 = .ok (.if_icmp .ge 54, 3) := by decide +kernel
theorem dX3_parse_18 : decode cX3_parse 18 = .ok (.aload_n 0, 1) := by decide +kernel
theorem dX3_parse_19 : decode cX3_parse 19 = .ok (.aload_n 1, 1) := by decide +kernel
theorem dX3_parse_20 : decode cX3_parse 20 = .ok (.invokevirtual 31, 3) := by decide +kernel
theorem dX3_parse_23 : decode cX3_parse 23 = .ok (.ifCond .ne 8, 3) := by decide +kernel
theorem dX3_parse_26 : decode cX3_parse 26 = .ok (.aload_n 0, 1) := by decide +kernel
theorem dX3_parse_27 : decode cX3_parse 27 = .ok (.getfield 35, 3) := by decide +kernel
theorem dX3_parse_30 : decode cX3_parse 30 = .ok (.ireturn, 1) := by decide +kernel
theorem dX3_parse_31 : decode cX3_parse 31 = .ok (.aload_n 0, 1) := by decide +kernel
theorem dX3_parse_32 : decode cX3_parse 32 = .ok (.invokevirtual 38, 3) := by decide +kernel
theorem dX3_parse_35 : decode cX3_parse 35 = .ok (.aload_n 0, 1) := by decide +kernel
theorem dX3_parse_36 : decode cX3_parse 36 = .ok (.getfield 24, 3) := by decide +kernel
theorem dX3_parse_39 : decode cX3_parse 39 = .ok (.aload_n 0, 1) := by decide +kernel
theorem dX3_parse_40 : decode cX3_parse 40 = .ok (.getfield 41, 3) := by decide +kernel
theorem dX3_parse_43 : decode cX3_parse 43 = .ok (.if_icmp .lt 6, 3) := by decide +kernel
theorem dX3_parse_46 : decode cX3_parse 46 = .ok (.ldc 44, 2) := by decide +kernel
theorem dX3_parse_48 : decode cX3_parse 48 = .ok (.ireturn, 1) := by decide +kernel
theorem dX3_parse_49 : decode cX3_parse 49 = .ok (.aload_n 0, 1) := by decide +kernel
theorem dX3_parse_50 : decode cX3_parse 50 = .ok (.bipush 59, 2) := by decide +kernel
theorem dX3_parse_52 : decode cX3_parse 52 = .ok (.invokevirtual 45, 3) := by decide +kernel
theorem dX3_parse_55 : decode cX3_parse 55 = .ok (.ifCond .ne 8, 3) := by decide +kernel
theorem dX3_parse_58 : decode cX3_parse 58 = .ok (.aload_n 0, 1) := by decide +kernel
theorem dX3_parse_59 : decode cX3_parse 59 = .ok (.getfield 35, 3) := by decide +kernel
theorem dX3_parse_62 : decode cX3_parse 62 = .ok (.ireturn, 1) := by decide +kernel
theorem dX3_parse_63 : decode cX3_parse 63 = .ok (.iinc 2 1, 3) := by decide +kernel
theorem dX3_parse_66 : decode cX3_parse 66 = .ok (.goto (-54), 3) := by decide +kernel
theorem dX3_parse_69 : decode cX3_parse 69 = .ok (.aload_n 0, 1) := by decide +kernel
theorem dX3_parse_70 : decode cX3_parse 70 = .ok (.getfield 24, 3) := by decide +kernel
theorem dX3_parse_73 : decode cX3_parse 73 = .ok (.ireturn, 1) := by decide +kernel
abbrev rm_X3_parse : Room := { frames := 4, cells := 0, slots := 0, locals := 88 }
theorem hy_X3_parse : yX3_parse.cls ≠ "java/lang/invoke/MethodHandle" ∧ yX3_parse.cls ≠ "java/lang/invoke/VarHandle" ∧ (parseMethodDescriptor yX3_parse.desc).map (fun d => d.parameters.length) = some 1 := by decide +kernel
def wb_X3_parse_12  (Q : Int32 → z_S → Prop) (k12 : Int32 → z_S → Prop) (x2 : Int32) (σ : z_S) : Prop :=
  if (120 : Int32) ≤ x2 then (Q (zg_i σ 68 6) σ) else (w_X3_parseEntry σ (fun r4 σ5 => if r4 = 0 then (Q (zg_i σ5 68 7) σ5) else (w_X3_skipBlanks σ5 (fun σ8 => if (zg_i σ8 68 6) < (zg_i σ8 68 1) then (w_X3_takeSign (59 : Int32) σ8 (fun r10 σ11 => if r10 = 0 then (Q (zg_i σ11 68 7) σ11) else (∀ y13 : Int32, y13 = (x2 + (1 : Int32)) → k12 y13 σ11))) else (Q (-2000000000 : Int32) σ8)))))
def w_X3_parse_12  (Q : Int32 → z_S → Prop) : Nat → Int32 → z_S → Prop
  | 0 => fun _ _ => False
  | n + 1 => wb_X3_parse_12  Q (w_X3_parse_12  Q n)
def w_X3_parse  (σ : z_S) (Q : Int32 → z_S → Prop) : Prop :=
  ∀ σ1 : z_S, σ1 = zs_i σ 68 6 (0 : Int32) → ∀ σ2 : z_S, σ2 = zs_i σ1 68 5 (0 : Int32) → w_X3_parse_12 Q 400 (0 : Int32) σ2
set_option maxHeartbeats 4000000 in
set_option maxRecDepth 100000 in
theorem t_X3_parse_12 {l : Launch} {D : va_G} {cI cJ cM cS : ClassId} {n0 : Nat} {p : Program} {e : Env} {s : State} {m : MethodId} {args : Array Value} {below : List Frame} {meth : Method} {c : Code}  {Q : Int32 → z_S → Prop} (hX : z_X D cI cJ cM cS p s m args c cX3_parse 3 yX3_parse.cls) (hY : z_Y s meth (some .int))  : ∀ (n : Nat) (x2 : Int32) (σ : z_S), w_X3_parse_12  Q n x2 σ → z_t D cI cJ cM cS n0 p l e rm_X3_parse s m args below meth c 3 (MQ below (va_Qi Q (fun u t => z_Bq D cI cJ cM cS n0 u t) (z_Ab n0)) args s 0 0 (z_Ab n0)) 0 0 12 [(0, .ref (n0 + 68)), (1, .ref (n0 + 1)), (2, .int x2)] [] σ := by
  intro n
  induction n with
  | zero => intro _ _ hf; exact hf.elim
  | succ n ih12 =>
    intro x2 σ hf
    have hf : wb_X3_parse_12  Q (w_X3_parse_12  Q n) x2 σ := hf
    unfold wb_X3_parse_12 at hf
    refine zt_iload_n hX 2 dX3_parse_12 rfl rfl ?_
    refine zt_bipush hX dX3_parse_13 (v := (120 : Int32)) (by decide) ?_
    refine zt_icmp_ge hX dX3_parse_15 (tgt := 69) (by decide) (fun c3 => ?_) (fun c3 => ?_)
    · replace hf := z_pos hf c3
      refine zt_aload_n hX 0 dX3_parse_69 rfl rfl ?_
      refine zt_get_X3 hX (by decide) (zE_68 _ _) 6 (by decide) kw_215 rfl rfl dX3_parse_70 ?_
      exact zt_iret hX hY dX3_parse_73 hf
    · replace hf := z_neg hf c3
      refine zt_aload_n hX 0 dX3_parse_18 rfl rfl ?_
      refine zt_aload_n hX 1 dX3_parse_19 rfl rfl ?_
      refine zt_calliV hX hY (av := [.ref (n0 + 1)]) (c_X3_parseEntry hf) dX3_parse_20 rfl kw_600 kw_602 kw_14 kw_66 kw_603 ⟨rfl, rfl⟩ hy_X3_parseEntry ⟨by decide, by decide⟩ ⟨by decide, by decide⟩ (Nat.le_of_ble_eq_true rfl) (by decide) (zE_68 _ _) rfl rfl (fun r4 σ5 hf => ?_)
      refine zt_if_ne hX dX3_parse_23 (tgt := 31) (by decide) (fun c6 => ?_) (fun c6 => ?_)
      · replace hf := z_neg hf c6
        refine zt_aload_n hX 0 dX3_parse_31 rfl rfl ?_
        refine zt_callvV hX hY (av := []) (c_X3_skipBlanks hf) dX3_parse_32 rfl kw_608 kw_610 kw_16 kw_66 kw_611 ⟨rfl, rfl⟩ hy_X3_skipBlanks ⟨by decide, by decide⟩ ⟨by decide, by decide⟩ (Nat.le_of_ble_eq_true rfl) (by decide) (zE_68 _ _) rfl rfl (fun σ8 hf => ?_)
        refine zt_aload_n hX 0 dX3_parse_35 rfl rfl ?_
        refine zt_get_X3 hX (by decide) (zE_68 _ _) 6 (by decide) kw_215 rfl rfl dX3_parse_36 ?_
        refine zt_aload_n hX 0 dX3_parse_39 rfl rfl ?_
        refine zt_get_X3 hX (by decide) (zE_68 _ _) 1 (by decide) kw_209 rfl rfl dX3_parse_40 ?_
        refine zt_icmp_lt hX dX3_parse_43 (tgt := 49) (by decide) (fun c9 => ?_) (fun c9 => ?_)
        · replace hf := z_pos hf c9
          refine zt_aload_n hX 0 dX3_parse_49 rfl rfl ?_
          refine zt_bipush hX dX3_parse_50 (v := (59 : Int32)) (by decide) ?_
          refine zt_calliV hX hY (av := [.int (59 : Int32)]) (c_X3_takeSign hf) dX3_parse_52 rfl kw_621 kw_623 kw_18 kw_66 kw_624 ⟨rfl, rfl⟩ hy_X3_takeSign ⟨by decide, by decide⟩ ⟨by decide, by decide⟩ (Nat.le_of_ble_eq_true rfl) (by decide) (zE_68 _ _) rfl rfl (fun r10 σ11 hf => ?_)
          refine zt_if_ne hX dX3_parse_55 (tgt := 63) (by decide) (fun c12 => ?_) (fun c12 => ?_)
          · replace hf := z_neg hf c12
            obtain ⟨y13, e13⟩ : ∃ y : Int32, y = (x2 + (1 : Int32)) := ⟨_, rfl⟩
            replace hf := hf y13 e13
            refine zt_iinc (L' := [(2, .int y13), (0, .ref (n0 + 68)), (1, .ref (n0 + 1))]) hX 2 dX3_parse_63 rfl (v := y13) (by rw [e13]; rfl) (by decide) rfl ?_
            refine zt_goto hX dX3_parse_66 (tgt := 12) (by decide) ?_
            exact zt_sub [1, 2, 0] rfl (ih12 _ _ hf)
          · replace hf := z_pos hf c12
            refine zt_aload_n hX 0 dX3_parse_58 rfl rfl ?_
            refine zt_get_X3 hX (by decide) (zE_68 _ _) 7 (by decide) kw_216 rfl rfl dX3_parse_59 ?_
            exact zt_iret hX hY dX3_parse_62 hf
        · replace hf := z_neg hf c9
          refine zt_ldc hX dX3_parse_46 kw_616 ?_
          exact zt_iret hX hY dX3_parse_48 hf
      · replace hf := z_pos hf c6
        refine zt_aload_n hX 0 dX3_parse_26 rfl rfl ?_
        refine zt_get_X3 hX (by decide) (zE_68 _ _) 7 (by decide) kw_216 rfl rfl dX3_parse_27 ?_
        exact zt_iret hX hY dX3_parse_30 hf
set_option maxHeartbeats 4000000 in
set_option maxRecDepth 100000 in
theorem c_X3_parse {l : Launch} {D : va_G} {cI cJ cM cS : ClassId} {n0 : Nat}  {σ : z_S} {Q : Int32 → z_S → Prop} (hf : w_X3_parse  σ Q) : z_ci l D cI cJ cM cS n0 yX3_parse cX3_parse 3 .int rm_X3_parse 0 0 [.ref (n0 + 68), .ref (n0 + 1)] σ Q := by
  refine z_ofi (by decide +kernel) (Nat.le_of_ble_eq_true rfl) (fun p e s m args below meth c hX hY => ?_)
  unfold w_X3_parse at hf
  refine zt_L (L' := [(0, .ref (n0 + 68)), (1, .ref (n0 + 1))]) rfl ?_
  refine zt_aload_n hX 0 dX3_parse_0 rfl rfl ?_
  refine zt_iconst hX dX3_parse_1 (v := (0 : Int32)) (by decide) ?_
  refine zt_puti_X3 hX (by decide) (zE_68 _ _) 6 (by decide) kw_215 rfl rfl (Nat.le_of_ble_eq_true rfl) rfl rfl dX3_parse_2 ?_
  refine zt_nms (fun σ1 d1 => ?_)
  replace hf := hf σ1 d1
  refine zt_aload_n hX 0 dX3_parse_5 rfl rfl ?_
  refine zt_iconst hX dX3_parse_6 (v := (0 : Int32)) (by decide) ?_
  refine zt_puti_X3 hX (by decide) (zE_68 _ _) 5 (by decide) kw_214 rfl rfl (Nat.le_of_ble_eq_true rfl) rfl rfl dX3_parse_7 ?_
  refine zt_nms (fun σ2 d2 => ?_)
  replace hf := hf σ2 d2
  refine zt_iconst hX dX3_parse_10 (v := (0 : Int32)) (by decide) ?_
  refine zt_istore_n (L' := [(2, .int (0 : Int32)), (0, .ref (n0 + 68)), (1, .ref (n0 + 1))]) hX dX3_parse_11 rfl (by decide) rfl ?_
  exact zt_sub [1, 2, 0] rfl (t_X3_parse_12 hX hY 400 _ _ hf)

theorem dX5_within_0 : decode cX5_within 0 = .ok (.iload_n 0, 1) := by decide +kernel
theorem dX5_within_1 : decode cX5_within 1 = .ok (.iload_n 1, 1) := by decide +kernel
theorem dX5_within_2 : decode cX5_within 2 = .ok (.if_icmp .lt 12, 3) := by decide +kernel
theorem dX5_within_5 : decode cX5_within 5 = .ok (.iload_n 0, 1) := by decide +kernel
theorem dX5_within_6 : decode cX5_within 6 = .ok (.iload_n 2, 1) := by decide +kernel
theorem dX5_within_7 : decode cX5_within 7 = .ok (.if_icmp .gt 7, 3) := by decide +kernel
theorem dX5_within_10 : decode cX5_within 10 = .ok (.iconst 1, 1) := by decide +kernel
theorem dX5_within_11 : decode cX5_within 11 = .ok (.goto 4, 3) := by decide +kernel
theorem dX5_within_14 : decode cX5_within 14 = .ok (.iconst 0, 1) := by decide +kernel
theorem dX5_within_15 : decode cX5_within 15 = .ok (.ireturn, 1) := by decide +kernel
abbrev rm_X5_within : Room := { frames := 0, cells := 0, slots := 0, locals := 0 }
theorem hy_X5_within : yX5_within.cls ≠ "java/lang/invoke/MethodHandle" ∧ yX5_within.cls ≠ "java/lang/invoke/VarHandle" ∧ (parseMethodDescriptor yX5_within.desc).map (fun d => d.parameters.length) = some 3 := by decide +kernel
def w_X5_within (a0 : Int32) (a1 : Int32) (a2 : Int32) (σ : z_S) (Q : Int32 → z_S → Prop) : Prop :=
  if a0 < a1 then (((0 : Int32) = 0 ∨ (0 : Int32) = 1) ∧ Q (0 : Int32) σ) else (if a2 < a0 then (((0 : Int32) = 0 ∨ (0 : Int32) = 1) ∧ Q (0 : Int32) σ) else (((1 : Int32) = 0 ∨ (1 : Int32) = 1) ∧ Q (1 : Int32) σ))
set_option maxHeartbeats 4000000 in
set_option maxRecDepth 100000 in
theorem c_X5_within {l : Launch} {D : va_G} {cI cJ cM cS : ClassId} {n0 : Nat} {a0 : Int32} {a1 : Int32} {a2 : Int32} {σ : z_S} {Q : Int32 → z_S → Prop} (hf : w_X5_within a0 a1 a2 σ Q) : z_ci l D cI cJ cM cS n0 yX5_within cX5_within 3 .boolean rm_X5_within 0 0 [.int a0, .int a1, .int a2] σ Q := by
  refine z_ofi (by decide +kernel) (Nat.le_of_ble_eq_true rfl) (fun p e s m args below meth c hX hY => ?_)
  unfold w_X5_within at hf
  refine zt_L (L' := [(0, .int a0), (1, .int a1), (2, .int a2)]) rfl ?_
  refine zt_iload_n hX 0 dX5_within_0 rfl rfl ?_
  refine zt_iload_n hX 1 dX5_within_1 rfl rfl ?_
  refine zt_icmp_lt hX dX5_within_2 (tgt := 14) (by decide) (fun c1 => ?_) (fun c1 => ?_)
  · replace hf := z_pos hf c1
    refine zt_iconst hX dX5_within_14 (v := (0 : Int32)) (by decide) ?_
    exact zt_zret hX hY dX5_within_15 hf
  · replace hf := z_neg hf c1
    refine zt_iload_n hX 0 dX5_within_5 rfl rfl ?_
    refine zt_iload_n hX 2 dX5_within_6 rfl rfl ?_
    refine zt_icmp_gt hX dX5_within_7 (tgt := 14) (by decide) (fun c2 => ?_) (fun c2 => ?_)
    · replace hf := z_pos hf c2
      refine zt_iconst hX dX5_within_14 (v := (0 : Int32)) (by decide) ?_
      exact zt_zret hX hY dX5_within_15 hf
    · replace hf := z_neg hf c2
      refine zt_iconst hX dX5_within_10 (v := (1 : Int32)) (by decide) ?_
      refine zt_goto hX dX5_within_11 (tgt := 15) (by decide) ?_
      exact zt_zret hX hY dX5_within_15 hf

theorem dX5_isBoundary_0 : decode cX5_isBoundary 0 = .ok (.iload_n 0, 1) := by decide +kernel
theorem dX5_isBoundary_1 : decode cX5_isBoundary 1 = .ok (.iconst 0, 1) := by decide +kernel
theorem dX5_isBoundary_2 : decode cX5_isBoundary 2 = .ok (.bipush 12, 2) := by decide +kernel
theorem dX5_isBoundary_4 : decode cX5_isBoundary 4 = .ok (.invokestatic 62, 3) := by decide +kernel
theorem dX5_isBoundary_7 : decode cX5_isBoundary 7 = .ok (.ireturn, 1) := by decide +kernel
abbrev rm_X5_isBoundary : Room := { frames := 1, cells := 0, slots := 0, locals := 22 }
theorem hy_X5_isBoundary : yX5_isBoundary.cls ≠ "java/lang/invoke/MethodHandle" ∧ yX5_isBoundary.cls ≠ "java/lang/invoke/VarHandle" ∧ (parseMethodDescriptor yX5_isBoundary.desc).map (fun d => d.parameters.length) = some 1 := by decide +kernel
def w_X5_isBoundary (a0 : Int32) (σ : z_S) (Q : Int32 → z_S → Prop) : Prop :=
  w_X5_within a0 (0 : Int32) (12 : Int32) σ (fun r1 σ2 => (r1 = 0 ∨ r1 = 1) ∧ Q r1 σ2)
set_option maxHeartbeats 4000000 in
set_option maxRecDepth 100000 in
theorem c_X5_isBoundary {l : Launch} {D : va_G} {cI cJ cM cS : ClassId} {n0 : Nat} {a0 : Int32} {σ : z_S} {Q : Int32 → z_S → Prop} (hf : w_X5_isBoundary a0 σ Q) : z_ci l D cI cJ cM cS n0 yX5_isBoundary cX5_isBoundary 1 .boolean rm_X5_isBoundary 0 0 [.int a0] σ Q := by
  refine z_ofi (by decide +kernel) (Nat.le_of_ble_eq_true rfl) (fun p e s m args below meth c hX hY => ?_)
  unfold w_X5_isBoundary at hf
  refine zt_L (L' := [(0, .int a0)]) rfl ?_
  refine zt_iload_n hX 0 dX5_isBoundary_0 rfl rfl ?_
  refine zt_iconst hX dX5_isBoundary_1 (v := (0 : Int32)) (by decide) ?_
  refine zt_bipush hX dX5_isBoundary_2 (v := (12 : Int32)) (by decide) ?_
  refine zt_calliS hX hY (av := [.int a0, .int (0 : Int32), .int (12 : Int32)]) (c_X5_within hf) dX5_isBoundary_4 rfl kw_290 kw_291 kw_61 kw_292 ⟨rfl, rfl⟩ hy_X5_within ⟨by decide, by decide⟩ ⟨by decide, by decide⟩ (Nat.le_of_ble_eq_true rfl) (fun r1 σ2 hf => ?_)
  exact zt_zret hX hY dX5_isBoundary_7 hf

theorem dX4_hasRevision_0 : decode cX4_hasRevision 0 = .ok (.iload_n 1, 1) := by decide +kernel
theorem dX4_hasRevision_1 : decode cX4_hasRevision 1 = .ok (.ifCond .lt 15, 3) := by decide +kernel
theorem dX4_hasRevision_4 : decode cX4_hasRevision 4 = .ok (.iload_n 1, 1) := by decide +kernel
theorem dX4_hasRevision_5 : decode cX4_hasRevision 5 = .ok (.aload_n 0, 1) := by decide +kernel
theorem dX4_hasRevision_6 : decode cX4_hasRevision 6 = .ok (.getfield 45, 3) := by decide +kernel
theorem dX4_hasRevision_9 : decode cX4_hasRevision 9 = .ok (.if_icmp .ge 7, 3) := by decide +kernel
theorem dX4_hasRevision_12 : decode cX4_hasRevision 12 = .ok (.iconst 1, 1) := by decide +kernel
theorem dX4_hasRevision_13 : decode cX4_hasRevision 13 = .ok (.goto 4, 3) := by decide +kernel
theorem dX4_hasRevision_16 : decode cX4_hasRevision 16 = .ok (.iconst 0, 1) := by decide +kernel
theorem dX4_hasRevision_17 : decode cX4_hasRevision 17 = .ok (.ireturn, 1) := by decide +kernel
abbrev rm_X4_hasRevision : Room := { frames := 0, cells := 0, slots := 0, locals := 0 }
theorem hy_X4_hasRevision : yX4_hasRevision.cls ≠ "java/lang/invoke/MethodHandle" ∧ yX4_hasRevision.cls ≠ "java/lang/invoke/VarHandle" ∧ (parseMethodDescriptor yX4_hasRevision.desc).map (fun d => d.parameters.length) = some 1 := by decide +kernel
def w_X4_hasRevision (a1 : Int32) (σ : z_S) (Q : Int32 → z_S → Prop) : Prop :=
  if a1 < 0 then (((0 : Int32) = 0 ∨ (0 : Int32) = 1) ∧ Q (0 : Int32) σ) else (if (zg_i σ 1 3) ≤ a1 then (((0 : Int32) = 0 ∨ (0 : Int32) = 1) ∧ Q (0 : Int32) σ) else (((1 : Int32) = 0 ∨ (1 : Int32) = 1) ∧ Q (1 : Int32) σ))
set_option maxHeartbeats 4000000 in
set_option maxRecDepth 100000 in
theorem c_X4_hasRevision {l : Launch} {D : va_G} {cI cJ cM cS : ClassId} {n0 : Nat} {a1 : Int32} {σ : z_S} {Q : Int32 → z_S → Prop} (hf : w_X4_hasRevision a1 σ Q) : z_ci l D cI cJ cM cS n0 yX4_hasRevision cX4_hasRevision 2 .boolean rm_X4_hasRevision 0 0 [.ref (n0 + 1), .int a1] σ Q := by
  refine z_ofi (by decide +kernel) (Nat.le_of_ble_eq_true rfl) (fun p e s m args below meth c hX hY => ?_)
  unfold w_X4_hasRevision at hf
  refine zt_L (L' := [(0, .ref (n0 + 1)), (1, .int a1)]) rfl ?_
  refine zt_iload_n hX 1 dX4_hasRevision_0 rfl rfl ?_
  refine zt_if_lt hX dX4_hasRevision_1 (tgt := 16) (by decide) (fun c1 => ?_) (fun c1 => ?_)
  · replace hf := z_pos hf c1
    refine zt_iconst hX dX4_hasRevision_16 (v := (0 : Int32)) (by decide) ?_
    exact zt_zret hX hY dX4_hasRevision_17 hf
  · replace hf := z_neg hf c1
    refine zt_iload_n hX 1 dX4_hasRevision_4 rfl rfl ?_
    refine zt_aload_n hX 0 dX4_hasRevision_5 rfl rfl ?_
    refine zt_get_X4 hX (by decide) (zE_1 _ _) 3 (by decide) kw_97 rfl rfl dX4_hasRevision_6 ?_
    refine zt_icmp_ge hX dX4_hasRevision_9 (tgt := 16) (by decide) (fun c2 => ?_) (fun c2 => ?_)
    · replace hf := z_pos hf c2
      refine zt_iconst hX dX4_hasRevision_16 (v := (0 : Int32)) (by decide) ?_
      exact zt_zret hX hY dX4_hasRevision_17 hf
    · replace hf := z_neg hf c2
      refine zt_iconst hX dX4_hasRevision_12 (v := (1 : Int32)) (by decide) ?_
      refine zt_goto hX dX4_hasRevision_13 (tgt := 17) (by decide) ?_
      exact zt_zret hX hY dX4_hasRevision_17 hf

theorem dX4_forgetReadings_0 : decode cX4_forgetReadings 0 = .ok (.iconst 0, 1) := by decide +kernel
theorem dX4_forgetReadings_1 : decode cX4_forgetReadings 1 = .ok (.istore_n 2, 1) := by decide +kernel
theorem dX4_forgetReadings_2 : decode cX4_forgetReadings 2 = .ok (.iload_n 2, 1) := by decide +kernel
theorem dX4_forgetReadings_3 : decode cX4_forgetReadings 3 = .ok (.bipush 13, 2) := by decide +kernel
theorem dX4_forgetReadings_5 : decode cX4_forgetReadings 5 = .ok (.if_icmp .ge 19, 3) := by decide +kernel
theorem dX4_forgetReadings_8 : decode cX4_forgetReadings 8 = .ok (.aload_n 0, 1) := by decide +kernel
theorem dX4_forgetReadings_9 : decode cX4_forgetReadings 9 = .ok (.getfield 36, 3) := by decide +kernel
theorem dX4_forgetReadings_12 : decode cX4_forgetReadings 12 = .ok (.iload_n 1, 1) := by decide +kernel
theorem dX4_forgetReadings_13 : decode cX4_forgetReadings 13 = .ok (.aaload, 1) := by decide +kernel
theorem dX4_forgetReadings_14 : decode cX4_forgetReadings 14 = .ok (.iload_n 2, 1) := by decide +kernel
theorem dX4_forgetReadings_15 : decode cX4_forgetReadings 15 = .ok (.ldc 55, 2) := by decide +kernel
theorem dX4_forgetReadings_17 : decode cX4_forgetReadings 17 = .ok (.iastore, 1) := by decide +kernel
theorem dX4_forgetReadings_18 : decode cX4_forgetReadings 18 = .ok (.iinc 2 1, 3) := by decide +kernel
theorem dX4_forgetReadings_21 : decode cX4_forgetReadings 21 = .ok (.goto (-19), 3) := by decide +kernel
theorem dX4_forgetReadings_24 : decode cX4_forgetReadings 24 = .ok (.return_, 1) := by decide +kernel
abbrev rm_X4_forgetReadings : Room := { frames := 0, cells := 0, slots := 0, locals := 0 }
theorem hy_X4_forgetReadings : yX4_forgetReadings.cls ≠ "java/lang/invoke/MethodHandle" ∧ yX4_forgetReadings.cls ≠ "java/lang/invoke/VarHandle" ∧ (parseMethodDescriptor yX4_forgetReadings.desc).map (fun d => d.parameters.length) = some 1 := by decide +kernel
def wb_X4_forgetReadings_2  (Q : z_S → Prop) (k2 : Int32 → Int32 → z_S → Prop) (x1 : Int32) (x2 : Int32) (σ : z_S) : Prop :=
  if (13 : Int32) ≤ x2 then (Q σ) else (vp_in x1 10 ∧ vp_in x2 13 ∧ ∀ σ4 : z_S, σ4 = zs_i σ (8 + x1.toNatClampNeg) x2.toNatClampNeg (-2000000000 : Int32) → ∀ y5 : Int32, y5 = (x2 + (1 : Int32)) → k2 x1 y5 σ4)
def w_X4_forgetReadings_2  (Q : z_S → Prop) : Nat → Int32 → Int32 → z_S → Prop
  | 0 => fun _ _ _ => False
  | n + 1 => wb_X4_forgetReadings_2  Q (w_X4_forgetReadings_2  Q n)
def w_X4_forgetReadings (a1 : Int32) (σ : z_S) (Q : z_S → Prop) : Prop :=
  w_X4_forgetReadings_2 Q 400 a1 (0 : Int32) σ
set_option maxHeartbeats 4000000 in
set_option maxRecDepth 100000 in
theorem t_X4_forgetReadings_2 {l : Launch} {D : va_G} {cI cJ cM cS : ClassId} {n0 : Nat} {p : Program} {e : Env} {s : State} {m : MethodId} {args : Array Value} {below : List Frame} {meth : Method} {c : Code}  {Q : z_S → Prop} (hX : z_X D cI cJ cM cS p s m args c cX4_forgetReadings 3 yX4_forgetReadings.cls) (hY : z_Y s meth none)  : ∀ (n : Nat) (x1 : Int32) (x2 : Int32) (σ : z_S), w_X4_forgetReadings_2  Q n x1 x2 σ → z_t D cI cJ cM cS n0 p l e rm_X4_forgetReadings s m args below meth c 3 (MQ below (va_Qv Q (fun u t => z_Bq D cI cJ cM cS n0 u t) (z_Ab n0)) args s 0 0 (z_Ab n0)) 0 0 2 [(0, .ref (n0 + 1)), (1, .int x1), (2, .int x2)] [] σ := by
  intro n
  induction n with
  | zero => intro _ _ _ hf; exact hf.elim
  | succ n ih2 =>
    intro x1 x2 σ hf
    have hf : wb_X4_forgetReadings_2  Q (w_X4_forgetReadings_2  Q n) x1 x2 σ := hf
    unfold wb_X4_forgetReadings_2 at hf
    refine zt_iload_n hX 2 dX4_forgetReadings_2 rfl rfl ?_
    refine zt_bipush hX dX4_forgetReadings_3 (v := (13 : Int32)) (by decide) ?_
    refine zt_icmp_ge hX dX4_forgetReadings_5 (tgt := 24) (by decide) (fun c1 => ?_) (fun c1 => ?_)
    · replace hf := z_pos hf c1
      exact zt_vret hX hY dX4_forgetReadings_24 hf
    · replace hf := z_neg hf c1
      refine zt_aload_n hX 0 dX4_forgetReadings_8 rfl rfl ?_
      refine zt_get_X4 hX (by decide) (zE_1 _ _) 9 (by decide) kw_114 rfl rfl dX4_forgetReadings_9 ?_
      refine zt_iload_n hX 1 dX4_forgetReadings_12 rfl rfl ?_
      obtain ⟨h2, hf⟩ := hf
      refine zt_aaloadM hX dX4_forgetReadings_13 (by decide) rfl (k1 := 8) rfl h2 ?_
      refine zt_iload_n hX 2 dX4_forgetReadings_14 rfl rfl ?_
      refine zt_ldc hX dX4_forgetReadings_15 kw_281 ?_
      obtain ⟨h3, hf⟩ := hf
      refine zt_iastore hX dX4_forgetReadings_17 (z_row8 (z_lt h2)) (z_sh8 (z_lt h2)) h3 ?_
      refine zt_nms (fun σ4 d4 => ?_)
      replace hf := hf σ4 d4
      obtain ⟨y5, e5⟩ : ∃ y : Int32, y = (x2 + (1 : Int32)) := ⟨_, rfl⟩
      replace hf := hf y5 e5
      refine zt_iinc (L' := [(2, .int y5), (0, .ref (n0 + 1)), (1, .int x1)]) hX 2 dX4_forgetReadings_18 rfl (v := y5) (by rw [e5]; rfl) (by decide) rfl ?_
      refine zt_goto hX dX4_forgetReadings_21 (tgt := 2) (by decide) ?_
      exact zt_sub [1, 2, 0] rfl (ih2 _ _ _ hf)
set_option maxHeartbeats 4000000 in
set_option maxRecDepth 100000 in
theorem c_X4_forgetReadings {l : Launch} {D : va_G} {cI cJ cM cS : ClassId} {n0 : Nat} {a1 : Int32} {σ : z_S} {Q : z_S → Prop} (hf : w_X4_forgetReadings a1 σ Q) : z_cv l D cI cJ cM cS n0 yX4_forgetReadings cX4_forgetReadings 3 rm_X4_forgetReadings 0 0 [.ref (n0 + 1), .int a1] σ Q := by
  refine z_ofv (by decide +kernel) (Nat.le_of_ble_eq_true rfl) (fun p e s m args below meth c hX hY => ?_)
  unfold w_X4_forgetReadings at hf
  refine zt_L (L' := [(0, .ref (n0 + 1)), (1, .int a1)]) rfl ?_
  refine zt_iconst hX dX4_forgetReadings_0 (v := (0 : Int32)) (by decide) ?_
  refine zt_istore_n (L' := [(2, .int (0 : Int32)), (0, .ref (n0 + 1)), (1, .int a1)]) hX dX4_forgetReadings_1 rfl (by decide) rfl ?_
  exact zt_sub [1, 2, 0] rfl (t_X4_forgetReadings_2 hX hY 400 _ _ _ hf)

theorem dX4_append_0 : decode cX4_append 0 = .ok (.aload_n 0, 1) := by decide +kernel
theorem dX4_append_1 : decode cX4_append 1 = .ok (.getfield 42, 3) := by decide +kernel
theorem dX4_append_4 : decode cX4_append 4 = .ok (.istore_n 2, 1) := by decide +kernel
theorem dX4_append_5 : decode cX4_append 5 = .ok (.iload_n 2, 1) := by decide +kernel
theorem dX4_append_6 : decode cX4_append 6 = .ok (.bipush 10, 2) := by decide +kernel
theorem dX4_append_8 : decode cX4_append 8 = .ok (.if_icmp .lt 6, 3) := by decide +kernel
theorem dX4_append_11 : decode cX4_append 11 = .ok (.ldc 54, 2) := by decide +kernel
theorem dX4_append_13 : decode cX4_append 13 = .ok (.ireturn, 1) := by decide +kernel
theorem dX4_append_14 : decode cX4_append 14 = .ok (.aload_n 0, 1) := by decide +kernel
theorem dX4_append_15 : decode cX4_append 15 = .ok (.getfield 18, 3) := by decide +kernel
theorem dX4_append_18 : decode cX4_append 18 = .ok (.iload_n 2, 1) := by decide +kernel
theorem dX4_append_19 : decode cX4_append 19 = .ok (.iload_n 2, 1) := by decide +kernel
theorem dX4_append_20 : decode cX4_append 20 = .ok (.ifCond .ne 8, 3) := by decide +kernel
theorem dX4_append_23 : decode cX4_append 23 = .ok (.ldc 55, 2) := by decide +kernel
theorem dX4_append_25 : decode cX4_append 25 = .ok (.goto 4, 3) := by decide +kernel
theorem dX4_append_28 : decode cX4_append 28 = .ok (.iload_n 1, 1) := by decide +kernel
theorem dX4_append_29 : decode cX4_append 29 = .ok (.iastore, 1) := by decide +kernel
theorem dX4_append_30 : decode cX4_append 30 = .ok (.aload_n 0, 1) := by decide +kernel
theorem dX4_append_31 : decode cX4_append 31 = .ok (.getfield 22, 3) := by decide +kernel
theorem dX4_append_34 : decode cX4_append 34 = .ok (.iload_n 2, 1) := by decide +kernel
theorem dX4_append_35 : decode cX4_append 35 = .ok (.iconst 1, 1) := by decide +kernel
theorem dX4_append_36 : decode cX4_append 36 = .ok (.iastore, 1) := by decide +kernel
theorem dX4_append_37 : decode cX4_append 37 = .ok (.aload_n 0, 1) := by decide +kernel
theorem dX4_append_38 : decode cX4_append 38 = .ok (.getfield 25, 3) := by decide +kernel
theorem dX4_append_41 : decode cX4_append 41 = .ok (.iload_n 2, 1) := by decide +kernel
theorem dX4_append_42 : decode cX4_append 42 = .ok (.iconst 5, 1) := by decide +kernel
theorem dX4_append_43 : decode cX4_append 43 = .ok (.iastore, 1) := by decide +kernel
theorem dX4_append_44 : decode cX4_append 44 = .ok (.aload_n 0, 1) := by decide +kernel
theorem dX4_append_45 : decode cX4_append 45 = .ok (.getfield 28, 3) := by decide +kernel
theorem dX4_append_48 : decode cX4_append 48 = .ok (.iload_n 2, 1) := by decide +kernel
theorem dX4_append_49 : decode cX4_append 49 = .ok (.sipush 10000, 3) := by decide +kernel
theorem dX4_append_52 : decode cX4_append 52 = .ok (.iastore, 1) := by decide +kernel
theorem dX4_append_53 : decode cX4_append 53 = .ok (.aload_n 0, 1) := by decide +kernel
theorem dX4_append_54 : decode cX4_append 54 = .ok (.getfield 31, 3) := by decide +kernel
theorem dX4_append_57 : decode cX4_append 57 = .ok (.iload_n 2, 1) := by decide +kernel
theorem dX4_append_58 : decode cX4_append 58 = .ok (.iconst 1, 1) := by decide +kernel
theorem dX4_append_59 : decode cX4_append 59 = .ok (.iastore, 1) := by decide +kernel
theorem dX4_append_60 : decode cX4_append 60 = .ok (.aload_n 0, 1) := by decide +kernel
theorem dX4_append_61 : decode cX4_append 61 = .ok (.iload_n 2, 1) := by decide +kernel
theorem dX4_append_62 : decode cX4_append 62 = .ok (.invokevirtual 56, 3) := by decide +kernel
theorem dX4_append_65 : decode cX4_append 65 = .ok (.aload_n 0, 1) := by decide +kernel
theorem dX4_append_66 : decode cX4_append 66 = .ok (.iload_n 2, 1) := by decide +kernel
theorem dX4_append_67 : decode cX4_append 67 = .ok (.iconst 1, 1) := by decide +kernel
theorem dX4_append_68 : decode cX4_append 68 = .ok (.iadd, 1) := by decide +kernel
theorem dX4_append_69 : decode cX4_append 69 = .ok (.putfield 42, 3) := by decide +kernel
theorem dX4_append_72 : decode cX4_append 72 = .ok (.iload_n 2, 1) := by decide +kernel
theorem dX4_append_73 : decode cX4_append 73 = .ok (.ireturn, 1) := by decide +kernel
abbrev rm_X4_append : Room := { frames := 1, cells := 0, slots := 0, locals := 22 }
theorem hy_X4_append : yX4_append.cls ≠ "java/lang/invoke/MethodHandle" ∧ yX4_append.cls ≠ "java/lang/invoke/VarHandle" ∧ (parseMethodDescriptor yX4_append.desc).map (fun d => d.parameters.length) = some 1 := by decide +kernel
def w_X4_append_29  (Q : Int32 → z_S → Prop) (x2 : Int32) (s0 : Int32) (s1 : Int32) (σ : z_S) : Prop :=
  vp_in s1 10 ∧ ∀ σ5 : z_S, σ5 = zs_i σ 2 s1.toNatClampNeg s0 → vp_in x2 10 ∧ ∀ σ7 : z_S, σ7 = zs_i σ5 3 x2.toNatClampNeg (1 : Int32) → vp_in x2 10 ∧ ∀ σ9 : z_S, σ9 = zs_i σ7 4 x2.toNatClampNeg (5 : Int32) → vp_in x2 10 ∧ ∀ σ11 : z_S, σ11 = zs_i σ9 5 x2.toNatClampNeg (10000 : Int32) → vp_in x2 10 ∧ ∀ σ13 : z_S, σ13 = zs_i σ11 6 x2.toNatClampNeg (1 : Int32) → w_X4_forgetReadings x2 σ13 (fun σ15 => ∀ σ16 : z_S, σ16 = zs_i σ15 1 0 (x2 + (1 : Int32)) → Q x2 σ16)
def w_X4_append (a1 : Int32) (σ : z_S) (Q : Int32 → z_S → Prop) : Prop :=
  ∀ y1 : Int32, y1 = (zg_i σ 1 0) → if y1 < (10 : Int32) then (if y1 = 0 then (w_X4_append_29 Q y1 (-2000000000 : Int32) y1 σ) else (w_X4_append_29 Q y1 a1 y1 σ)) else (Q (-2000000004 : Int32) σ)
set_option maxHeartbeats 4000000 in
set_option maxRecDepth 100000 in
theorem t_X4_append_29 {l : Launch} {D : va_G} {cI cJ cM cS : ClassId} {n0 : Nat} {p : Program} {e : Env} {s : State} {m : MethodId} {args : Array Value} {below : List Frame} {meth : Method} {c : Code}  {Q : Int32 → z_S → Prop} (hX : z_X D cI cJ cM cS p s m args c cX4_append 3 yX4_append.cls) (hY : z_Y s meth (some .int))  (x2 : Int32) (s0 : Int32) (s1 : Int32) (σ : z_S) (hf : w_X4_append_29  Q x2 s0 s1 σ) : z_t D cI cJ cM cS n0 p l e rm_X4_append s m args below meth c 3 (MQ below (va_Qi Q (fun u t => z_Bq D cI cJ cM cS n0 u t) (z_Ab n0)) args s 0 0 (z_Ab n0)) 0 0 29 [(0, .ref (n0 + 1)), (2, .int x2)] [.int s0, .int s1, .ref (n0 + 2)] σ := by
  unfold w_X4_append_29 at hf
  obtain ⟨h4, hf⟩ := hf
  refine zt_iastore hX dX4_append_29 (by decide) rfl h4 ?_
  refine zt_nms (fun σ5 d5 => ?_)
  replace hf := hf σ5 d5
  refine zt_aload_n hX 0 dX4_append_30 rfl rfl ?_
  refine zt_get_X4 hX (by decide) (zE_1 _ _) 5 (by decide) kw_103 rfl rfl dX4_append_31 ?_
  refine zt_iload_n hX 1 dX4_append_34 rfl rfl ?_
  refine zt_iconst hX dX4_append_35 (v := (1 : Int32)) (by decide) ?_
  obtain ⟨h6, hf⟩ := hf
  refine zt_iastore hX dX4_append_36 (by decide) rfl h6 ?_
  refine zt_nms (fun σ7 d7 => ?_)
  replace hf := hf σ7 d7
  refine zt_aload_n hX 0 dX4_append_37 rfl rfl ?_
  refine zt_get_X4 hX (by decide) (zE_1 _ _) 6 (by decide) kw_106 rfl rfl dX4_append_38 ?_
  refine zt_iload_n hX 1 dX4_append_41 rfl rfl ?_
  refine zt_iconst hX dX4_append_42 (v := (5 : Int32)) (by decide) ?_
  obtain ⟨h8, hf⟩ := hf
  refine zt_iastore hX dX4_append_43 (by decide) rfl h8 ?_
  refine zt_nms (fun σ9 d9 => ?_)
  replace hf := hf σ9 d9
  refine zt_aload_n hX 0 dX4_append_44 rfl rfl ?_
  refine zt_get_X4 hX (by decide) (zE_1 _ _) 7 (by decide) kw_108 rfl rfl dX4_append_45 ?_
  refine zt_iload_n hX 1 dX4_append_48 rfl rfl ?_
  refine zt_sipush hX dX4_append_49 (v := (10000 : Int32)) (by decide) ?_
  obtain ⟨h10, hf⟩ := hf
  refine zt_iastore hX dX4_append_52 (by decide) rfl h10 ?_
  refine zt_nms (fun σ11 d11 => ?_)
  replace hf := hf σ11 d11
  refine zt_aload_n hX 0 dX4_append_53 rfl rfl ?_
  refine zt_get_X4 hX (by decide) (zE_1 _ _) 8 (by decide) kw_111 rfl rfl dX4_append_54 ?_
  refine zt_iload_n hX 1 dX4_append_57 rfl rfl ?_
  refine zt_iconst hX dX4_append_58 (v := (1 : Int32)) (by decide) ?_
  obtain ⟨h12, hf⟩ := hf
  refine zt_iastore hX dX4_append_59 (by decide) rfl h12 ?_
  refine zt_nms (fun σ13 d13 => ?_)
  replace hf := hf σ13 d13
  refine zt_aload_n hX 0 dX4_append_60 rfl rfl ?_
  refine zt_iload_n hX 1 dX4_append_61 rfl rfl ?_
  refine zt_callvV hX hY (av := [.int x2]) (c_X4_forgetReadings hf) dX4_append_62 rfl kw_282 kw_283 kw_284 kw_62 kw_285 ⟨rfl, rfl⟩ hy_X4_forgetReadings ⟨by decide, by decide⟩ ⟨by decide, by decide⟩ (Nat.le_of_ble_eq_true rfl) (by decide) (zE_1 _ _) rfl rfl (fun σ15 hf => ?_)
  refine zt_aload_n hX 0 dX4_append_65 rfl rfl ?_
  refine zt_iload_n hX 1 dX4_append_66 rfl rfl ?_
  refine zt_iconst hX dX4_append_67 (v := (1 : Int32)) (by decide) ?_
  refine zt_iadd hX dX4_append_68 ?_
  refine zt_puti_X4 hX (by decide) (zE_1 _ _) 0 (by decide) kw_87 rfl rfl (Nat.le_of_ble_eq_true rfl) rfl rfl dX4_append_69 ?_
  refine zt_nms (fun σ16 d16 => ?_)
  replace hf := hf σ16 d16
  refine zt_iload_n hX 1 dX4_append_72 rfl rfl ?_
  exact zt_iret hX hY dX4_append_73 hf
set_option maxHeartbeats 4000000 in
set_option maxRecDepth 100000 in
theorem c_X4_append {l : Launch} {D : va_G} {cI cJ cM cS : ClassId} {n0 : Nat} {a1 : Int32} {σ : z_S} {Q : Int32 → z_S → Prop} (hf : w_X4_append a1 σ Q) : z_ci l D cI cJ cM cS n0 yX4_append cX4_append 3 .int rm_X4_append 0 0 [.ref (n0 + 1), .int a1] σ Q := by
  refine z_ofi (by decide +kernel) (Nat.le_of_ble_eq_true rfl) (fun p e s m args below meth c hX hY => ?_)
  unfold w_X4_append at hf
  refine zt_L (L' := [(0, .ref (n0 + 1)), (1, .int a1)]) rfl ?_
  refine zt_aload_n hX 0 dX4_append_0 rfl rfl ?_
  refine zt_get_X4 hX (by decide) (zE_1 _ _) 0 (by decide) kw_87 rfl rfl dX4_append_1 ?_
  refine zt_nmi (fun y1 e1 => ?_)
  replace hf := hf y1 e1
  refine zt_istore_n (L' := [(2, .int y1), (0, .ref (n0 + 1)), (1, .int a1)]) hX dX4_append_4 rfl (by decide) rfl ?_
  refine zt_iload_n hX 0 dX4_append_5 rfl rfl ?_
  refine zt_bipush hX dX4_append_6 (v := (10 : Int32)) (by decide) ?_
  refine zt_icmp_lt hX dX4_append_8 (tgt := 14) (by decide) (fun c2 => ?_) (fun c2 => ?_)
  · replace hf := z_pos hf c2
    refine zt_aload_n hX 1 dX4_append_14 rfl rfl ?_
    refine zt_get_X4 hX (by decide) (zE_1 _ _) 4 (by decide) kw_99 rfl rfl dX4_append_15 ?_
    refine zt_iload_n hX 0 dX4_append_18 rfl rfl ?_
    refine zt_iload_n hX 0 dX4_append_19 rfl rfl ?_
    refine zt_if_ne hX dX4_append_20 (tgt := 28) (by decide) (fun c3 => ?_) (fun c3 => ?_)
    · replace hf := z_neg hf c3
      refine zt_iload_n hX 2 dX4_append_28 rfl rfl ?_
      exact zt_sub [1, 0] rfl (t_X4_append_29 hX hY _ _ _ _ hf)
    · replace hf := z_pos hf c3
      refine zt_ldc hX dX4_append_23 kw_281 ?_
      refine zt_goto hX dX4_append_25 (tgt := 29) (by decide) ?_
      exact zt_sub [1, 0] rfl (t_X4_append_29 hX hY _ _ _ _ hf)
  · replace hf := z_neg hf c2
    refine zt_ldc hX dX4_append_11 kw_280 ?_
    exact zt_iret hX hY dX4_append_13 hf

theorem dX4_findChild_0 : decode cX4_findChild 0 = .ok (.iconst 0, 1) := by decide +kernel
theorem dX4_findChild_1 : decode cX4_findChild 1 = .ok (.istore_n 3, 1) := by decide +kernel
theorem dX4_findChild_2 : decode cX4_findChild 2 = .ok (.iload_n 1, 1) := by decide +kernel
theorem dX4_findChild_3 : decode cX4_findChild 3 = .ok (.iconst 1, 1) := by decide +kernel
theorem dX4_findChild_4 : decode cX4_findChild 4 = .ok (.iadd, 1) := by decide +kernel
theorem dX4_findChild_5 : decode cX4_findChild 5 = .ok (.istore 4, 2) := by decide +kernel
theorem dX4_findChild_7 : decode cX4_findChild 7 = .ok (.iload 4, 2) := by decide +kernel
theorem dX4_findChild_9 : decode cX4_findChild 9 = .ok (.aload_n 0, 1) := by decide +kernel
theorem dX4_findChild_10 : decode cX4_findChild 10 = .ok (.getfield 42, 3) := by decide +kernel
theorem dX4_findChild_13 : decode cX4_findChild 13 = .ok (.if_icmp .ge 31, 3) := by decide +kernel
theorem dX4_findChild_16 : decode cX4_findChild 16 = .ok (.aload_n 0, 1) := by decide +kernel
theorem dX4_findChild_17 : decode cX4_findChild 17 = .ok (.getfield 18, 3) := by decide +kernel
theorem dX4_findChild_20 : decode cX4_findChild 20 = .ok (.iload 4, 2) := by decide +kernel
theorem dX4_findChild_22 : decode cX4_findChild 22 = .ok (.iaload, 1) := by decide +kernel
theorem dX4_findChild_23 : decode cX4_findChild 23 = .ok (.iload_n 1, 1) := by decide +kernel
theorem dX4_findChild_24 : decode cX4_findChild 24 = .ok (.if_icmp .ne 14, 3) := by decide +kernel
theorem dX4_findChild_27 : decode cX4_findChild 27 = .ok (.iload_n 3, 1) := by decide +kernel
theorem dX4_findChild_28 : decode cX4_findChild 28 = .ok (.iload_n 2, 1) := by decide +kernel
theorem dX4_findChild_29 : decode cX4_findChild 29 = .ok (.if_icmp .ne 6, 3) := by decide +kernel
theorem dX4_findChild_32 : decode cX4_findChild 32 = .ok (.iload 4, 2) := by decide +kernel
theorem dX4_findChild_34 : decode cX4_findChild 34 = .ok (.ireturn, 1) := by decide +kernel
theorem dX4_findChild_35 : decode cX4_findChild 35 = .ok (.iinc 3 1, 3) := by decide +kernel
theorem dX4_findChild_38 : decode cX4_findChild 38 = .ok (.iinc 4 1, 3) := by decide +kernel
theorem dX4_findChild_41 : decode cX4_findChild 41 = .ok (.goto (-34), 3) := by decide +kernel
theorem dX4_findChild_44 : decode cX4_findChild 44 = .ok (.ldc 55, 2) := by decide +kernel
theorem dX4_findChild_46 : decode cX4_findChild 46 = .ok (.ireturn, 1) := by decide +kernel
abbrev rm_X4_findChild : Room := { frames := 0, cells := 0, slots := 0, locals := 0 }
theorem hy_X4_findChild : yX4_findChild.cls ≠ "java/lang/invoke/MethodHandle" ∧ yX4_findChild.cls ≠ "java/lang/invoke/VarHandle" ∧ (parseMethodDescriptor yX4_findChild.desc).map (fun d => d.parameters.length) = some 2 := by decide +kernel
def w_X4_findChild_38 (k7 : Int32 → Int32 → Int32 → Int32 → z_S → Prop) (Q : Int32 → z_S → Prop) (x1 : Int32) (x2 : Int32) (x3 : Int32) (x4 : Int32) (σ : z_S) : Prop :=
  ∀ y5 : Int32, y5 = (x4 + (1 : Int32)) → k7 x1 x2 x3 y5 σ
def wb_X4_findChild_7  (Q : Int32 → z_S → Prop) (k7 : Int32 → Int32 → Int32 → Int32 → z_S → Prop) (x1 : Int32) (x2 : Int32) (x3 : Int32) (x4 : Int32) (σ : z_S) : Prop :=
  if (zg_i σ 1 0) ≤ x4 then (Q (-2000000000 : Int32) σ) else (vp_in x4 10 ∧ if (zg_i σ 2 x4.toNatClampNeg) = x1 then (if x3 = x2 then (Q x4 σ) else (∀ y7 : Int32, y7 = (x3 + (1 : Int32)) → w_X4_findChild_38 k7 Q x1 x2 y7 x4 σ)) else (w_X4_findChild_38 k7 Q x1 x2 x3 x4 σ))
def w_X4_findChild_7  (Q : Int32 → z_S → Prop) : Nat → Int32 → Int32 → Int32 → Int32 → z_S → Prop
  | 0 => fun _ _ _ _ _ => False
  | n + 1 => wb_X4_findChild_7  Q (w_X4_findChild_7  Q n)
def w_X4_findChild (a1 : Int32) (a2 : Int32) (σ : z_S) (Q : Int32 → z_S → Prop) : Prop :=
  ∀ y1 : Int32, y1 = (a1 + (1 : Int32)) → w_X4_findChild_7 Q 400 a1 a2 (0 : Int32) y1 σ
set_option maxHeartbeats 4000000 in
set_option maxRecDepth 100000 in
theorem t_X4_findChild_38 {l : Launch} {D : va_G} {cI cJ cM cS : ClassId} {n0 : Nat} {p : Program} {e : Env} {s : State} {m : MethodId} {args : Array Value} {below : List Frame} {meth : Method} {c : Code} {k7 : Int32 → Int32 → Int32 → Int32 → z_S → Prop} {Q : Int32 → z_S → Prop} (hX : z_X D cI cJ cM cS p s m args c cX4_findChild 5 yX4_findChild.cls) (hY : z_Y s meth (some .int)) (hk7 : ∀ (x1 : Int32) (x2 : Int32) (x3 : Int32) (x4 : Int32) (σ : z_S), k7 x1 x2 x3 x4 σ → z_t D cI cJ cM cS n0 p l e rm_X4_findChild s m args below meth c 5 (MQ below (va_Qi Q (fun u t => z_Bq D cI cJ cM cS n0 u t) (z_Ab n0)) args s 0 0 (z_Ab n0)) 0 0 7 [(0, .ref (n0 + 1)), (1, .int x1), (2, .int x2), (3, .int x3), (4, .int x4)] [] σ) (x1 : Int32) (x2 : Int32) (x3 : Int32) (x4 : Int32) (σ : z_S) (hf : w_X4_findChild_38 k7 Q x1 x2 x3 x4 σ) : z_t D cI cJ cM cS n0 p l e rm_X4_findChild s m args below meth c 5 (MQ below (va_Qi Q (fun u t => z_Bq D cI cJ cM cS n0 u t) (z_Ab n0)) args s 0 0 (z_Ab n0)) 0 0 38 [(0, .ref (n0 + 1)), (1, .int x1), (2, .int x2), (3, .int x3), (4, .int x4)] [] σ := by
  unfold w_X4_findChild_38 at hf
  obtain ⟨y5, e5⟩ : ∃ y : Int32, y = (x4 + (1 : Int32)) := ⟨_, rfl⟩
  replace hf := hf y5 e5
  refine zt_iinc (L' := [(4, .int y5), (0, .ref (n0 + 1)), (1, .int x1), (2, .int x2), (3, .int x3)]) hX 4 dX4_findChild_38 rfl (v := y5) (by rw [e5]; rfl) (by decide) rfl ?_
  refine zt_goto hX dX4_findChild_41 (tgt := 7) (by decide) ?_
  exact zt_sub [1, 2, 3, 4, 0] rfl (hk7 _ _ _ _ _ hf)
set_option maxHeartbeats 4000000 in
set_option maxRecDepth 100000 in
theorem t_X4_findChild_7 {l : Launch} {D : va_G} {cI cJ cM cS : ClassId} {n0 : Nat} {p : Program} {e : Env} {s : State} {m : MethodId} {args : Array Value} {below : List Frame} {meth : Method} {c : Code}  {Q : Int32 → z_S → Prop} (hX : z_X D cI cJ cM cS p s m args c cX4_findChild 5 yX4_findChild.cls) (hY : z_Y s meth (some .int))  : ∀ (n : Nat) (x1 : Int32) (x2 : Int32) (x3 : Int32) (x4 : Int32) (σ : z_S), w_X4_findChild_7  Q n x1 x2 x3 x4 σ → z_t D cI cJ cM cS n0 p l e rm_X4_findChild s m args below meth c 5 (MQ below (va_Qi Q (fun u t => z_Bq D cI cJ cM cS n0 u t) (z_Ab n0)) args s 0 0 (z_Ab n0)) 0 0 7 [(0, .ref (n0 + 1)), (1, .int x1), (2, .int x2), (3, .int x3), (4, .int x4)] [] σ := by
  intro n
  induction n with
  | zero => intro _ _ _ _ _ hf; exact hf.elim
  | succ n ih7 =>
    intro x1 x2 x3 x4 σ hf
    have hf : wb_X4_findChild_7  Q (w_X4_findChild_7  Q n) x1 x2 x3 x4 σ := hf
    unfold wb_X4_findChild_7 at hf
    refine zt_iload hX 4 dX4_findChild_7 rfl ?_
    refine zt_aload_n hX 0 dX4_findChild_9 rfl rfl ?_
    refine zt_get_X4 hX (by decide) (zE_1 _ _) 0 (by decide) kw_87 rfl rfl dX4_findChild_10 ?_
    refine zt_icmp_ge hX dX4_findChild_13 (tgt := 44) (by decide) (fun c2 => ?_) (fun c2 => ?_)
    · replace hf := z_pos hf c2
      refine zt_ldc hX dX4_findChild_44 kw_281 ?_
      exact zt_iret hX hY dX4_findChild_46 hf
    · replace hf := z_neg hf c2
      refine zt_aload_n hX 0 dX4_findChild_16 rfl rfl ?_
      refine zt_get_X4 hX (by decide) (zE_1 _ _) 4 (by decide) kw_99 rfl rfl dX4_findChild_17 ?_
      refine zt_iload hX 4 dX4_findChild_20 rfl ?_
      obtain ⟨h3, hf⟩ := hf
      refine zt_iaload hX dX4_findChild_22 (by decide) rfl h3 ?_
      refine zt_iload_n hX 1 dX4_findChild_23 rfl rfl ?_
      refine zt_icmp_ne hX dX4_findChild_24 (tgt := 38) (by decide) (fun c4 => ?_) (fun c4 => ?_)
      · replace hf := z_neg hf c4
        exact zt_sub [0, 1, 2, 3, 4] rfl (t_X4_findChild_38 hX hY ih7 _ _ _ _ _ hf)
      · replace hf := z_pos hf c4
        refine zt_iload_n hX 3 dX4_findChild_27 rfl rfl ?_
        refine zt_iload_n hX 2 dX4_findChild_28 rfl rfl ?_
        refine zt_icmp_ne hX dX4_findChild_29 (tgt := 35) (by decide) (fun c6 => ?_) (fun c6 => ?_)
        · replace hf := z_neg hf c6
          obtain ⟨y7, e7⟩ : ∃ y : Int32, y = (x3 + (1 : Int32)) := ⟨_, rfl⟩
          replace hf := hf y7 e7
          refine zt_iinc (L' := [(3, .int y7), (0, .ref (n0 + 1)), (1, .int x1), (2, .int x2), (4, .int x4)]) hX 3 dX4_findChild_35 rfl (v := y7) (by rw [e7]; rfl) (by decide) rfl ?_
          exact zt_sub [1, 2, 3, 0, 4] rfl (t_X4_findChild_38 hX hY ih7 _ _ _ _ _ hf)
        · replace hf := z_pos hf c6
          refine zt_iload hX 4 dX4_findChild_32 rfl ?_
          exact zt_iret hX hY dX4_findChild_34 hf
set_option maxHeartbeats 4000000 in
set_option maxRecDepth 100000 in
theorem c_X4_findChild {l : Launch} {D : va_G} {cI cJ cM cS : ClassId} {n0 : Nat} {a1 : Int32} {a2 : Int32} {σ : z_S} {Q : Int32 → z_S → Prop} (hf : w_X4_findChild a1 a2 σ Q) : z_ci l D cI cJ cM cS n0 yX4_findChild cX4_findChild 5 .int rm_X4_findChild 0 0 [.ref (n0 + 1), .int a1, .int a2] σ Q := by
  refine z_ofi (by decide +kernel) (Nat.le_of_ble_eq_true rfl) (fun p e s m args below meth c hX hY => ?_)
  unfold w_X4_findChild at hf
  refine zt_L (L' := [(0, .ref (n0 + 1)), (1, .int a1), (2, .int a2)]) rfl ?_
  refine zt_iconst hX dX4_findChild_0 (v := (0 : Int32)) (by decide) ?_
  refine zt_istore_n (L' := [(3, .int (0 : Int32)), (0, .ref (n0 + 1)), (1, .int a1), (2, .int a2)]) hX dX4_findChild_1 rfl (by decide) rfl ?_
  refine zt_iload_n hX 2 dX4_findChild_2 rfl rfl ?_
  refine zt_iconst hX dX4_findChild_3 (v := (1 : Int32)) (by decide) ?_
  refine zt_iadd hX dX4_findChild_4 ?_
  refine zt_nmi (fun y1 e1 => ?_)
  replace hf := hf y1 e1
  refine zt_istore (L' := [(4, .int y1), (3, .int (0 : Int32)), (0, .ref (n0 + 1)), (1, .int a1), (2, .int a2)]) hX dX4_findChild_5 (by decide) rfl ?_
  exact zt_sub [2, 3, 4, 1, 0] rfl (t_X4_findChild_7 hX hY 400 _ _ _ _ _ hf)
