/-! constructors, over any heap below them; the first state of all -/
def zs_0 : z_S := (fun a b => if (a = 1 ∨ a = 74) ∧ b = 1 then 5 else if (a = 1 ∨ a = 74) ∧ b = 2 then 50 else 0, fun _ _ => 0, fun _ => none, 81)
theorem dX4_init_0 : decode cX4_init 0 = .ok (.aload_n 0, 1) := by decide +kernel
theorem dX4_init_1 : decode cX4_init 1 = .ok (.invokespecial 3, 3) := by decide +kernel
theorem dX4_init_4 : decode cX4_init 4 = .ok (.aload_n 0, 1) := by decide +kernel
theorem dX4_init_5 : decode cX4_init 5 = .ok (.iconst 5, 1) := by decide +kernel
theorem dX4_init_6 : decode cX4_init 6 = .ok (.putfield 9, 3) := by decide +kernel
theorem dX4_init_9 : decode cX4_init 9 = .ok (.aload_n 0, 1) := by decide +kernel
theorem dX4_init_10 : decode cX4_init 10 = .ok (.bipush 50, 2) := by decide +kernel
theorem dX4_init_12 : decode cX4_init 12 = .ok (.putfield 15, 3) := by decide +kernel
theorem dX4_init_15 : decode cX4_init 15 = .ok (.aload_n 0, 1) := by decide +kernel
theorem dX4_init_16 : decode cX4_init 16 = .ok (.bipush 10, 2) := by decide +kernel
theorem dX4_init_18 : decode cX4_init 18 = .ok (.newarray .int, 2) := by decide +kernel
theorem dX4_init_20 : decode cX4_init 20 = .ok (.putfield 18, 3) := by decide +kernel
theorem dX4_init_23 : decode cX4_init 23 = .ok (.aload_n 0, 1) := by decide +kernel
theorem dX4_init_24 : decode cX4_init 24 = .ok (.bipush 10, 2) := by decide +kernel
theorem dX4_init_26 : decode cX4_init 26 = .ok (.newarray .int, 2) := by decide +kernel
theorem dX4_init_28 : decode cX4_init 28 = .ok (.putfield 22, 3) := by decide +kernel
theorem dX4_init_31 : decode cX4_init 31 = .ok (.aload_n 0, 1) := by decide +kernel
theorem dX4_init_32 : decode cX4_init 32 = .ok (.bipush 10, 2) := by decide +kernel
theorem dX4_init_34 : decode cX4_init 34 = .ok (.newarray .int, 2) := by decide +kernel
theorem dX4_init_36 : decode cX4_init 36 = .ok (.putfield 25, 3) := by decide +kernel
theorem dX4_init_39 : decode cX4_init 39 = .ok (.aload_n 0, 1) := by decide +kernel
theorem dX4_init_40 : decode cX4_init 40 = .ok (.bipush 10, 2) := by decide +kernel
theorem dX4_init_42 : decode cX4_init 42 = .ok (.newarray .int, 2) := by decide +kernel
theorem dX4_init_44 : decode cX4_init 44 = .ok (.putfield 28, 3) := by decide +kernel
theorem dX4_init_47 : decode cX4_init 47 = .ok (.aload_n 0, 1) := by decide +kernel
theorem dX4_init_48 : decode cX4_init 48 = .ok (.bipush 10, 2) := by decide +kernel
theorem dX4_init_50 : decode cX4_init 50 = .ok (.newarray .int, 2) := by decide +kernel
theorem dX4_init_52 : decode cX4_init 52 = .ok (.putfield 31, 3) := by decide +kernel
theorem dX4_init_55 : decode cX4_init 55 = .ok (.aload_n 0, 1) := by decide +kernel
theorem dX4_init_56 : decode cX4_init 56 = .ok (.bipush 10, 2) := by decide +kernel
theorem dX4_init_58 : decode cX4_init 58 = .ok (.bipush 13, 2) := by decide +kernel
theorem dX4_init_60 : decode cX4_init 60 = .ok (.multianewarray 34 2, 4) := by decide +kernel
theorem dX4_init_64 : decode cX4_init 64 = .ok (.putfield 36, 3) := by decide +kernel
theorem dX4_init_67 : decode cX4_init 67 = .ok (.aload_n 0, 1) := by decide +kernel
theorem dX4_init_68 : decode cX4_init 68 = .ok (.bipush 8, 2) := by decide +kernel
theorem dX4_init_70 : decode cX4_init 70 = .ok (.bipush 10, 2) := by decide +kernel
theorem dX4_init_72 : decode cX4_init 72 = .ok (.multianewarray 34 2, 4) := by decide +kernel
theorem dX4_init_76 : decode cX4_init 76 = .ok (.putfield 39, 3) := by decide +kernel
theorem dX4_init_79 : decode cX4_init 79 = .ok (.return_, 1) := by decide +kernel
abbrev rm_X4_init : Room := { frames := 1, cells := 25, slots := 278, locals := 12 }
theorem hy_X4_init : yX4_init.cls ≠ "java/lang/invoke/MethodHandle" ∧ yX4_init.cls ≠ "java/lang/invoke/VarHandle" ∧ (parseMethodDescriptor yX4_init.desc).map (fun d => d.parameters.length) = some 0 := by decide +kernel
set_option maxHeartbeats 4000000 in
set_option maxRecDepth 100000 in
theorem c_X4_init {l : Launch} {D : va_G} {cI cJ cM cS : ClassId} {n0 : Nat} {n : Nat} {h : Nat → va_E} (hh : h n = .inr (4, [.int 0, .int 0, .int 0, .int 0, .null, .null, .null, .null, .null, .null, .null])) : z_cg l D cI cJ cM cS n0 yX4_init cX4_init 1 rm_X4_init 25 278 [.ref (n0 + n)] (n + 1) h (n + 26) (z_st0 n0 n cI cJ cM cS h) := by
  refine z_ofg (by decide +kernel) (Nat.le_of_ble_eq_true rfl) (fun p e s m args below meth c hX hY hin => ?_)
  refine zr_L (L' := [(0, .ref (n0 + n))]) rfl ?_
  refine zr_aload_n hX 0 dX4_init_0 rfl rfl ?_
  refine zr_objInit hX dX4_init_1 kw_84 kw_77 kw_78 (by decide) (Nat.le_of_ble_eq_true rfl) ?_
  refine zr_aload_n hX 0 dX4_init_4 rfl rfl ?_
  refine zr_iconst hX dX4_init_5 (v := (5 : Int32)) (by decide) ?_
  refine zr_put hX (ci := 4) (C := RX4) (T := TX4) (N := 11) (k := n) rfl z_inX4 (by omega) hh 1 (by decide) kw_92 rfl tyX4 tyX4_ok nmX4 rfl rfl rfl rfl (Nat.le_of_ble_eq_true rfl) dX4_init_6 ?_
  refine zr_nmh (fun h1 g1 => ?_)
  have f1_n : h1 (n) = .inr (4, [.int 0, .int (5), .int 0, .int 0, .null, .null, .null, .null, .null, .null, .null]) := by rw [g1, z_up_at]; rfl
  refine zr_aload_n hX 0 dX4_init_9 rfl rfl ?_
  refine zr_bipush hX dX4_init_10 (v := (50 : Int32)) (by decide) ?_
  refine zr_put hX (ci := 4) (C := RX4) (T := TX4) (N := 11) (k := n) rfl z_inX4 (by omega) f1_n 2 (by decide) kw_94 rfl tyX4 tyX4_ok nmX4 rfl rfl rfl rfl (Nat.le_of_ble_eq_true rfl) dX4_init_12 ?_
  refine zr_nmh (fun h2 g2 => ?_)
  have f2_n : h2 (n) = .inr (4, [.int 0, .int (5), .int (50), .int 0, .null, .null, .null, .null, .null, .null, .null]) := by rw [g2, z_up_at]; rfl
  refine zr_aload_n hX 0 dX4_init_15 rfl rfl ?_
  refine zr_bipush hX dX4_init_16 (v := (10 : Int32)) (by decide) ?_
  refine zr_newI hX (N := 10) dX4_init_18 (by decide) (by decide) (by decide) (by decide) (by decide) ?_
  refine zr_nmh (fun h3 g3 => ?_)
  have f3_n : h3 (n) = .inr (4, [.int 0, .int (5), .int (50), .int 0, .null, .null, .null, .null, .null, .null, .null]) := by rw [g3, z_up_ne _ _ (by omega)]; exact f2_n
  refine zr_putF hX (ci := 4) (C := RX4) (T := TX4) (N := 11) (k := n) rfl z_inX4 (by omega) f3_n 4 (by decide) kw_99 rfl tyX4 tyX4_ok nmX4 rfl hin rfl rfl rfl rfl (Nat.le_of_ble_eq_true rfl) dX4_init_20 ?_
  refine zr_nmh (fun h4 g4 => ?_)
  have f4_n : h4 (n) = .inr (4, [.int 0, .int (5), .int (50), .int 0, .ref (n0 + (n + 1)), .null, .null, .null, .null, .null, .null]) := by rw [g4, z_up_at]; rfl
  refine zr_aload_n hX 0 dX4_init_23 rfl rfl ?_
  refine zr_bipush hX dX4_init_24 (v := (10 : Int32)) (by decide) ?_
  refine zr_newI hX (N := 10) dX4_init_26 (by decide) (by decide) (by decide) (by decide) (by decide) ?_
  refine zr_nmh (fun h5 g5 => ?_)
  have f5_n : h5 (n) = .inr (4, [.int 0, .int (5), .int (50), .int 0, .ref (n0 + (n + 1)), .null, .null, .null, .null, .null, .null]) := by rw [g5, z_up_ne _ _ (by omega)]; exact f4_n
  refine zr_putF hX (ci := 4) (C := RX4) (T := TX4) (N := 11) (k := n) rfl z_inX4 (by omega) f5_n 5 (by decide) kw_103 rfl tyX4 tyX4_ok nmX4 rfl hin rfl rfl rfl rfl (Nat.le_of_ble_eq_true rfl) dX4_init_28 ?_
  refine zr_nmh (fun h6 g6 => ?_)
  have f6_n : h6 (n) = .inr (4, [.int 0, .int (5), .int (50), .int 0, .ref (n0 + (n + 1)), .ref (n0 + (n + 2)), .null, .null, .null, .null, .null]) := by rw [g6, z_up_at]; rfl
  refine zr_aload_n hX 0 dX4_init_31 rfl rfl ?_
  refine zr_bipush hX dX4_init_32 (v := (10 : Int32)) (by decide) ?_
  refine zr_newI hX (N := 10) dX4_init_34 (by decide) (by decide) (by decide) (by decide) (by decide) ?_
  refine zr_nmh (fun h7 g7 => ?_)
  have f7_n : h7 (n) = .inr (4, [.int 0, .int (5), .int (50), .int 0, .ref (n0 + (n + 1)), .ref (n0 + (n + 2)), .null, .null, .null, .null, .null]) := by rw [g7, z_up_ne _ _ (by omega)]; exact f6_n
  refine zr_putF hX (ci := 4) (C := RX4) (T := TX4) (N := 11) (k := n) rfl z_inX4 (by omega) f7_n 6 (by decide) kw_106 rfl tyX4 tyX4_ok nmX4 rfl hin rfl rfl rfl rfl (Nat.le_of_ble_eq_true rfl) dX4_init_36 ?_
  refine zr_nmh (fun h8 g8 => ?_)
  have f8_n : h8 (n) = .inr (4, [.int 0, .int (5), .int (50), .int 0, .ref (n0 + (n + 1)), .ref (n0 + (n + 2)), .ref (n0 + (n + 3)), .null, .null, .null, .null]) := by rw [g8, z_up_at]; rfl
  refine zr_aload_n hX 0 dX4_init_39 rfl rfl ?_
  refine zr_bipush hX dX4_init_40 (v := (10 : Int32)) (by decide) ?_
  refine zr_newI hX (N := 10) dX4_init_42 (by decide) (by decide) (by decide) (by decide) (by decide) ?_
  refine zr_nmh (fun h9 g9 => ?_)
  have f9_n : h9 (n) = .inr (4, [.int 0, .int (5), .int (50), .int 0, .ref (n0 + (n + 1)), .ref (n0 + (n + 2)), .ref (n0 + (n + 3)), .null, .null, .null, .null]) := by rw [g9, z_up_ne _ _ (by omega)]; exact f8_n
  refine zr_putF hX (ci := 4) (C := RX4) (T := TX4) (N := 11) (k := n) rfl z_inX4 (by omega) f9_n 7 (by decide) kw_108 rfl tyX4 tyX4_ok nmX4 rfl hin rfl rfl rfl rfl (Nat.le_of_ble_eq_true rfl) dX4_init_44 ?_
  refine zr_nmh (fun h10 g10 => ?_)
  have f10_n : h10 (n) = .inr (4, [.int 0, .int (5), .int (50), .int 0, .ref (n0 + (n + 1)), .ref (n0 + (n + 2)), .ref (n0 + (n + 3)), .ref (n0 + (n + 4)), .null, .null, .null]) := by rw [g10, z_up_at]; rfl
  refine zr_aload_n hX 0 dX4_init_47 rfl rfl ?_
  refine zr_bipush hX dX4_init_48 (v := (10 : Int32)) (by decide) ?_
  refine zr_newI hX (N := 10) dX4_init_50 (by decide) (by decide) (by decide) (by decide) (by decide) ?_
  refine zr_nmh (fun h11 g11 => ?_)
  have f11_n : h11 (n) = .inr (4, [.int 0, .int (5), .int (50), .int 0, .ref (n0 + (n + 1)), .ref (n0 + (n + 2)), .ref (n0 + (n + 3)), .ref (n0 + (n + 4)), .null, .null, .null]) := by rw [g11, z_up_ne _ _ (by omega)]; exact f10_n
  refine zr_putF hX (ci := 4) (C := RX4) (T := TX4) (N := 11) (k := n) rfl z_inX4 (by omega) f11_n 8 (by decide) kw_111 rfl tyX4 tyX4_ok nmX4 rfl hin rfl rfl rfl rfl (Nat.le_of_ble_eq_true rfl) dX4_init_52 ?_
  refine zr_nmh (fun h12 g12 => ?_)
  have f12_n : h12 (n) = .inr (4, [.int 0, .int (5), .int (50), .int 0, .ref (n0 + (n + 1)), .ref (n0 + (n + 2)), .ref (n0 + (n + 3)), .ref (n0 + (n + 4)), .ref (n0 + (n + 5)), .null, .null]) := by rw [g12, z_up_at]; rfl
  refine zr_aload_n hX 0 dX4_init_55 rfl rfl ?_
  refine zr_bipush hX dX4_init_56 (v := (10 : Int32)) (by decide) ?_
  refine zr_bipush hX dX4_init_58 (v := (13 : Int32)) (by decide) ?_
  refine zr_mna hX hY.1.2.1 (N := 10) (K := 13) dX4_init_60 kw_85 (by decide) (by decide) (by decide) (by decide) (by decide) (by decide) (by decide) (by decide) ?_
  refine zr_nmh (fun h13 g13 => ?_)
  have f13_n : h13 (n) = .inr (4, [.int 0, .int (5), .int (50), .int 0, .ref (n0 + (n + 1)), .ref (n0 + (n + 2)), .ref (n0 + (n + 3)), .ref (n0 + (n + 4)), .ref (n0 + (n + 5)), .null, .null]) := by rw [g13]; unfold z_mna; rw [if_pos (by omega)]; exact f12_n
  refine zr_putF hX (ci := 4) (C := RX4) (T := TX4) (N := 11) (k := n) rfl z_inX4 (by omega) f13_n 9 (by decide) kw_114 rfl tyX4 tyX4_ok nmX4 rfl hin rfl rfl rfl rfl (Nat.le_of_ble_eq_true rfl) dX4_init_64 ?_
  refine zr_nmh (fun h14 g14 => ?_)
  have f14_n : h14 (n) = .inr (4, [.int 0, .int (5), .int (50), .int 0, .ref (n0 + (n + 1)), .ref (n0 + (n + 2)), .ref (n0 + (n + 3)), .ref (n0 + (n + 4)), .ref (n0 + (n + 5)), .ref (n0 + (n + 6)), .null]) := by rw [g14, z_up_at]; rfl
  refine zr_aload_n hX 0 dX4_init_67 rfl rfl ?_
  refine zr_bipush hX dX4_init_68 (v := (8 : Int32)) (by decide) ?_
  refine zr_bipush hX dX4_init_70 (v := (10 : Int32)) (by decide) ?_
  refine zr_mna hX hY.1.2.1 (N := 8) (K := 10) dX4_init_72 kw_85 (by decide) (by decide) (by decide) (by decide) (by decide) (by decide) (by decide) (by decide) ?_
  refine zr_nmh (fun h15 g15 => ?_)
  have f15_n : h15 (n) = .inr (4, [.int 0, .int (5), .int (50), .int 0, .ref (n0 + (n + 1)), .ref (n0 + (n + 2)), .ref (n0 + (n + 3)), .ref (n0 + (n + 4)), .ref (n0 + (n + 5)), .ref (n0 + (n + 6)), .null]) := by rw [g15]; unfold z_mna; rw [if_pos (by omega)]; exact f14_n
  refine zr_putF hX (ci := 4) (C := RX4) (T := TX4) (N := 11) (k := n) rfl z_inX4 (by omega) f15_n 10 (by decide) kw_117 rfl tyX4 tyX4_ok nmX4 rfl hin rfl rfl rfl rfl (Nat.le_of_ble_eq_true rfl) dX4_init_76 ?_
  refine zr_nmh (fun h16 g16 => ?_)
  have f16_n : h16 (n) = .inr (4, [.int 0, .int (5), .int (50), .int 0, .ref (n0 + (n + 1)), .ref (n0 + (n + 2)), .ref (n0 + (n + 3)), .ref (n0 + (n + 4)), .ref (n0 + (n + 5)), .ref (n0 + (n + 6)), .ref (n0 + (n + 17))]) := by rw [g16, z_up_at]; rfl
  exact zr_vret hX hY dX4_init_79 rfl (fun k hk => by
    subst g1; subst g2; subst g3; subst g4; subst g5; subst g6; subst g7; subst g8; subst g9; subst g10; subst g11; subst g12; subst g13; subst g14; subst g15; subst g16
    rcases Nat.lt_or_ge k n with hlt | hge
    · unfold z_st0; rw [if_pos hlt]; simp [z_up, z_mna, hlt, Nat.ne_of_lt hlt, show ¬ k = n + 1 by omega, show ¬ k = n + 2 by omega, show ¬ k = n + 3 by omega, show ¬ k = n + 4 by omega, show ¬ k = n + 5 by omega, show k < n + 6 by omega, show k < n + 17 by omega, show k < n + 1 + 1 + 1 + 1 + 1 + 1 by omega, show k < n + 1 + 1 + 1 + 1 + 1 + 1 + 1 + 10 by omega]
    · obtain ⟨j, rfl⟩ := Nat.exists_eq_add_of_le hge
      unfold z_st0; rw [if_neg (by omega), Nat.add_sub_cancel_left]
      rcases (show j = 0 ∨ j = 1 ∨ j = 2 ∨ j = 3 ∨ j = 4 ∨ j = 5 ∨ j = 6 ∨ j = 7 ∨ j = 8 ∨ j = 9 ∨ j = 10 ∨ j = 11 ∨ j = 12 ∨ j = 13 ∨ j = 14 ∨ j = 15 ∨ j = 16 ∨ j = 17 ∨ j = 18 ∨ j = 19 ∨ j = 20 ∨ j = 21 ∨ j = 22 ∨ j = 23 ∨ j = 24 ∨ j = 25 by omega) with rfl | rfl | rfl | rfl | rfl | rfl | rfl | rfl | rfl | rfl | rfl | rfl | rfl | rfl | rfl | rfl | rfl | rfl | rfl | rfl | rfl | rfl | rfl | rfl | rfl | rfl
      · rw [show z_sh (1 + 0) = (4, 0) by decide +kernel]; simp [z_Ec, z_up, z_mna]
      · rw [show z_sh (1 + 1) = (10, 10) by decide +kernel]; simp [z_Ec, z_up, z_mna]
      · rw [show z_sh (1 + 2) = (10, 10) by decide +kernel]; simp [z_Ec, z_up, z_mna]
      · rw [show z_sh (1 + 3) = (10, 10) by decide +kernel]; simp [z_Ec, z_up, z_mna]
      · rw [show z_sh (1 + 4) = (10, 10) by decide +kernel]; simp [z_Ec, z_up, z_mna]
      · rw [show z_sh (1 + 5) = (10, 10) by decide +kernel]; simp [z_Ec, z_up, z_mna]
      · rw [show z_sh (1 + 6) = (12, 10) by decide +kernel]; simp [z_Ec, z_up, z_mna]
      · rw [show z_sh (1 + 7) = (10, 13) by decide +kernel]; simp [z_Ec, z_up, z_mna] <;> (intros; exfalso; omega)
      · rw [show z_sh (1 + 8) = (10, 13) by decide +kernel]; simp [z_Ec, z_up, z_mna] <;> (intros; exfalso; omega)
      · rw [show z_sh (1 + 9) = (10, 13) by decide +kernel]; simp [z_Ec, z_up, z_mna] <;> (intros; exfalso; omega)
      · rw [show z_sh (1 + 10) = (10, 13) by decide +kernel]; simp [z_Ec, z_up, z_mna] <;> (intros; exfalso; omega)
      · rw [show z_sh (1 + 11) = (10, 13) by decide +kernel]; simp [z_Ec, z_up, z_mna] <;> (intros; exfalso; omega)
      · rw [show z_sh (1 + 12) = (10, 13) by decide +kernel]; simp [z_Ec, z_up, z_mna] <;> (intros; exfalso; omega)
      · rw [show z_sh (1 + 13) = (10, 13) by decide +kernel]; simp [z_Ec, z_up, z_mna] <;> (intros; exfalso; omega)
      · rw [show z_sh (1 + 14) = (10, 13) by decide +kernel]; simp [z_Ec, z_up, z_mna] <;> (intros; exfalso; omega)
      · rw [show z_sh (1 + 15) = (10, 13) by decide +kernel]; simp [z_Ec, z_up, z_mna] <;> (intros; exfalso; omega)
      · rw [show z_sh (1 + 16) = (10, 13) by decide +kernel]; simp [z_Ec, z_up, z_mna] <;> (intros; exfalso; omega)
      · rw [show z_sh (1 + 17) = (12, 8) by decide +kernel]; simp [z_Ec, z_up, z_mna]
      · rw [show z_sh (1 + 18) = (10, 10) by decide +kernel]; simp [z_Ec, z_up, z_mna] <;> (intros; exfalso; omega)
      · rw [show z_sh (1 + 19) = (10, 10) by decide +kernel]; simp [z_Ec, z_up, z_mna] <;> (intros; exfalso; omega)
      · rw [show z_sh (1 + 20) = (10, 10) by decide +kernel]; simp [z_Ec, z_up, z_mna] <;> (intros; exfalso; omega)
      · rw [show z_sh (1 + 21) = (10, 10) by decide +kernel]; simp [z_Ec, z_up, z_mna] <;> (intros; exfalso; omega)
      · rw [show z_sh (1 + 22) = (10, 10) by decide +kernel]; simp [z_Ec, z_up, z_mna] <;> (intros; exfalso; omega)
      · rw [show z_sh (1 + 23) = (10, 10) by decide +kernel]; simp [z_Ec, z_up, z_mna] <;> (intros; exfalso; omega)
      · rw [show z_sh (1 + 24) = (10, 10) by decide +kernel]; simp [z_Ec, z_up, z_mna] <;> (intros; exfalso; omega)
      · rw [show z_sh (1 + 25) = (10, 10) by decide +kernel]; simp [z_Ec, z_up, z_mna] <;> (intros; exfalso; omega)
    )

section ZP2
variable {D : va_G} {cI cJ cM cS : ClassId} {n0 : Nat} {p : Program} {l : Launch} {e : Env} {R : Room} {s : State} {m : MethodId} {args : Array Value} {below : List Frame} {meth : Method} {c : Code} {cc : ByteArray} {nL : Nat} {own : String} {Q : State → Prop} {cells slots pc : Nat} {L L' : List (Nat × Value)} {st : List Value} {σ : z_S}
theorem zt_newState (hX : z_X D cI cJ cM cS p s m args c cc nL own) {ro : Option FieldType} {i i2 : Nat} (hY : z_Y s meth ro) (hd : decode cc pc = .ok (.new i, 3)) (hd1 : decode cc (pc + 3) = .ok (.dup, 1)) (hd2 : decode cc (pc + 3 + 1) = .ok (.invokespecial i2, 3)) (w0 : Cond.classLink own i RX4 ∈ z_ws) (w1 : Cond.methodLink own i2 yX4_init ∈ z_ws) (h1 : 2 ≤ R.frames) (h2 : 32 ≤ R.locals) (h3 : cells + 26 ≤ R.cells) (h4 : slots + 289 ≤ R.slots) (hcat : (st.map fun v => v.category).sum ≤ 6) (hsh : ∀ j, j < 26 → z_sh (zg_n σ + j) = z_sh (1 + j)) (kk : z_t D cI cJ cM cS n0 p l e R s m args below meth c nL Q (cells + 26) (slots + 289) (pc + 7) L (.ref (n0 + zg_n σ) :: st) (zs_new σ)) : z_t D cI cJ cM cS n0 p l e R s m args below meth c nL Q cells slots pc L st σ := fun hN => by
  refine zr_new hX (ci := 4) (C := RX4) (T := TX4) (N := 11) (fs := [.int 0, .int 0, .int 0, .int 0, .null, .null, .null, .null, .null, .null, .null]) rfl z_inX4 tyX4 tyX4_ok w0 kw_80 kw_62 (fun j hj => by rcases (show j = 0 ∨ j = 1 ∨ j = 2 ∨ j = 3 ∨ j = 4 ∨ j = 5 ∨ j = 6 ∨ j = 7 ∨ j = 8 ∨ j = 9 ∨ j = 10 by omega) with rfl | rfl | rfl | rfl | rfl | rfl | rfl | rfl | rfl | rfl | rfl <;> rfl) (by omega) (by omega) hd ?_
  refine zr_nmh (fun h1 g1 => ?_)
  have f1 : h1 (zg_n σ) = .inr (4, [.int 0, .int 0, .int 0, .int 0, .null, .null, .null, .null, .null, .null, .null]) := by rw [g1, z_up_at]
  refine zr_dup hX hd1 rfl ?_
  refine zr_callg hX hY (c_X4_init (n := zg_n σ) f1) hd2 rfl w1 kw_82 kw_62 ⟨rfl, rfl⟩ hy_X4_init kw_83 ⟨by show 1 + 1 ≤ _; omega, by show 8 + (1 + 11) + 12 ≤ _; omega⟩ ⟨by omega, by omega⟩ (by simp only [List.map_cons, List.sum_cons]; show 1 + _ ≤ 8; omega) ?_
  have hk := kk (show 81 ≤ zg_n σ + 26 by omega)
  intro H locs ls hl hR hS
  refine hk H locs ls hl (z_H_ext hR (fun k hk => ?_)) hS
  rw [z_st0_E hsh k hk, g1]
  unfold z_st0
  by_cases hlt : k < zg_n σ
  · rw [if_pos hlt, if_pos hlt, z_up_ne _ _ (by omega)]
  · rw [if_neg hlt, if_neg hlt]
end ZP2
theorem dX2_init_0 : decode cX2_init 0 = .ok (.aload_n 0, 1) := by decide +kernel
theorem dX2_init_1 : decode cX2_init 1 = .ok (.invokespecial 3, 3) := by decide +kernel
theorem dX2_init_4 : decode cX2_init 4 = .ok (.aload_n 0, 1) := by decide +kernel
theorem dX2_init_5 : decode cX2_init 5 = .ok (.iconst 5, 1) := by decide +kernel
theorem dX2_init_6 : decode cX2_init 6 = .ok (.anewarray 9, 3) := by decide +kernel
theorem dX2_init_9 : decode cX2_init 9 = .ok (.putfield 11, 3) := by decide +kernel
theorem dX2_init_12 : decode cX2_init 12 = .ok (.return_, 1) := by decide +kernel
abbrev rm_X2_init : Room := { frames := 1, cells := 1, slots := 5, locals := 12 }
theorem hy_X2_init : yX2_init.cls ≠ "java/lang/invoke/MethodHandle" ∧ yX2_init.cls ≠ "java/lang/invoke/VarHandle" ∧ (parseMethodDescriptor yX2_init.desc).map (fun d => d.parameters.length) = some 0 := by decide +kernel
set_option maxHeartbeats 4000000 in
set_option maxRecDepth 100000 in
theorem c_X2_init {l : Launch} {D : va_G} {cI cJ cM cS : ClassId} {n0 : Nat} {h : Nat → va_E} (hh : h (27) = .inr (2, [.null, .int 0])) : z_cg l D cI cJ cM cS n0 yX2_init cX2_init 1 rm_X2_init 1 5 [.ref (n0 + 27)] 28 h 29 (fun k => if k < 27 then h k else z_E n0 cI cJ cM cS zs_0 k) := by
  refine z_ofg (by decide +kernel) (Nat.le_of_ble_eq_true rfl) (fun p e s m args below meth c hX hY hin => ?_)
  refine zr_L (L' := [(0, .ref (n0 + 27))]) rfl ?_
  refine zr_aload_n hX 0 dX2_init_0 rfl rfl ?_
  refine zr_objInit hX dX2_init_1 kw_148 kw_77 kw_78 (by decide) (Nat.le_of_ble_eq_true rfl) ?_
  refine zr_aload_n hX 0 dX2_init_4 rfl rfl ?_
  refine zr_iconst hX dX2_init_5 (v := (5 : Int32)) (by decide) ?_
  refine zr_newS hX hY.1.2.2 (N := 5) dX2_init_6 kw_149 (by decide) (by decide) (by decide) (by decide) (by decide) ?_
  refine zr_nmh (fun h1 g1 => ?_)
  have f1_27 : h1 (27) = .inr (2, [.null, .int 0]) := by rw [g1, z_up_ne _ _ (by omega)]; exact hh
  refine zr_putF hX (ci := 2) (C := RX2) (T := TX2) (N := 2) (k := 27) rfl z_inX2 (by omega) f1_27 0 (by decide) kw_151 rfl tyX2 tyX2_ok nmX2 rfl hin rfl rfl rfl rfl (Nat.le_of_ble_eq_true rfl) dX2_init_9 ?_
  refine zr_nmh (fun h2 g2 => ?_)
  have f2_27 : h2 (27) = .inr (2, [.ref (n0 + (28)), .int 0]) := by rw [g2, z_up_at]; rfl
  exact zr_vret hX hY dX2_init_12 rfl (fun k hk => by
    subst g1; subst g2
    rcases Nat.lt_or_ge k 27 with hlt | hge
    · simp [z_up, z_mna, hlt, show ¬ k = 27 by omega, show ¬ k = 28 by omega, show k < 27 by omega, show k < 28 by omega]
    · rcases (show k = 27 ∨ k = 28 by omega) with rfl | rfl
      · rfl
      · rfl
    )

theorem dX1_init_0 : decode cX1_init 0 = .ok (.aload_n 0, 1) := by decide +kernel
theorem dX1_init_1 : decode cX1_init 1 = .ok (.invokespecial 3, 3) := by decide +kernel
theorem dX1_init_4 : decode cX1_init 4 = .ok (.aload_n 0, 1) := by decide +kernel
theorem dX1_init_5 : decode cX1_init 5 = .ok (.bipush 10, 2) := by decide +kernel
theorem dX1_init_7 : decode cX1_init 7 = .ok (.bipush 12, 2) := by decide +kernel
theorem dX1_init_9 : decode cX1_init 9 = .ok (.multianewarray 9 2, 4) := by decide +kernel
theorem dX1_init_13 : decode cX1_init 13 = .ok (.putfield 11, 3) := by decide +kernel
theorem dX1_init_16 : decode cX1_init 16 = .ok (.aload_n 0, 1) := by decide +kernel
theorem dX1_init_17 : decode cX1_init 17 = .ok (.bipush 10, 2) := by decide +kernel
theorem dX1_init_19 : decode cX1_init 19 = .ok (.bipush 12, 2) := by decide +kernel
theorem dX1_init_21 : decode cX1_init 21 = .ok (.multianewarray 9 2, 4) := by decide +kernel
theorem dX1_init_25 : decode cX1_init 25 = .ok (.putfield 16, 3) := by decide +kernel
theorem dX1_init_28 : decode cX1_init 28 = .ok (.aload_n 0, 1) := by decide +kernel
theorem dX1_init_29 : decode cX1_init 29 = .ok (.bipush 12, 2) := by decide +kernel
theorem dX1_init_31 : decode cX1_init 31 = .ok (.newarray .int, 2) := by decide +kernel
theorem dX1_init_33 : decode cX1_init 33 = .ok (.putfield 19, 3) := by decide +kernel
theorem dX1_init_36 : decode cX1_init 36 = .ok (.return_, 1) := by decide +kernel
abbrev rm_X1_init : Room := { frames := 1, cells := 23, slots := 272, locals := 12 }
theorem hy_X1_init : yX1_init.cls ≠ "java/lang/invoke/MethodHandle" ∧ yX1_init.cls ≠ "java/lang/invoke/VarHandle" ∧ (parseMethodDescriptor yX1_init.desc).map (fun d => d.parameters.length) = some 0 := by decide +kernel
set_option maxHeartbeats 4000000 in
set_option maxRecDepth 100000 in
theorem c_X1_init {l : Launch} {D : va_G} {cI cJ cM cS : ClassId} {n0 : Nat} {h : Nat → va_E} (hh : h (29) = .inr (1, [.null, .null, .null])) : z_cg l D cI cJ cM cS n0 yX1_init cX1_init 1 rm_X1_init 23 272 [.ref (n0 + 29)] 30 h 53 (fun k => if k < 29 then h k else z_E n0 cI cJ cM cS zs_0 k) := by
  refine z_ofg (by decide +kernel) (Nat.le_of_ble_eq_true rfl) (fun p e s m args below meth c hX hY hin => ?_)
  refine zr_L (L' := [(0, .ref (n0 + 29))]) rfl ?_
  refine zr_aload_n hX 0 dX1_init_0 rfl rfl ?_
  refine zr_objInit hX dX1_init_1 kw_164 kw_77 kw_78 (by decide) (Nat.le_of_ble_eq_true rfl) ?_
  refine zr_aload_n hX 0 dX1_init_4 rfl rfl ?_
  refine zr_bipush hX dX1_init_5 (v := (10 : Int32)) (by decide) ?_
  refine zr_bipush hX dX1_init_7 (v := (12 : Int32)) (by decide) ?_
  refine zr_mna hX hY.1.2.1 (N := 10) (K := 12) dX1_init_9 kw_165 (by decide) (by decide) (by decide) (by decide) (by decide) (by decide) (by decide) (by decide) ?_
  refine zr_nmh (fun h1 g1 => ?_)
  have f1_29 : h1 (29) = .inr (1, [.null, .null, .null]) := by rw [g1]; unfold z_mna; rw [if_pos (by omega)]; exact hh
  refine zr_putF hX (ci := 1) (C := RX1) (T := TX1) (N := 3) (k := 29) rfl z_inX1 (by omega) f1_29 0 (by decide) kw_166 rfl tyX1 tyX1_ok nmX1 rfl hin rfl rfl rfl rfl (Nat.le_of_ble_eq_true rfl) dX1_init_13 ?_
  refine zr_nmh (fun h2 g2 => ?_)
  have f2_29 : h2 (29) = .inr (1, [.ref (n0 + (30)), .null, .null]) := by rw [g2, z_up_at]; rfl
  refine zr_aload_n hX 0 dX1_init_16 rfl rfl ?_
  refine zr_bipush hX dX1_init_17 (v := (10 : Int32)) (by decide) ?_
  refine zr_bipush hX dX1_init_19 (v := (12 : Int32)) (by decide) ?_
  refine zr_mna hX hY.1.2.1 (N := 10) (K := 12) dX1_init_21 kw_165 (by decide) (by decide) (by decide) (by decide) (by decide) (by decide) (by decide) (by decide) ?_
  refine zr_nmh (fun h3 g3 => ?_)
  have f3_29 : h3 (29) = .inr (1, [.ref (n0 + (30)), .null, .null]) := by rw [g3]; unfold z_mna; rw [if_pos (by omega)]; exact f2_29
  refine zr_putF hX (ci := 1) (C := RX1) (T := TX1) (N := 3) (k := 29) rfl z_inX1 (by omega) f3_29 1 (by decide) kw_169 rfl tyX1 tyX1_ok nmX1 rfl hin rfl rfl rfl rfl (Nat.le_of_ble_eq_true rfl) dX1_init_25 ?_
  refine zr_nmh (fun h4 g4 => ?_)
  have f4_29 : h4 (29) = .inr (1, [.ref (n0 + (30)), .ref (n0 + (41)), .null]) := by rw [g4, z_up_at]; rfl
  refine zr_aload_n hX 0 dX1_init_28 rfl rfl ?_
  refine zr_bipush hX dX1_init_29 (v := (12 : Int32)) (by decide) ?_
  refine zr_newI hX (N := 12) dX1_init_31 (by decide) (by decide) (by decide) (by decide) (by decide) ?_
  refine zr_nmh (fun h5 g5 => ?_)
  have f5_29 : h5 (29) = .inr (1, [.ref (n0 + (30)), .ref (n0 + (41)), .null]) := by rw [g5, z_up_ne _ _ (by omega)]; exact f4_29
  refine zr_putF hX (ci := 1) (C := RX1) (T := TX1) (N := 3) (k := 29) rfl z_inX1 (by omega) f5_29 2 (by decide) kw_171 rfl tyX1 tyX1_ok nmX1 rfl hin rfl rfl rfl rfl (Nat.le_of_ble_eq_true rfl) dX1_init_33 ?_
  refine zr_nmh (fun h6 g6 => ?_)
  have f6_29 : h6 (29) = .inr (1, [.ref (n0 + (30)), .ref (n0 + (41)), .ref (n0 + (52))]) := by rw [g6, z_up_at]; rfl
  exact zr_vret hX hY dX1_init_36 rfl (fun k hk => by
    subst g1; subst g2; subst g3; subst g4; subst g5; subst g6
    rcases Nat.lt_or_ge k 29 with hlt | hge
    · simp [z_up, z_mna, hlt, show ¬ k = 29 by omega, show ¬ k = 30 by omega, show ¬ k = 31 by omega, show ¬ k = 32 by omega, show ¬ k = 33 by omega, show ¬ k = 34 by omega, show ¬ k = 35 by omega, show ¬ k = 36 by omega, show ¬ k = 37 by omega, show ¬ k = 38 by omega, show ¬ k = 39 by omega, show ¬ k = 40 by omega, show ¬ k = 41 by omega, show ¬ k = 42 by omega, show ¬ k = 43 by omega, show ¬ k = 44 by omega, show ¬ k = 45 by omega, show ¬ k = 46 by omega, show ¬ k = 47 by omega, show ¬ k = 48 by omega, show ¬ k = 49 by omega, show ¬ k = 50 by omega, show ¬ k = 51 by omega, show ¬ k = 52 by omega, show k < 29 by omega, show k < 30 by omega, show k < 31 by omega, show k < 32 by omega, show k < 33 by omega, show k < 34 by omega, show k < 35 by omega, show k < 36 by omega, show k < 37 by omega, show k < 38 by omega, show k < 39 by omega, show k < 40 by omega, show k < 41 by omega, show k < 42 by omega, show k < 43 by omega, show k < 44 by omega, show k < 45 by omega, show k < 46 by omega, show k < 47 by omega, show k < 48 by omega, show k < 49 by omega, show k < 50 by omega, show k < 51 by omega, show k < 52 by omega]
    · rcases (show k = 29 ∨ k = 30 ∨ k = 31 ∨ k = 32 ∨ k = 33 ∨ k = 34 ∨ k = 35 ∨ k = 36 ∨ k = 37 ∨ k = 38 ∨ k = 39 ∨ k = 40 ∨ k = 41 ∨ k = 42 ∨ k = 43 ∨ k = 44 ∨ k = 45 ∨ k = 46 ∨ k = 47 ∨ k = 48 ∨ k = 49 ∨ k = 50 ∨ k = 51 ∨ k = 52 by omega) with rfl | rfl | rfl | rfl | rfl | rfl | rfl | rfl | rfl | rfl | rfl | rfl | rfl | rfl | rfl | rfl | rfl | rfl | rfl | rfl | rfl | rfl | rfl | rfl
      · rfl
      · rfl
      · rfl
      · rfl
      · rfl
      · rfl
      · rfl
      · rfl
      · rfl
      · rfl
      · rfl
      · rfl
      · rfl
      · rfl
      · rfl
      · rfl
      · rfl
      · rfl
      · rfl
      · rfl
      · rfl
      · rfl
      · rfl
      · rfl
    )

theorem dX0_init_0 : decode cX0_init 0 = .ok (.aload_n 0, 1) := by decide +kernel
theorem dX0_init_1 : decode cX0_init 1 = .ok (.invokespecial 3, 3) := by decide +kernel
theorem dX0_init_4 : decode cX0_init 4 = .ok (.aload_n 0, 1) := by decide +kernel
theorem dX0_init_5 : decode cX0_init 5 = .ok (.bipush 10, 2) := by decide +kernel
theorem dX0_init_7 : decode cX0_init 7 = .ok (.bipush 12, 2) := by decide +kernel
theorem dX0_init_9 : decode cX0_init 9 = .ok (.multianewarray 9 2, 4) := by decide +kernel
theorem dX0_init_13 : decode cX0_init 13 = .ok (.putfield 11, 3) := by decide +kernel
theorem dX0_init_16 : decode cX0_init 16 = .ok (.aload_n 0, 1) := by decide +kernel
theorem dX0_init_17 : decode cX0_init 17 = .ok (.bipush 10, 2) := by decide +kernel
theorem dX0_init_19 : decode cX0_init 19 = .ok (.newarray .long, 2) := by decide +kernel
theorem dX0_init_21 : decode cX0_init 21 = .ok (.putfield 16, 3) := by decide +kernel
theorem dX0_init_24 : decode cX0_init 24 = .ok (.aload_n 0, 1) := by decide +kernel
theorem dX0_init_25 : decode cX0_init 25 = .ok (.bipush 10, 2) := by decide +kernel
theorem dX0_init_27 : decode cX0_init 27 = .ok (.newarray .long, 2) := by decide +kernel
theorem dX0_init_29 : decode cX0_init 29 = .ok (.putfield 20, 3) := by decide +kernel
theorem dX0_init_32 : decode cX0_init 32 = .ok (.aload_n 0, 1) := by decide +kernel
theorem dX0_init_33 : decode cX0_init 33 = .ok (.bipush 10, 2) := by decide +kernel
theorem dX0_init_35 : decode cX0_init 35 = .ok (.newarray .long, 2) := by decide +kernel
theorem dX0_init_37 : decode cX0_init 37 = .ok (.putfield 23, 3) := by decide +kernel
theorem dX0_init_40 : decode cX0_init 40 = .ok (.return_, 1) := by decide +kernel
abbrev rm_X0_init : Room := { frames := 1, cells := 14, slots := 160, locals := 12 }
theorem hy_X0_init : yX0_init.cls ≠ "java/lang/invoke/MethodHandle" ∧ yX0_init.cls ≠ "java/lang/invoke/VarHandle" ∧ (parseMethodDescriptor yX0_init.desc).map (fun d => d.parameters.length) = some 0 := by decide +kernel
set_option maxHeartbeats 4000000 in
set_option maxRecDepth 100000 in
theorem c_X0_init {l : Launch} {D : va_G} {cI cJ cM cS : ClassId} {n0 : Nat} {h : Nat → va_E} (hh : h (53) = .inr (0, [.null, .null, .null, .null])) : z_cg l D cI cJ cM cS n0 yX0_init cX0_init 1 rm_X0_init 14 160 [.ref (n0 + 53)] 54 h 68 (fun k => if k < 53 then h k else z_E n0 cI cJ cM cS zs_0 k) := by
  refine z_ofg (by decide +kernel) (Nat.le_of_ble_eq_true rfl) (fun p e s m args below meth c hX hY hin => ?_)
  refine zr_L (L' := [(0, .ref (n0 + 53))]) rfl ?_
  refine zr_aload_n hX 0 dX0_init_0 rfl rfl ?_
  refine zr_objInit hX dX0_init_1 kw_184 kw_77 kw_78 (by decide) (Nat.le_of_ble_eq_true rfl) ?_
  refine zr_aload_n hX 0 dX0_init_4 rfl rfl ?_
  refine zr_bipush hX dX0_init_5 (v := (10 : Int32)) (by decide) ?_
  refine zr_bipush hX dX0_init_7 (v := (12 : Int32)) (by decide) ?_
  refine zr_mna hX hY.1.2.1 (N := 10) (K := 12) dX0_init_9 kw_185 (by decide) (by decide) (by decide) (by decide) (by decide) (by decide) (by decide) (by decide) ?_
  refine zr_nmh (fun h1 g1 => ?_)
  have f1_53 : h1 (53) = .inr (0, [.null, .null, .null, .null]) := by rw [g1]; unfold z_mna; rw [if_pos (by omega)]; exact hh
  refine zr_putF hX (ci := 0) (C := RX0) (T := TX0) (N := 4) (k := 53) rfl z_inX0 (by omega) f1_53 0 (by decide) kw_186 rfl tyX0 tyX0_ok nmX0 rfl hin rfl rfl rfl rfl (Nat.le_of_ble_eq_true rfl) dX0_init_13 ?_
  refine zr_nmh (fun h2 g2 => ?_)
  have f2_53 : h2 (53) = .inr (0, [.ref (n0 + (54)), .null, .null, .null]) := by rw [g2, z_up_at]; rfl
  refine zr_aload_n hX 0 dX0_init_16 rfl rfl ?_
  refine zr_bipush hX dX0_init_17 (v := (10 : Int32)) (by decide) ?_
  refine zr_newL hX (N := 10) dX0_init_19 (by decide) (by decide) (by decide) (by decide) (by decide) ?_
  refine zr_nmh (fun h3 g3 => ?_)
  have f3_53 : h3 (53) = .inr (0, [.ref (n0 + (54)), .null, .null, .null]) := by rw [g3, z_up_ne _ _ (by omega)]; exact f2_53
  refine zr_putF hX (ci := 0) (C := RX0) (T := TX0) (N := 4) (k := 53) rfl z_inX0 (by omega) f3_53 1 (by decide) kw_188 rfl tyX0 tyX0_ok nmX0 rfl hin rfl rfl rfl rfl (Nat.le_of_ble_eq_true rfl) dX0_init_21 ?_
  refine zr_nmh (fun h4 g4 => ?_)
  have f4_53 : h4 (53) = .inr (0, [.ref (n0 + (54)), .ref (n0 + (65)), .null, .null]) := by rw [g4, z_up_at]; rfl
  refine zr_aload_n hX 0 dX0_init_24 rfl rfl ?_
  refine zr_bipush hX dX0_init_25 (v := (10 : Int32)) (by decide) ?_
  refine zr_newL hX (N := 10) dX0_init_27 (by decide) (by decide) (by decide) (by decide) (by decide) ?_
  refine zr_nmh (fun h5 g5 => ?_)
  have f5_53 : h5 (53) = .inr (0, [.ref (n0 + (54)), .ref (n0 + (65)), .null, .null]) := by rw [g5, z_up_ne _ _ (by omega)]; exact f4_53
  refine zr_putF hX (ci := 0) (C := RX0) (T := TX0) (N := 4) (k := 53) rfl z_inX0 (by omega) f5_53 2 (by decide) kw_189 rfl tyX0 tyX0_ok nmX0 rfl hin rfl rfl rfl rfl (Nat.le_of_ble_eq_true rfl) dX0_init_29 ?_
  refine zr_nmh (fun h6 g6 => ?_)
  have f6_53 : h6 (53) = .inr (0, [.ref (n0 + (54)), .ref (n0 + (65)), .ref (n0 + (66)), .null]) := by rw [g6, z_up_at]; rfl
  refine zr_aload_n hX 0 dX0_init_32 rfl rfl ?_
  refine zr_bipush hX dX0_init_33 (v := (10 : Int32)) (by decide) ?_
  refine zr_newL hX (N := 10) dX0_init_35 (by decide) (by decide) (by decide) (by decide) (by decide) ?_
  refine zr_nmh (fun h7 g7 => ?_)
  have f7_53 : h7 (53) = .inr (0, [.ref (n0 + (54)), .ref (n0 + (65)), .ref (n0 + (66)), .null]) := by rw [g7, z_up_ne _ _ (by omega)]; exact f6_53
  refine zr_putF hX (ci := 0) (C := RX0) (T := TX0) (N := 4) (k := 53) rfl z_inX0 (by omega) f7_53 3 (by decide) kw_190 rfl tyX0 tyX0_ok nmX0 rfl hin rfl rfl rfl rfl (Nat.le_of_ble_eq_true rfl) dX0_init_37 ?_
  refine zr_nmh (fun h8 g8 => ?_)
  have f8_53 : h8 (53) = .inr (0, [.ref (n0 + (54)), .ref (n0 + (65)), .ref (n0 + (66)), .ref (n0 + (67))]) := by rw [g8, z_up_at]; rfl
  exact zr_vret hX hY dX0_init_40 rfl (fun k hk => by
    subst g1; subst g2; subst g3; subst g4; subst g5; subst g6; subst g7; subst g8
    rcases Nat.lt_or_ge k 53 with hlt | hge
    · simp [z_up, z_mna, hlt, show ¬ k = 53 by omega, show ¬ k = 54 by omega, show ¬ k = 55 by omega, show ¬ k = 56 by omega, show ¬ k = 57 by omega, show ¬ k = 58 by omega, show ¬ k = 59 by omega, show ¬ k = 60 by omega, show ¬ k = 61 by omega, show ¬ k = 62 by omega, show ¬ k = 63 by omega, show ¬ k = 64 by omega, show ¬ k = 65 by omega, show ¬ k = 66 by omega, show ¬ k = 67 by omega, show k < 53 by omega, show k < 54 by omega, show k < 55 by omega, show k < 56 by omega, show k < 57 by omega, show k < 58 by omega, show k < 59 by omega, show k < 60 by omega, show k < 61 by omega, show k < 62 by omega, show k < 63 by omega, show k < 64 by omega, show k < 65 by omega, show k < 66 by omega, show k < 67 by omega]
    · rcases (show k = 53 ∨ k = 54 ∨ k = 55 ∨ k = 56 ∨ k = 57 ∨ k = 58 ∨ k = 59 ∨ k = 60 ∨ k = 61 ∨ k = 62 ∨ k = 63 ∨ k = 64 ∨ k = 65 ∨ k = 66 ∨ k = 67 by omega) with rfl | rfl | rfl | rfl | rfl | rfl | rfl | rfl | rfl | rfl | rfl | rfl | rfl | rfl | rfl
      · rfl
      · rfl
      · rfl
      · rfl
      · rfl
      · rfl
      · rfl
      · rfl
      · rfl
      · rfl
      · rfl
      · rfl
      · rfl
      · rfl
      · rfl
    )

theorem dX3_init_0 : decode cX3_init 0 = .ok (.aload_n 0, 1) := by decide +kernel
theorem dX3_init_1 : decode cX3_init 1 = .ok (.invokespecial 3, 3) := by decide +kernel
theorem dX3_init_4 : decode cX3_init 4 = .ok (.aload_n 0, 1) := by decide +kernel
theorem dX3_init_5 : decode cX3_init 5 = .ok (.bipush 120, 2) := by decide +kernel
theorem dX3_init_7 : decode cX3_init 7 = .ok (.newarray .int, 2) := by decide +kernel
theorem dX3_init_9 : decode cX3_init 9 = .ok (.putfield 9, 3) := by decide +kernel
theorem dX3_init_12 : decode cX3_init 12 = .ok (.aload_n 0, 1) := by decide +kernel
theorem dX3_init_13 : decode cX3_init 13 = .ok (.bipush 24, 2) := by decide +kernel
theorem dX3_init_15 : decode cX3_init 15 = .ok (.newarray .int, 2) := by decide +kernel
theorem dX3_init_17 : decode cX3_init 17 = .ok (.putfield 15, 3) := by decide +kernel
theorem dX3_init_20 : decode cX3_init 20 = .ok (.aload_n 0, 1) := by decide +kernel
theorem dX3_init_21 : decode cX3_init 21 = .ok (.bipush 24, 2) := by decide +kernel
theorem dX3_init_23 : decode cX3_init 23 = .ok (.newarray .int, 2) := by decide +kernel
theorem dX3_init_25 : decode cX3_init 25 = .ok (.putfield 18, 3) := by decide +kernel
theorem dX3_init_28 : decode cX3_init 28 = .ok (.aload_n 0, 1) := by decide +kernel
theorem dX3_init_29 : decode cX3_init 29 = .ok (.bipush 24, 2) := by decide +kernel
theorem dX3_init_31 : decode cX3_init 31 = .ok (.newarray .int, 2) := by decide +kernel
theorem dX3_init_33 : decode cX3_init 33 = .ok (.putfield 21, 3) := by decide +kernel
theorem dX3_init_36 : decode cX3_init 36 = .ok (.return_, 1) := by decide +kernel
abbrev rm_X3_init : Room := { frames := 1, cells := 4, slots := 192, locals := 12 }
theorem hy_X3_init : yX3_init.cls ≠ "java/lang/invoke/MethodHandle" ∧ yX3_init.cls ≠ "java/lang/invoke/VarHandle" ∧ (parseMethodDescriptor yX3_init.desc).map (fun d => d.parameters.length) = some 0 := by decide +kernel
set_option maxHeartbeats 4000000 in
set_option maxRecDepth 100000 in
theorem c_X3_init {l : Launch} {D : va_G} {cI cJ cM cS : ClassId} {n0 : Nat} {h : Nat → va_E} (hh : h (68) = .inr (3, [.null, .int 0, .null, .null, .null, .int 0, .int 0, .int 0])) : z_cg l D cI cJ cM cS n0 yX3_init cX3_init 1 rm_X3_init 4 192 [.ref (n0 + 68)] 69 h 73 (fun k => if k < 68 then h k else z_E n0 cI cJ cM cS zs_0 k) := by
  refine z_ofg (by decide +kernel) (Nat.le_of_ble_eq_true rfl) (fun p e s m args below meth c hX hY hin => ?_)
  refine zr_L (L' := [(0, .ref (n0 + 68))]) rfl ?_
  refine zr_aload_n hX 0 dX3_init_0 rfl rfl ?_
  refine zr_objInit hX dX3_init_1 kw_206 kw_77 kw_78 (by decide) (Nat.le_of_ble_eq_true rfl) ?_
  refine zr_aload_n hX 0 dX3_init_4 rfl rfl ?_
  refine zr_bipush hX dX3_init_5 (v := (120 : Int32)) (by decide) ?_
  refine zr_newI hX (N := 120) dX3_init_7 (by decide) (by decide) (by decide) (by decide) (by decide) ?_
  refine zr_nmh (fun h1 g1 => ?_)
  have f1_68 : h1 (68) = .inr (3, [.null, .int 0, .null, .null, .null, .int 0, .int 0, .int 0]) := by rw [g1, z_up_ne _ _ (by omega)]; exact hh
  refine zr_putF hX (ci := 3) (C := RX3) (T := TX3) (N := 8) (k := 68) rfl z_inX3 (by omega) f1_68 0 (by decide) kw_207 rfl tyX3 tyX3_ok nmX3 rfl hin rfl rfl rfl rfl (Nat.le_of_ble_eq_true rfl) dX3_init_9 ?_
  refine zr_nmh (fun h2 g2 => ?_)
  have f2_68 : h2 (68) = .inr (3, [.ref (n0 + (69)), .int 0, .null, .null, .null, .int 0, .int 0, .int 0]) := by rw [g2, z_up_at]; rfl
  refine zr_aload_n hX 0 dX3_init_12 rfl rfl ?_
  refine zr_bipush hX dX3_init_13 (v := (24 : Int32)) (by decide) ?_
  refine zr_newI hX (N := 24) dX3_init_15 (by decide) (by decide) (by decide) (by decide) (by decide) ?_
  refine zr_nmh (fun h3 g3 => ?_)
  have f3_68 : h3 (68) = .inr (3, [.ref (n0 + (69)), .int 0, .null, .null, .null, .int 0, .int 0, .int 0]) := by rw [g3, z_up_ne _ _ (by omega)]; exact f2_68
  refine zr_putF hX (ci := 3) (C := RX3) (T := TX3) (N := 8) (k := 68) rfl z_inX3 (by omega) f3_68 2 (by decide) kw_211 rfl tyX3 tyX3_ok nmX3 rfl hin rfl rfl rfl rfl (Nat.le_of_ble_eq_true rfl) dX3_init_17 ?_
  refine zr_nmh (fun h4 g4 => ?_)
  have f4_68 : h4 (68) = .inr (3, [.ref (n0 + (69)), .int 0, .ref (n0 + (70)), .null, .null, .int 0, .int 0, .int 0]) := by rw [g4, z_up_at]; rfl
  refine zr_aload_n hX 0 dX3_init_20 rfl rfl ?_
  refine zr_bipush hX dX3_init_21 (v := (24 : Int32)) (by decide) ?_
  refine zr_newI hX (N := 24) dX3_init_23 (by decide) (by decide) (by decide) (by decide) (by decide) ?_
  refine zr_nmh (fun h5 g5 => ?_)
  have f5_68 : h5 (68) = .inr (3, [.ref (n0 + (69)), .int 0, .ref (n0 + (70)), .null, .null, .int 0, .int 0, .int 0]) := by rw [g5, z_up_ne _ _ (by omega)]; exact f4_68
  refine zr_putF hX (ci := 3) (C := RX3) (T := TX3) (N := 8) (k := 68) rfl z_inX3 (by omega) f5_68 3 (by decide) kw_212 rfl tyX3 tyX3_ok nmX3 rfl hin rfl rfl rfl rfl (Nat.le_of_ble_eq_true rfl) dX3_init_25 ?_
  refine zr_nmh (fun h6 g6 => ?_)
  have f6_68 : h6 (68) = .inr (3, [.ref (n0 + (69)), .int 0, .ref (n0 + (70)), .ref (n0 + (71)), .null, .int 0, .int 0, .int 0]) := by rw [g6, z_up_at]; rfl
  refine zr_aload_n hX 0 dX3_init_28 rfl rfl ?_
  refine zr_bipush hX dX3_init_29 (v := (24 : Int32)) (by decide) ?_
  refine zr_newI hX (N := 24) dX3_init_31 (by decide) (by decide) (by decide) (by decide) (by decide) ?_
  refine zr_nmh (fun h7 g7 => ?_)
  have f7_68 : h7 (68) = .inr (3, [.ref (n0 + (69)), .int 0, .ref (n0 + (70)), .ref (n0 + (71)), .null, .int 0, .int 0, .int 0]) := by rw [g7, z_up_ne _ _ (by omega)]; exact f6_68
  refine zr_putF hX (ci := 3) (C := RX3) (T := TX3) (N := 8) (k := 68) rfl z_inX3 (by omega) f7_68 4 (by decide) kw_213 rfl tyX3 tyX3_ok nmX3 rfl hin rfl rfl rfl rfl (Nat.le_of_ble_eq_true rfl) dX3_init_33 ?_
  refine zr_nmh (fun h8 g8 => ?_)
  have f8_68 : h8 (68) = .inr (3, [.ref (n0 + (69)), .int 0, .ref (n0 + (70)), .ref (n0 + (71)), .ref (n0 + (72)), .int 0, .int 0, .int 0]) := by rw [g8, z_up_at]; rfl
  exact zr_vret hX hY dX3_init_36 rfl (fun k hk => by
    subst g1; subst g2; subst g3; subst g4; subst g5; subst g6; subst g7; subst g8
    rcases Nat.lt_or_ge k 68 with hlt | hge
    · simp [z_up, z_mna, hlt, show ¬ k = 68 by omega, show ¬ k = 69 by omega, show ¬ k = 70 by omega, show ¬ k = 71 by omega, show ¬ k = 72 by omega, show k < 68 by omega, show k < 69 by omega, show k < 70 by omega, show k < 71 by omega, show k < 72 by omega]
    · rcases (show k = 68 ∨ k = 69 ∨ k = 70 ∨ k = 71 ∨ k = 72 by omega) with rfl | rfl | rfl | rfl | rfl
      · rfl
      · rfl
      · rfl
      · rfl
      · rfl
    )

theorem dX5_init_0 : decode cX5_init 0 = .ok (.aload_n 0, 1) := by decide +kernel
theorem dX5_init_1 : decode cX5_init 1 = .ok (.invokespecial 1, 3) := by decide +kernel
theorem dX5_init_4 : decode cX5_init 4 = .ok (.aload_n 0, 1) := by decide +kernel
theorem dX5_init_5 : decode cX5_init 5 = .ok (.new 7, 3) := by decide +kernel
theorem dX5_init_8 : decode cX5_init 8 = .ok (.dup, 1) := by decide +kernel
theorem dX5_init_9 : decode cX5_init 9 = .ok (.invokespecial 9, 3) := by decide +kernel
theorem dX5_init_12 : decode cX5_init 12 = .ok (.putfield 10, 3) := by decide +kernel
theorem dX5_init_15 : decode cX5_init 15 = .ok (.aload_n 0, 1) := by decide +kernel
theorem dX5_init_16 : decode cX5_init 16 = .ok (.new 16, 3) := by decide +kernel
theorem dX5_init_19 : decode cX5_init 19 = .ok (.dup, 1) := by decide +kernel
theorem dX5_init_20 : decode cX5_init 20 = .ok (.invokespecial 18, 3) := by decide +kernel
theorem dX5_init_23 : decode cX5_init 23 = .ok (.putfield 19, 3) := by decide +kernel
theorem dX5_init_26 : decode cX5_init 26 = .ok (.aload_n 0, 1) := by decide +kernel
theorem dX5_init_27 : decode cX5_init 27 = .ok (.new 23, 3) := by decide +kernel
theorem dX5_init_30 : decode cX5_init 30 = .ok (.dup, 1) := by decide +kernel
theorem dX5_init_31 : decode cX5_init 31 = .ok (.invokespecial 25, 3) := by decide +kernel
theorem dX5_init_34 : decode cX5_init 34 = .ok (.putfield 26, 3) := by decide +kernel
theorem dX5_init_37 : decode cX5_init 37 = .ok (.aload_n 0, 1) := by decide +kernel
theorem dX5_init_38 : decode cX5_init 38 = .ok (.new 30, 3) := by decide +kernel
theorem dX5_init_41 : decode cX5_init 41 = .ok (.dup, 1) := by decide +kernel
theorem dX5_init_42 : decode cX5_init 42 = .ok (.invokespecial 32, 3) := by decide +kernel
theorem dX5_init_45 : decode cX5_init 45 = .ok (.putfield 33, 3) := by decide +kernel
theorem dX5_init_48 : decode cX5_init 48 = .ok (.aload_n 0, 1) := by decide +kernel
theorem dX5_init_49 : decode cX5_init 49 = .ok (.new 37, 3) := by decide +kernel
theorem dX5_init_52 : decode cX5_init 52 = .ok (.dup, 1) := by decide +kernel
theorem dX5_init_53 : decode cX5_init 53 = .ok (.invokespecial 39, 3) := by decide +kernel
theorem dX5_init_56 : decode cX5_init 56 = .ok (.putfield 40, 3) := by decide +kernel
theorem dX5_init_59 : decode cX5_init 59 = .ok (.return_, 1) := by decide +kernel
abbrev rm_X5_init : Room := { frames := 2, cells := 72, slots := 935, locals := 32 }
theorem hy_X5_init : yX5_init.cls ≠ "java/lang/invoke/MethodHandle" ∧ yX5_init.cls ≠ "java/lang/invoke/VarHandle" ∧ (parseMethodDescriptor yX5_init.desc).map (fun d => d.parameters.length) = some 0 := by decide +kernel
set_option maxHeartbeats 4000000 in
set_option maxRecDepth 100000 in
theorem c_X5_init {l : Launch} {D : va_G} {cI cJ cM cS : ClassId} {n0 : Nat} {h : Nat → va_E} (hh : h (0) = .inr (5, [.null, .null, .null, .null, .null])) : z_cg l D cI cJ cM cS n0 yX5_init cX5_init 1 rm_X5_init 72 935 [.ref (n0 + 0)] 1 h 73 (fun k => if k < 0 then h k else z_E n0 cI cJ cM cS zs_0 k) := by
  refine z_ofg (by decide +kernel) (Nat.le_of_ble_eq_true rfl) (fun p e s m args below meth c hX hY hin => ?_)
  refine zr_L (L' := [(0, .ref (n0 + 0))]) rfl ?_
  refine zr_aload_n hX 0 dX5_init_0 rfl rfl ?_
  refine zr_objInit hX dX5_init_1 kw_76 kw_77 kw_78 (by decide) (Nat.le_of_ble_eq_true rfl) ?_
  refine zr_aload_n hX 0 dX5_init_4 rfl rfl ?_
  refine zr_new hX (ci := 4) (C := RX4) (T := TX4) (N := 11) (fs := [.int 0, .int 0, .int 0, .int 0, .null, .null, .null, .null, .null, .null, .null]) rfl z_inX4 tyX4 tyX4_ok kw_79 kw_80 kw_62 (fun j hj => by rcases (show j = 0 ∨ j = 1 ∨ j = 2 ∨ j = 3 ∨ j = 4 ∨ j = 5 ∨ j = 6 ∨ j = 7 ∨ j = 8 ∨ j = 9 ∨ j = 10 by omega) with rfl | rfl | rfl | rfl | rfl | rfl | rfl | rfl | rfl | rfl | rfl <;> rfl) (by decide) (by decide) dX5_init_5 ?_
  refine zr_nmh (fun h1 g1 => ?_)
  have f1_0 : h1 (0) = .inr (5, [.null, .null, .null, .null, .null]) := by rw [g1, z_up_ne _ _ (by omega)]; exact hh
  have f1_1 : h1 (1) = .inr (4, [.int 0, .int 0, .int 0, .int 0, .null, .null, .null, .null, .null, .null, .null]) := by rw [g1, z_up_at]
  refine zr_dup hX dX5_init_8 rfl ?_
  refine zr_callg hX hY (c_X4_init (n := 1) f1_1) dX5_init_9 rfl kw_81 kw_82 kw_62 ⟨rfl, rfl⟩ hy_X4_init kw_83 ⟨by decide, by decide⟩ ⟨by decide, by decide⟩ (Nat.le_of_ble_eq_true rfl) ?_
  refine zr_nmh (fun h2 g2 => ?_)
  have f2_0 : h2 (0) = .inr (5, [.null, .null, .null, .null, .null]) := by rw [g2]; unfold z_st0; rw [if_pos (by omega)]; exact f1_0
  refine zr_putF hX (ci := 5) (C := RX5) (T := TX5) (N := 5) (k := 0) rfl z_inX5 (by omega) f2_0 0 (by decide) kw_234 rfl tyX5 tyX5_ok nmX5 rfl hin rfl rfl rfl rfl (Nat.le_of_ble_eq_true rfl) dX5_init_12 ?_
  refine zr_nmh (fun h3 g3 => ?_)
  have f3_0 : h3 (0) = .inr (5, [.ref (n0 + (1)), .null, .null, .null, .null]) := by rw [g3, z_up_at]; rfl
  refine zr_aload_n hX 0 dX5_init_15 rfl rfl ?_
  refine zr_new hX (ci := 2) (C := RX2) (T := TX2) (N := 2) (fs := [.null, .int 0]) rfl z_inX2 tyX2 tyX2_ok kw_143 kw_144 kw_63 (fun j hj => by rcases (show j = 0 ∨ j = 1 by omega) with rfl | rfl <;> rfl) (by decide) (by decide) dX5_init_16 ?_
  refine zr_nmh (fun h4 g4 => ?_)
  have f4_0 : h4 (0) = .inr (5, [.ref (n0 + (1)), .null, .null, .null, .null]) := by rw [g4, z_up_ne _ _ (by omega)]; exact f3_0
  have f4_27 : h4 (27) = .inr (2, [.null, .int 0]) := by rw [g4, z_up_at]
  refine zr_dup hX dX5_init_19 rfl ?_
  refine zr_callg hX hY (c_X2_init f4_27) dX5_init_20 rfl kw_145 kw_146 kw_63 ⟨rfl, rfl⟩ hy_X2_init kw_147 ⟨by decide, by decide⟩ ⟨by decide, by decide⟩ (Nat.le_of_ble_eq_true rfl) ?_
  refine zr_nmh (fun h5 g5 => ?_)
  have f5_0 : h5 (0) = .inr (5, [.ref (n0 + (1)), .null, .null, .null, .null]) := by rw [g5]; show (if _ then _ else _) = _; rw [if_pos (by omega)]; exact f4_0
  refine zr_putF hX (ci := 5) (C := RX5) (T := TX5) (N := 5) (k := 0) rfl z_inX5 (by omega) f5_0 1 (by decide) kw_235 rfl tyX5 tyX5_ok nmX5 rfl hin rfl rfl rfl rfl (Nat.le_of_ble_eq_true rfl) dX5_init_23 ?_
  refine zr_nmh (fun h6 g6 => ?_)
  have f6_0 : h6 (0) = .inr (5, [.ref (n0 + (1)), .ref (n0 + (27)), .null, .null, .null]) := by rw [g6, z_up_at]; rfl
  refine zr_aload_n hX 0 dX5_init_26 rfl rfl ?_
  refine zr_new hX (ci := 1) (C := RX1) (T := TX1) (N := 3) (fs := [.null, .null, .null]) rfl z_inX1 tyX1 tyX1_ok kw_159 kw_160 kw_64 (fun j hj => by rcases (show j = 0 ∨ j = 1 ∨ j = 2 by omega) with rfl | rfl | rfl <;> rfl) (by decide) (by decide) dX5_init_27 ?_
  refine zr_nmh (fun h7 g7 => ?_)
  have f7_0 : h7 (0) = .inr (5, [.ref (n0 + (1)), .ref (n0 + (27)), .null, .null, .null]) := by rw [g7, z_up_ne _ _ (by omega)]; exact f6_0
  have f7_29 : h7 (29) = .inr (1, [.null, .null, .null]) := by rw [g7, z_up_at]
  refine zr_dup hX dX5_init_30 rfl ?_
  refine zr_callg hX hY (c_X1_init f7_29) dX5_init_31 rfl kw_161 kw_162 kw_64 ⟨rfl, rfl⟩ hy_X1_init kw_163 ⟨by decide, by decide⟩ ⟨by decide, by decide⟩ (Nat.le_of_ble_eq_true rfl) ?_
  refine zr_nmh (fun h8 g8 => ?_)
  have f8_0 : h8 (0) = .inr (5, [.ref (n0 + (1)), .ref (n0 + (27)), .null, .null, .null]) := by rw [g8]; show (if _ then _ else _) = _; rw [if_pos (by omega)]; exact f7_0
  refine zr_putF hX (ci := 5) (C := RX5) (T := TX5) (N := 5) (k := 0) rfl z_inX5 (by omega) f8_0 2 (by decide) kw_236 rfl tyX5 tyX5_ok nmX5 rfl hin rfl rfl rfl rfl (Nat.le_of_ble_eq_true rfl) dX5_init_34 ?_
  refine zr_nmh (fun h9 g9 => ?_)
  have f9_0 : h9 (0) = .inr (5, [.ref (n0 + (1)), .ref (n0 + (27)), .ref (n0 + (29)), .null, .null]) := by rw [g9, z_up_at]; rfl
  refine zr_aload_n hX 0 dX5_init_37 rfl rfl ?_
  refine zr_new hX (ci := 0) (C := RX0) (T := TX0) (N := 4) (fs := [.null, .null, .null, .null]) rfl z_inX0 tyX0 tyX0_ok kw_179 kw_180 kw_65 (fun j hj => by rcases (show j = 0 ∨ j = 1 ∨ j = 2 ∨ j = 3 by omega) with rfl | rfl | rfl | rfl <;> rfl) (by decide) (by decide) dX5_init_38 ?_
  refine zr_nmh (fun h10 g10 => ?_)
  have f10_0 : h10 (0) = .inr (5, [.ref (n0 + (1)), .ref (n0 + (27)), .ref (n0 + (29)), .null, .null]) := by rw [g10, z_up_ne _ _ (by omega)]; exact f9_0
  have f10_53 : h10 (53) = .inr (0, [.null, .null, .null, .null]) := by rw [g10, z_up_at]
  refine zr_dup hX dX5_init_41 rfl ?_
  refine zr_callg hX hY (c_X0_init f10_53) dX5_init_42 rfl kw_181 kw_182 kw_65 ⟨rfl, rfl⟩ hy_X0_init kw_183 ⟨by decide, by decide⟩ ⟨by decide, by decide⟩ (Nat.le_of_ble_eq_true rfl) ?_
  refine zr_nmh (fun h11 g11 => ?_)
  have f11_0 : h11 (0) = .inr (5, [.ref (n0 + (1)), .ref (n0 + (27)), .ref (n0 + (29)), .null, .null]) := by rw [g11]; show (if _ then _ else _) = _; rw [if_pos (by omega)]; exact f10_0
  refine zr_putF hX (ci := 5) (C := RX5) (T := TX5) (N := 5) (k := 0) rfl z_inX5 (by omega) f11_0 3 (by decide) kw_237 rfl tyX5 tyX5_ok nmX5 rfl hin rfl rfl rfl rfl (Nat.le_of_ble_eq_true rfl) dX5_init_45 ?_
  refine zr_nmh (fun h12 g12 => ?_)
  have f12_0 : h12 (0) = .inr (5, [.ref (n0 + (1)), .ref (n0 + (27)), .ref (n0 + (29)), .ref (n0 + (53)), .null]) := by rw [g12, z_up_at]; rfl
  refine zr_aload_n hX 0 dX5_init_48 rfl rfl ?_
  refine zr_new hX (ci := 3) (C := RX3) (T := TX3) (N := 8) (fs := [.null, .int 0, .null, .null, .null, .int 0, .int 0, .int 0]) rfl z_inX3 tyX3 tyX3_ok kw_201 kw_202 kw_66 (fun j hj => by rcases (show j = 0 ∨ j = 1 ∨ j = 2 ∨ j = 3 ∨ j = 4 ∨ j = 5 ∨ j = 6 ∨ j = 7 by omega) with rfl | rfl | rfl | rfl | rfl | rfl | rfl | rfl <;> rfl) (by decide) (by decide) dX5_init_49 ?_
  refine zr_nmh (fun h13 g13 => ?_)
  have f13_0 : h13 (0) = .inr (5, [.ref (n0 + (1)), .ref (n0 + (27)), .ref (n0 + (29)), .ref (n0 + (53)), .null]) := by rw [g13, z_up_ne _ _ (by omega)]; exact f12_0
  have f13_68 : h13 (68) = .inr (3, [.null, .int 0, .null, .null, .null, .int 0, .int 0, .int 0]) := by rw [g13, z_up_at]
  refine zr_dup hX dX5_init_52 rfl ?_
  refine zr_callg hX hY (c_X3_init f13_68) dX5_init_53 rfl kw_203 kw_204 kw_66 ⟨rfl, rfl⟩ hy_X3_init kw_205 ⟨by decide, by decide⟩ ⟨by decide, by decide⟩ (Nat.le_of_ble_eq_true rfl) ?_
  refine zr_nmh (fun h14 g14 => ?_)
  have f14_0 : h14 (0) = .inr (5, [.ref (n0 + (1)), .ref (n0 + (27)), .ref (n0 + (29)), .ref (n0 + (53)), .null]) := by rw [g14]; show (if _ then _ else _) = _; rw [if_pos (by omega)]; exact f13_0
  refine zr_putF hX (ci := 5) (C := RX5) (T := TX5) (N := 5) (k := 0) rfl z_inX5 (by omega) f14_0 4 (by decide) kw_238 rfl tyX5 tyX5_ok nmX5 rfl hin rfl rfl rfl rfl (Nat.le_of_ble_eq_true rfl) dX5_init_56 ?_
  refine zr_nmh (fun h15 g15 => ?_)
  have f15_0 : h15 (0) = .inr (5, [.ref (n0 + (1)), .ref (n0 + (27)), .ref (n0 + (29)), .ref (n0 + (53)), .ref (n0 + (68))]) := by rw [g15, z_up_at]; rfl
  exact zr_vret hX hY dX5_init_59 rfl (fun k hk => by
    subst g1; subst g2; subst g3; subst g4; subst g5; subst g6; subst g7; subst g8; subst g9; subst g10; subst g11; subst g12; subst g13; subst g14; subst g15
    rcases (show k = 0 ∨ k = 1 ∨ k = 2 ∨ k = 3 ∨ k = 4 ∨ k = 5 ∨ k = 6 ∨ k = 7 ∨ k = 8 ∨ k = 9 ∨ k = 10 ∨ k = 11 ∨ k = 12 ∨ k = 13 ∨ k = 14 ∨ k = 15 ∨ k = 16 ∨ k = 17 ∨ k = 18 ∨ k = 19 ∨ k = 20 ∨ k = 21 ∨ k = 22 ∨ k = 23 ∨ k = 24 ∨ k = 25 ∨ k = 26 ∨ k = 27 ∨ k = 28 ∨ k = 29 ∨ k = 30 ∨ k = 31 ∨ k = 32 ∨ k = 33 ∨ k = 34 ∨ k = 35 ∨ k = 36 ∨ k = 37 ∨ k = 38 ∨ k = 39 ∨ k = 40 ∨ k = 41 ∨ k = 42 ∨ k = 43 ∨ k = 44 ∨ k = 45 ∨ k = 46 ∨ k = 47 ∨ k = 48 ∨ k = 49 ∨ k = 50 ∨ k = 51 ∨ k = 52 ∨ k = 53 ∨ k = 54 ∨ k = 55 ∨ k = 56 ∨ k = 57 ∨ k = 58 ∨ k = 59 ∨ k = 60 ∨ k = 61 ∨ k = 62 ∨ k = 63 ∨ k = 64 ∨ k = 65 ∨ k = 66 ∨ k = 67 ∨ k = 68 ∨ k = 69 ∨ k = 70 ∨ k = 71 ∨ k = 72 by omega) with rfl | rfl | rfl | rfl | rfl | rfl | rfl | rfl | rfl | rfl | rfl | rfl | rfl | rfl | rfl | rfl | rfl | rfl | rfl | rfl | rfl | rfl | rfl | rfl | rfl | rfl | rfl | rfl | rfl | rfl | rfl | rfl | rfl | rfl | rfl | rfl | rfl | rfl | rfl | rfl | rfl | rfl | rfl | rfl | rfl | rfl | rfl | rfl | rfl | rfl | rfl | rfl | rfl | rfl | rfl | rfl | rfl | rfl | rfl | rfl | rfl | rfl | rfl | rfl | rfl | rfl | rfl | rfl | rfl | rfl | rfl | rfl | rfl
    · rfl
    · rfl
    · rfl
    · rfl
    · rfl
    · rfl
    · rfl
    · rfl
    · rfl
    · rfl
    · rfl
    · rfl
    · rfl
    · rfl
    · rfl
    · rfl
    · rfl
    · rfl
    · rfl
    · rfl
    · rfl
    · rfl
    · rfl
    · rfl
    · rfl
    · rfl
    · rfl
    · rfl
    · rfl
    · rfl
    · rfl
    · rfl
    · rfl
    · rfl
    · rfl
    · rfl
    · rfl
    · rfl
    · rfl
    · rfl
    · rfl
    · rfl
    · rfl
    · rfl
    · rfl
    · rfl
    · rfl
    · rfl
    · rfl
    · rfl
    · rfl
    · rfl
    · rfl
    · rfl
    · rfl
    · rfl
    · rfl
    · rfl
    · rfl
    · rfl
    · rfl
    · rfl
    · rfl
    · rfl
    · rfl
    · rfl
    · rfl
    · rfl
    · rfl
    · rfl
    · rfl
    · rfl
    · rfl
    )

theorem dX6_init_0 : decode cX6_init 0 = .ok (.aload_n 0, 1) := by decide +kernel
theorem dX6_init_1 : decode cX6_init 1 = .ok (.invokespecial 1, 3) := by decide +kernel
theorem dX6_init_4 : decode cX6_init 4 = .ok (.aload_n 0, 1) := by decide +kernel
theorem dX6_init_5 : decode cX6_init 5 = .ok (.sipush 1584, 3) := by decide +kernel
theorem dX6_init_8 : decode cX6_init 8 = .ok (.newarray .int, 2) := by decide +kernel
theorem dX6_init_10 : decode cX6_init 10 = .ok (.putfield 7, 3) := by decide +kernel
theorem dX6_init_13 : decode cX6_init 13 = .ok (.aload_n 0, 1) := by decide +kernel
theorem dX6_init_14 : decode cX6_init 14 = .ok (.bipush 10, 2) := by decide +kernel
theorem dX6_init_16 : decode cX6_init 16 = .ok (.newarray .int, 2) := by decide +kernel
theorem dX6_init_18 : decode cX6_init 18 = .ok (.putfield 13, 3) := by decide +kernel
theorem dX6_init_21 : decode cX6_init 21 = .ok (.aload_n 0, 1) := by decide +kernel
theorem dX6_init_22 : decode cX6_init 22 = .ok (.bipush 10, 2) := by decide +kernel
theorem dX6_init_24 : decode cX6_init 24 = .ok (.newarray .int, 2) := by decide +kernel
theorem dX6_init_26 : decode cX6_init 26 = .ok (.putfield 16, 3) := by decide +kernel
theorem dX6_init_29 : decode cX6_init 29 = .ok (.aload_n 0, 1) := by decide +kernel
theorem dX6_init_30 : decode cX6_init 30 = .ok (.bipush 10, 2) := by decide +kernel
theorem dX6_init_32 : decode cX6_init 32 = .ok (.newarray .long, 2) := by decide +kernel
theorem dX6_init_34 : decode cX6_init 34 = .ok (.putfield 19, 3) := by decide +kernel
theorem dX6_init_37 : decode cX6_init 37 = .ok (.aload_n 0, 1) := by decide +kernel
theorem dX6_init_38 : decode cX6_init 38 = .ok (.bipush 10, 2) := by decide +kernel
theorem dX6_init_40 : decode cX6_init 40 = .ok (.newarray .int, 2) := by decide +kernel
theorem dX6_init_42 : decode cX6_init 42 = .ok (.putfield 23, 3) := by decide +kernel
theorem dX6_init_45 : decode cX6_init 45 = .ok (.aload_n 0, 1) := by decide +kernel
theorem dX6_init_46 : decode cX6_init 46 = .ok (.bipush 10, 2) := by decide +kernel
theorem dX6_init_48 : decode cX6_init 48 = .ok (.newarray .int, 2) := by decide +kernel
theorem dX6_init_50 : decode cX6_init 50 = .ok (.putfield 26, 3) := by decide +kernel
theorem dX6_init_53 : decode cX6_init 53 = .ok (.aload_n 0, 1) := by decide +kernel
theorem dX6_init_54 : decode cX6_init 54 = .ok (.bipush 120, 2) := by decide +kernel
theorem dX6_init_56 : decode cX6_init 56 = .ok (.newarray .int, 2) := by decide +kernel
theorem dX6_init_58 : decode cX6_init 58 = .ok (.putfield 29, 3) := by decide +kernel
theorem dX6_init_61 : decode cX6_init 61 = .ok (.aload_n 0, 1) := by decide +kernel
theorem dX6_init_62 : decode cX6_init 62 = .ok (.getfield 7, 3) := by decide +kernel
theorem dX6_init_65 : decode cX6_init 65 = .ok (.iconst 1, 1) := by decide +kernel
theorem dX6_init_66 : decode cX6_init 66 = .ok (.iconst 5, 1) := by decide +kernel
theorem dX6_init_67 : decode cX6_init 67 = .ok (.iastore, 1) := by decide +kernel
theorem dX6_init_68 : decode cX6_init 68 = .ok (.aload_n 0, 1) := by decide +kernel
theorem dX6_init_69 : decode cX6_init 69 = .ok (.getfield 7, 3) := by decide +kernel
theorem dX6_init_72 : decode cX6_init 72 = .ok (.iconst 2, 1) := by decide +kernel
theorem dX6_init_73 : decode cX6_init 73 = .ok (.bipush 50, 2) := by decide +kernel
theorem dX6_init_75 : decode cX6_init 75 = .ok (.iastore, 1) := by decide +kernel
theorem dX6_init_76 : decode cX6_init 76 = .ok (.return_, 1) := by decide +kernel
abbrev rm_X6_init : Room := { frames := 1, cells := 7, slots := 1754, locals := 12 }
theorem hy_X6_init : yX6_init.cls ≠ "java/lang/invoke/MethodHandle" ∧ yX6_init.cls ≠ "java/lang/invoke/VarHandle" ∧ (parseMethodDescriptor yX6_init.desc).map (fun d => d.parameters.length) = some 0 := by decide +kernel
set_option maxHeartbeats 4000000 in
set_option maxRecDepth 100000 in
theorem c_X6_init {l : Launch} {D : va_G} {cI cJ cM cS : ClassId} {n0 : Nat} {h : Nat → va_E} (hh : h (73) = .inr (6, [.null, .int 0, .null, .null, .null, .null, .null, .null, .int 0, .int 0, .int 0, .int 0, .long 0])) : z_cg l D cI cJ cM cS n0 yX6_init cX6_init 1 rm_X6_init 7 1754 [.ref (n0 + 73)] 74 h 81 (fun k => if k < 73 then h k else z_E n0 cI cJ cM cS zs_0 k) := by
  refine z_ofg (by decide +kernel) (Nat.le_of_ble_eq_true rfl) (fun p e s m args below meth c hX hY hin => ?_)
  refine zr_L (L' := [(0, .ref (n0 + 73))]) rfl ?_
  refine zr_aload_n hX 0 dX6_init_0 rfl rfl ?_
  refine zr_objInit hX dX6_init_1 kw_653 kw_77 kw_78 (by decide) (Nat.le_of_ble_eq_true rfl) ?_
  refine zr_aload_n hX 0 dX6_init_4 rfl rfl ?_
  refine zr_sipush hX dX6_init_5 (v := (1584 : Int32)) (by decide) ?_
  refine zr_newI hX (N := 1584) dX6_init_8 (by decide) (by decide) (by decide) (by decide) (by decide) ?_
  refine zr_nmh (fun h1 g1 => ?_)
  have f1_73 : h1 (73) = .inr (6, [.null, .int 0, .null, .null, .null, .null, .null, .null, .int 0, .int 0, .int 0, .int 0, .long 0]) := by rw [g1, z_up_ne _ _ (by omega)]; exact hh
  have f1_74 : h1 (74) = .inl (cI, 1584, .inl (fun _ => 0)) := by rw [g1, z_up_at]
  refine zr_putF hX (ci := 6) (C := RX6) (T := TX6) (N := 13) (k := 73) rfl z_inX6 (by omega) f1_73 0 (by decide) kw_654 rfl tyX6 tyX6_ok nmX6 rfl hin rfl rfl rfl rfl (Nat.le_of_ble_eq_true rfl) dX6_init_10 ?_
  refine zr_nmh (fun h2 g2 => ?_)
  have f2_74 : h2 (74) = .inl (cI, 1584, .inl (fun _ => 0)) := by rw [g2, z_up_ne _ _ (by omega)]; exact f1_74
  have f2_73 : h2 (73) = .inr (6, [.ref (n0 + (74)), .int 0, .null, .null, .null, .null, .null, .null, .int 0, .int 0, .int 0, .int 0, .long 0]) := by rw [g2, z_up_at]; rfl
  refine zr_aload_n hX 0 dX6_init_13 rfl rfl ?_
  refine zr_bipush hX dX6_init_14 (v := (10 : Int32)) (by decide) ?_
  refine zr_newI hX (N := 10) dX6_init_16 (by decide) (by decide) (by decide) (by decide) (by decide) ?_
  refine zr_nmh (fun h3 g3 => ?_)
  have f3_74 : h3 (74) = .inl (cI, 1584, .inl (fun _ => 0)) := by rw [g3, z_up_ne _ _ (by omega)]; exact f2_74
  have f3_73 : h3 (73) = .inr (6, [.ref (n0 + (74)), .int 0, .null, .null, .null, .null, .null, .null, .int 0, .int 0, .int 0, .int 0, .long 0]) := by rw [g3, z_up_ne _ _ (by omega)]; exact f2_73
  refine zr_putF hX (ci := 6) (C := RX6) (T := TX6) (N := 13) (k := 73) rfl z_inX6 (by omega) f3_73 2 (by decide) kw_656 rfl tyX6 tyX6_ok nmX6 rfl hin rfl rfl rfl rfl (Nat.le_of_ble_eq_true rfl) dX6_init_18 ?_
  refine zr_nmh (fun h4 g4 => ?_)
  have f4_74 : h4 (74) = .inl (cI, 1584, .inl (fun _ => 0)) := by rw [g4, z_up_ne _ _ (by omega)]; exact f3_74
  have f4_73 : h4 (73) = .inr (6, [.ref (n0 + (74)), .int 0, .ref (n0 + (75)), .null, .null, .null, .null, .null, .int 0, .int 0, .int 0, .int 0, .long 0]) := by rw [g4, z_up_at]; rfl
  refine zr_aload_n hX 0 dX6_init_21 rfl rfl ?_
  refine zr_bipush hX dX6_init_22 (v := (10 : Int32)) (by decide) ?_
  refine zr_newI hX (N := 10) dX6_init_24 (by decide) (by decide) (by decide) (by decide) (by decide) ?_
  refine zr_nmh (fun h5 g5 => ?_)
  have f5_74 : h5 (74) = .inl (cI, 1584, .inl (fun _ => 0)) := by rw [g5, z_up_ne _ _ (by omega)]; exact f4_74
  have f5_73 : h5 (73) = .inr (6, [.ref (n0 + (74)), .int 0, .ref (n0 + (75)), .null, .null, .null, .null, .null, .int 0, .int 0, .int 0, .int 0, .long 0]) := by rw [g5, z_up_ne _ _ (by omega)]; exact f4_73
  refine zr_putF hX (ci := 6) (C := RX6) (T := TX6) (N := 13) (k := 73) rfl z_inX6 (by omega) f5_73 3 (by decide) kw_657 rfl tyX6 tyX6_ok nmX6 rfl hin rfl rfl rfl rfl (Nat.le_of_ble_eq_true rfl) dX6_init_26 ?_
  refine zr_nmh (fun h6 g6 => ?_)
  have f6_74 : h6 (74) = .inl (cI, 1584, .inl (fun _ => 0)) := by rw [g6, z_up_ne _ _ (by omega)]; exact f5_74
  have f6_73 : h6 (73) = .inr (6, [.ref (n0 + (74)), .int 0, .ref (n0 + (75)), .ref (n0 + (76)), .null, .null, .null, .null, .int 0, .int 0, .int 0, .int 0, .long 0]) := by rw [g6, z_up_at]; rfl
  refine zr_aload_n hX 0 dX6_init_29 rfl rfl ?_
  refine zr_bipush hX dX6_init_30 (v := (10 : Int32)) (by decide) ?_
  refine zr_newL hX (N := 10) dX6_init_32 (by decide) (by decide) (by decide) (by decide) (by decide) ?_
  refine zr_nmh (fun h7 g7 => ?_)
  have f7_74 : h7 (74) = .inl (cI, 1584, .inl (fun _ => 0)) := by rw [g7, z_up_ne _ _ (by omega)]; exact f6_74
  have f7_73 : h7 (73) = .inr (6, [.ref (n0 + (74)), .int 0, .ref (n0 + (75)), .ref (n0 + (76)), .null, .null, .null, .null, .int 0, .int 0, .int 0, .int 0, .long 0]) := by rw [g7, z_up_ne _ _ (by omega)]; exact f6_73
  refine zr_putF hX (ci := 6) (C := RX6) (T := TX6) (N := 13) (k := 73) rfl z_inX6 (by omega) f7_73 4 (by decide) kw_658 rfl tyX6 tyX6_ok nmX6 rfl hin rfl rfl rfl rfl (Nat.le_of_ble_eq_true rfl) dX6_init_34 ?_
  refine zr_nmh (fun h8 g8 => ?_)
  have f8_74 : h8 (74) = .inl (cI, 1584, .inl (fun _ => 0)) := by rw [g8, z_up_ne _ _ (by omega)]; exact f7_74
  have f8_73 : h8 (73) = .inr (6, [.ref (n0 + (74)), .int 0, .ref (n0 + (75)), .ref (n0 + (76)), .ref (n0 + (77)), .null, .null, .null, .int 0, .int 0, .int 0, .int 0, .long 0]) := by rw [g8, z_up_at]; rfl
  refine zr_aload_n hX 0 dX6_init_37 rfl rfl ?_
  refine zr_bipush hX dX6_init_38 (v := (10 : Int32)) (by decide) ?_
  refine zr_newI hX (N := 10) dX6_init_40 (by decide) (by decide) (by decide) (by decide) (by decide) ?_
  refine zr_nmh (fun h9 g9 => ?_)
  have f9_74 : h9 (74) = .inl (cI, 1584, .inl (fun _ => 0)) := by rw [g9, z_up_ne _ _ (by omega)]; exact f8_74
  have f9_73 : h9 (73) = .inr (6, [.ref (n0 + (74)), .int 0, .ref (n0 + (75)), .ref (n0 + (76)), .ref (n0 + (77)), .null, .null, .null, .int 0, .int 0, .int 0, .int 0, .long 0]) := by rw [g9, z_up_ne _ _ (by omega)]; exact f8_73
  refine zr_putF hX (ci := 6) (C := RX6) (T := TX6) (N := 13) (k := 73) rfl z_inX6 (by omega) f9_73 5 (by decide) kw_659 rfl tyX6 tyX6_ok nmX6 rfl hin rfl rfl rfl rfl (Nat.le_of_ble_eq_true rfl) dX6_init_42 ?_
  refine zr_nmh (fun h10 g10 => ?_)
  have f10_74 : h10 (74) = .inl (cI, 1584, .inl (fun _ => 0)) := by rw [g10, z_up_ne _ _ (by omega)]; exact f9_74
  have f10_73 : h10 (73) = .inr (6, [.ref (n0 + (74)), .int 0, .ref (n0 + (75)), .ref (n0 + (76)), .ref (n0 + (77)), .ref (n0 + (78)), .null, .null, .int 0, .int 0, .int 0, .int 0, .long 0]) := by rw [g10, z_up_at]; rfl
  refine zr_aload_n hX 0 dX6_init_45 rfl rfl ?_
  refine zr_bipush hX dX6_init_46 (v := (10 : Int32)) (by decide) ?_
  refine zr_newI hX (N := 10) dX6_init_48 (by decide) (by decide) (by decide) (by decide) (by decide) ?_
  refine zr_nmh (fun h11 g11 => ?_)
  have f11_74 : h11 (74) = .inl (cI, 1584, .inl (fun _ => 0)) := by rw [g11, z_up_ne _ _ (by omega)]; exact f10_74
  have f11_73 : h11 (73) = .inr (6, [.ref (n0 + (74)), .int 0, .ref (n0 + (75)), .ref (n0 + (76)), .ref (n0 + (77)), .ref (n0 + (78)), .null, .null, .int 0, .int 0, .int 0, .int 0, .long 0]) := by rw [g11, z_up_ne _ _ (by omega)]; exact f10_73
  refine zr_putF hX (ci := 6) (C := RX6) (T := TX6) (N := 13) (k := 73) rfl z_inX6 (by omega) f11_73 6 (by decide) kw_660 rfl tyX6 tyX6_ok nmX6 rfl hin rfl rfl rfl rfl (Nat.le_of_ble_eq_true rfl) dX6_init_50 ?_
  refine zr_nmh (fun h12 g12 => ?_)
  have f12_74 : h12 (74) = .inl (cI, 1584, .inl (fun _ => 0)) := by rw [g12, z_up_ne _ _ (by omega)]; exact f11_74
  have f12_73 : h12 (73) = .inr (6, [.ref (n0 + (74)), .int 0, .ref (n0 + (75)), .ref (n0 + (76)), .ref (n0 + (77)), .ref (n0 + (78)), .ref (n0 + (79)), .null, .int 0, .int 0, .int 0, .int 0, .long 0]) := by rw [g12, z_up_at]; rfl
  refine zr_aload_n hX 0 dX6_init_53 rfl rfl ?_
  refine zr_bipush hX dX6_init_54 (v := (120 : Int32)) (by decide) ?_
  refine zr_newI hX (N := 120) dX6_init_56 (by decide) (by decide) (by decide) (by decide) (by decide) ?_
  refine zr_nmh (fun h13 g13 => ?_)
  have f13_74 : h13 (74) = .inl (cI, 1584, .inl (fun _ => 0)) := by rw [g13, z_up_ne _ _ (by omega)]; exact f12_74
  have f13_73 : h13 (73) = .inr (6, [.ref (n0 + (74)), .int 0, .ref (n0 + (75)), .ref (n0 + (76)), .ref (n0 + (77)), .ref (n0 + (78)), .ref (n0 + (79)), .null, .int 0, .int 0, .int 0, .int 0, .long 0]) := by rw [g13, z_up_ne _ _ (by omega)]; exact f12_73
  refine zr_putF hX (ci := 6) (C := RX6) (T := TX6) (N := 13) (k := 73) rfl z_inX6 (by omega) f13_73 7 (by decide) kw_661 rfl tyX6 tyX6_ok nmX6 rfl hin rfl rfl rfl rfl (Nat.le_of_ble_eq_true rfl) dX6_init_58 ?_
  refine zr_nmh (fun h14 g14 => ?_)
  have f14_74 : h14 (74) = .inl (cI, 1584, .inl (fun _ => 0)) := by rw [g14, z_up_ne _ _ (by omega)]; exact f13_74
  have f14_73 : h14 (73) = .inr (6, [.ref (n0 + (74)), .int 0, .ref (n0 + (75)), .ref (n0 + (76)), .ref (n0 + (77)), .ref (n0 + (78)), .ref (n0 + (79)), .ref (n0 + (80)), .int 0, .int 0, .int 0, .int 0, .long 0]) := by rw [g14, z_up_at]; rfl
  refine zr_aload_n hX 0 dX6_init_61 rfl rfl ?_
  refine zr_getR hX (ci := 6) (C := RX6) (T := TX6) (N := 13) (k := 73) (j := 0) rfl z_inX6 (by omega) f14_73 (by decide) kw_654 rfl rfl dX6_init_62 ?_
  refine zr_iconst hX dX6_init_65 (v := (1 : Int32)) (by decide) ?_
  refine zr_iconst hX dX6_init_66 (v := (5 : Int32)) (by decide) ?_
  refine zr_iastore hX dX6_init_67 (k := 74) (by omega) f14_74 (by unfold vp_in; decide) ?_
  refine zr_nmh (fun h15 g15 => ?_)
  have f15_73 : h15 (73) = .inr (6, [.ref (n0 + (74)), .int 0, .ref (n0 + (75)), .ref (n0 + (76)), .ref (n0 + (77)), .ref (n0 + (78)), .ref (n0 + (79)), .ref (n0 + (80)), .int 0, .int 0, .int 0, .int 0, .long 0]) := by rw [g15, z_up_ne _ _ (by omega)]; exact f14_73
  have f15_74 : h15 (74) = .inl (cI, 1584, .inl (va_up (fun _ => 0) 1 5)) := by rw [g15, z_up_at]; rfl
  refine zr_aload_n hX 0 dX6_init_68 rfl rfl ?_
  refine zr_getR hX (ci := 6) (C := RX6) (T := TX6) (N := 13) (k := 73) (j := 0) rfl z_inX6 (by omega) f15_73 (by decide) kw_654 rfl rfl dX6_init_69 ?_
  refine zr_iconst hX dX6_init_72 (v := (2 : Int32)) (by decide) ?_
  refine zr_bipush hX dX6_init_73 (v := (50 : Int32)) (by decide) ?_
  refine zr_iastore hX dX6_init_75 (k := 74) (by omega) f15_74 (by unfold vp_in; decide) ?_
  refine zr_nmh (fun h16 g16 => ?_)
  have f16_73 : h16 (73) = .inr (6, [.ref (n0 + (74)), .int 0, .ref (n0 + (75)), .ref (n0 + (76)), .ref (n0 + (77)), .ref (n0 + (78)), .ref (n0 + (79)), .ref (n0 + (80)), .int 0, .int 0, .int 0, .int 0, .long 0]) := by rw [g16, z_up_ne _ _ (by omega)]; exact f15_73
  have f16_74 : h16 (74) = .inl (cI, 1584, .inl (va_up (va_up (fun _ => 0) 1 5) 2 50)) := by rw [g16, z_up_at]; rfl
  exact zr_vret hX hY dX6_init_76 rfl (fun k hk => by
    subst g1; subst g2; subst g3; subst g4; subst g5; subst g6; subst g7; subst g8; subst g9; subst g10; subst g11; subst g12; subst g13; subst g14; subst g15; subst g16
    rcases Nat.lt_or_ge k 73 with hlt | hge
    · simp [z_up, z_mna, hlt, show ¬ k = 73 by omega, show ¬ k = 74 by omega, show ¬ k = 75 by omega, show ¬ k = 76 by omega, show ¬ k = 77 by omega, show ¬ k = 78 by omega, show ¬ k = 79 by omega, show ¬ k = 80 by omega, show k < 73 by omega, show k < 74 by omega, show k < 75 by omega, show k < 76 by omega, show k < 77 by omega, show k < 78 by omega, show k < 79 by omega, show k < 80 by omega]
    · rcases (show k = 73 ∨ k = 74 ∨ k = 75 ∨ k = 76 ∨ k = 77 ∨ k = 78 ∨ k = 79 ∨ k = 80 by omega) with rfl | rfl | rfl | rfl | rfl | rfl | rfl | rfl
      · rfl
      · show Sum.inl (cI, 1584, Sum.inl _) = Sum.inl (cI, 1584, Sum.inl _); refine congrArg (fun f => Sum.inl (cI, 1584, Sum.inl f)) (funext fun b => ?_); show zg_i zs_0 74 b = va_up (va_up (fun _ => 0) 1 5) 2 50 b; simp only [va_up, zg_i, zs_0]; by_cases h1 : b = 1 <;> by_cases h2 : b = 2 <;> simp_all
      · rfl
      · rfl
      · rfl
      · rfl
      · rfl
      · rfl
    )

