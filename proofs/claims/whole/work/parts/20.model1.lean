def gJ6_bitCount_0f7a4 (x0 : Int32) : Option (Int32) :=
  zlt (x0 - ((((x0 : Int32).toUInt32 >>> ((1 : Int32).toUInt32 &&& Int32.toUInt32 31)).toInt32) &&& 1431655765)) (fun x21 => zlt ((x21 &&& 858993459) + ((((x21 : Int32).toUInt32 >>> ((2 : Int32).toUInt32 &&& Int32.toUInt32 31)).toInt32) &&& 858993459)) (fun x22 => zlt ((x22 + (((x22 : Int32).toUInt32 >>> ((4 : Int32).toUInt32 &&& Int32.toUInt32 31)).toInt32)) &&& 252645135) (fun x23 => zlt (x23 + (((x23 : Int32).toUInt32 >>> ((8 : Int32).toUInt32 &&& Int32.toUInt32 31)).toInt32)) (fun x24 => zlt (x24 + (((x24 : Int32).toUInt32 >>> ((16 : Int32).toUInt32 &&& Int32.toUInt32 31)).toInt32)) (fun x25 => (some (x25 &&& 63)))))))
set_option maxRecDepth 20000 in
theorem cJ6_bitCount_0f7a4_ok (l : Launch) (h : Zh) (x0 : Int32) : Zc l yJ6_bitCount_0f7a4 mJ6_bitCount_0f7a4 0 h [(.int x0, 0)] ((gJ6_bitCount_0f7a4 x0).map (zoi h)) := by
  refine zc_of2 (ls := [some (.int x0, 0)]) (j := 0) (by decide +kernel) rfl rfl (zEn_ci rfl) (Nat.le_of_ble_eq_true rfl) rfl ?_
  unfold gJ6_bitCount_0f7a4
  refine zr_iload_n (eJ6_bitCount_0f7a4 0 rfl) rfl rfl ?_
  refine zr_iload_n (eJ6_bitCount_0f7a4 1 rfl) rfl rfl ?_
  refine zr_iconst (eJ6_bitCount_0f7a4 2 rfl) zk_iconst_1 ?_
  refine zr_iushr (eJ6_bitCount_0f7a4 3 rfl) ?_
  refine zr_ldc_w (eJ6_bitCount_0f7a4 4 rfl) zw_254 ?_
  refine zr_iand (eJ6_bitCount_0f7a4 5 rfl) ?_
  refine zr_isub (eJ6_bitCount_0f7a4 6 rfl) ?_
  refine v_leti (fun x21 => ?_)
  refine zr_istore_n (ls2 := [some (.int x21, 0)]) (eJ6_bitCount_0f7a4 7 rfl) rfl (Nat.le_of_ble_eq_true rfl) rfl ?_
  refine zr_iload_n (eJ6_bitCount_0f7a4 8 rfl) rfl rfl ?_
  refine zr_ldc_w (eJ6_bitCount_0f7a4 9 rfl) zw_255 ?_
  refine zr_iand (eJ6_bitCount_0f7a4 10 rfl) ?_
  refine zr_iload_n (eJ6_bitCount_0f7a4 11 rfl) rfl rfl ?_
  refine zr_iconst (eJ6_bitCount_0f7a4 12 rfl) zk_iconst_2 ?_
  refine zr_iushr (eJ6_bitCount_0f7a4 13 rfl) ?_
  refine zr_ldc_w (eJ6_bitCount_0f7a4 14 rfl) zw_255 ?_
  refine zr_iand (eJ6_bitCount_0f7a4 15 rfl) ?_
  refine zr_iadd (eJ6_bitCount_0f7a4 16 rfl) ?_
  refine v_leti (fun x22 => ?_)
  refine zr_istore_n (ls2 := [some (.int x22, 0)]) (eJ6_bitCount_0f7a4 17 rfl) rfl (Nat.le_of_ble_eq_true rfl) rfl ?_
  refine zr_iload_n (eJ6_bitCount_0f7a4 18 rfl) rfl rfl ?_
  refine zr_iload_n (eJ6_bitCount_0f7a4 19 rfl) rfl rfl ?_
  refine zr_iconst (eJ6_bitCount_0f7a4 20 rfl) zk_iconst_4 ?_
  refine zr_iushr (eJ6_bitCount_0f7a4 21 rfl) ?_
  refine zr_iadd (eJ6_bitCount_0f7a4 22 rfl) ?_
  refine zr_ldc_w (eJ6_bitCount_0f7a4 23 rfl) zw_256 ?_
  refine zr_iand (eJ6_bitCount_0f7a4 24 rfl) ?_
  refine v_leti (fun x23 => ?_)
  refine zr_istore_n (ls2 := [some (.int x23, 0)]) (eJ6_bitCount_0f7a4 25 rfl) rfl (Nat.le_of_ble_eq_true rfl) rfl ?_
  refine zr_iload_n (eJ6_bitCount_0f7a4 26 rfl) rfl rfl ?_
  refine zr_iload_n (eJ6_bitCount_0f7a4 27 rfl) rfl rfl ?_
  refine zr_bipush (eJ6_bitCount_0f7a4 28 rfl) zk_bipush_8 ?_
  refine zr_iushr (eJ6_bitCount_0f7a4 29 rfl) ?_
  refine zr_iadd (eJ6_bitCount_0f7a4 30 rfl) ?_
  refine v_leti (fun x24 => ?_)
  refine zr_istore_n (ls2 := [some (.int x24, 0)]) (eJ6_bitCount_0f7a4 31 rfl) rfl (Nat.le_of_ble_eq_true rfl) rfl ?_
  refine zr_iload_n (eJ6_bitCount_0f7a4 32 rfl) rfl rfl ?_
  refine zr_iload_n (eJ6_bitCount_0f7a4 33 rfl) rfl rfl ?_
  refine zr_bipush (eJ6_bitCount_0f7a4 34 rfl) zk_bipush_16 ?_
  refine zr_iushr (eJ6_bitCount_0f7a4 35 rfl) ?_
  refine zr_iadd (eJ6_bitCount_0f7a4 36 rfl) ?_
  refine v_leti (fun x25 => ?_)
  refine zr_istore_n (ls2 := [some (.int x25, 0)]) (eJ6_bitCount_0f7a4 37 rfl) rfl (Nat.le_of_ble_eq_true rfl) rfl ?_
  refine zr_iload_n (eJ6_bitCount_0f7a4 38 rfl) rfl rfl ?_
  refine zr_bipush (eJ6_bitCount_0f7a4 39 rfl) zk_bipush_63 ?_
  refine zr_iand (eJ6_bitCount_0f7a4 40 rfl) ?_
  exact zr_iret rfl rfl (eJ6_bitCount_0f7a4 41 rfl)
def gJ9_floorMod_f86c9 (x0 : Int64) (x2 : Int64) : Option (Int64) :=
  (if (x2 : Int64) = 0 then none else zlt (x0 - x0 / x2 * x2) (fun x21 => (if (0 : Int32) ≤ (lg_cmp (x0 ^^^ x2) 0) then (some x21)
  else (if ((lg_cmp x21 0) : Int32) = 0 then (some x21)
  else (some (x21 + x2))))))
set_option maxRecDepth 20000 in
theorem cJ9_floorMod_f86c9_ok (l : Launch) (h : Zh) (x0 : Int64) (x2 : Int64) : Zc l yJ9_floorMod_f86c9 mJ9_floorMod_f86c9 0 h [(.long x0, 0), (.long x2, 0)] ((gJ9_floorMod_f86c9 x0 x2).map (zoj h)) := by
  refine zc_of2 (ls := [some (.long x0, 0), none, some (.long x2, 0), none, none, none]) (j := 2) (by decide +kernel) rfl rfl (zEn_cj (zEn_cj rfl)) (Nat.le_of_ble_eq_true rfl) rfl ?_
  unfold gJ9_floorMod_f86c9
  refine zr_lload_n (eJ9_floorMod_f86c9 0 rfl) rfl rfl ?_
  refine zr_lload_n (eJ9_floorMod_f86c9 1 rfl) rfl rfl ?_
  refine zr_lrem (eJ9_floorMod_f86c9 2 rfl) ?_
  refine v_letj (fun x21 => ?_)
  refine zr_lstore (ls2 := [some (.long x0, 0), none, some (.long x2, 0), none, some (.long x21, 0), none]) (eJ9_floorMod_f86c9 3 rfl) (Nat.le_of_ble_eq_true rfl) rfl ?_
  refine zr_lload_n (eJ9_floorMod_f86c9 4 rfl) rfl rfl ?_
  refine zr_lload_n (eJ9_floorMod_f86c9 5 rfl) rfl rfl ?_
  refine zr_lxor (eJ9_floorMod_f86c9 6 rfl) ?_
  refine zr_lconst (eJ9_floorMod_f86c9 7 rfl) zk_lconst_0 ?_
  refine zr_lcmp (eJ9_floorMod_f86c9 8 rfl) ?_
  refine zr_if_ge (eJ9_floorMod_f86c9 9 rfl) (t := 25) (by decide) ?_ ?_
  · refine zr_lload (eJ9_floorMod_f86c9 18 rfl) rfl ?_
    exact zr_lret rfl rfl (eJ9_floorMod_f86c9 19 rfl)
  · refine zr_lload (eJ9_floorMod_f86c9 10 rfl) rfl ?_
    refine zr_lconst (eJ9_floorMod_f86c9 11 rfl) zk_lconst_0 ?_
    refine zr_lcmp (eJ9_floorMod_f86c9 12 rfl) ?_
    refine zr_if_eq (eJ9_floorMod_f86c9 13 rfl) (t := 25) (by decide) ?_ ?_
    · refine zr_lload (eJ9_floorMod_f86c9 18 rfl) rfl ?_
      exact zr_lret rfl rfl (eJ9_floorMod_f86c9 19 rfl)
    · refine zr_lload (eJ9_floorMod_f86c9 14 rfl) rfl ?_
      refine zr_lload_n (eJ9_floorMod_f86c9 15 rfl) rfl rfl ?_
      refine zr_ladd (eJ9_floorMod_f86c9 16 rfl) ?_
      exact zr_lret rfl rfl (eJ9_floorMod_f86c9 17 rfl)
def gJ7_fill_d0a16_L1 (x1 : Int64) (a21 : Nat) (x22 : Int32) : (Int32 → Zh → Option (Zh)) → Int32 → Zh → Option (Zh) :=
  fun (k24 : Int32 → Zh → Option (Zh)) (x23 : Int32) (h1 : Zh) => (if (x22 : Int32) ≤ x23 then some h1
  else zg (zin x23 (zL h1 a21)) (zlt (zsJ h1 a21 (zx x23) x1) (fun (h2 : Zh) => k24 (x23 + 1) h2)))
def gJ7_fill_d0a16 (h : Zh) (r0 : Option Nat) (x1 : Int64) : Option (Zh) :=
  Option.bind r0 (fun a21 => zlt (Int32.ofNat (zL h a21)) (fun x22 => zlp (fun (_ : Int32) (_ : Zh) => (none : Option (Zh))) (gJ7_fill_d0a16_L1 x1 a21 x22) zFU 0 h))
set_option maxRecDepth 20000 in
theorem cJ7_fill_d0a16_ok (l : Launch) (h : Zh) (r0 : Option Nat) (x1 : Int64) : Zc l yJ7_fill_d0a16 mJ7_fill_d0a16 0 h [(va_rf r0, 21), (.long x1, 0)] ((gJ7_fill_d0a16 h r0 x1).map zoV) := by
  refine zc_of2 (ls := [some (va_rf r0, 21), some (.long x1, 0), none, none, none]) (j := 2) (by decide +kernel) rfl rfl (zEn_cr (zEn_cj rfl)) (Nat.le_of_ble_eq_true rfl) rfl ?_
  unfold gJ7_fill_d0a16
  refine zr_iconst (eJ7_fill_d0a16 0 rfl) zk_iconst_0 ?_
  refine zr_istore_n (ls2 := [some (va_rf r0, 21), some (.long x1, 0), none, some (.int 0, 0), none]) (eJ7_fill_d0a16 1 rfl) rfl (Nat.le_of_ble_eq_true rfl) rfl ?_
  refine zr_aload_n (r := r0) (eJ7_fill_d0a16 2 rfl) rfl rfl ?_
  refine v_nn (fun a21 ea21 => ?_)
  subst ea21
  refine zr_alen (by decide) (eJ7_fill_d0a16 3 rfl) ?_
  refine v_leti (fun x22 => ?_)
  refine zr_istore (ls2 := [some (.ref a21, 21), some (.long x1, 0), none, some (.int 0, 0), some (.int x22, 0)]) (eJ7_fill_d0a16 4 rfl) (Nat.le_of_ble_eq_true rfl) rfl ?_
  refine v_drop [true, true, false, true, true] rfl ?_
  refine zlp_ind (fun (k24 : Int32 → Zh → Option (Zh)) => ∀ (x23 : Int32) (h1 : Zh), V l mJ7_fill_d0a16 (zN h) (zS h) 0 zoV 6 [some (.ref a21, 21), some (.long x1, 0), none, some (.int x23, 0), some (.int x22, 0)] [] h1 (k24 x23 h1)) ?_ ?_ 0 h
  · exact fun _ _ => v_none
  intro k24 hk24 x23 h1
  unfold gJ7_fill_d0a16_L1
  refine zr_iload_n (eJ7_fill_d0a16 5 rfl) rfl rfl ?_
  refine zr_iload (eJ7_fill_d0a16 6 rfl) rfl ?_
  refine zr_icmp_ge (eJ7_fill_d0a16 7 rfl) (t := 22) (by decide) ?_ ?_
  · exact zr_vret rfl rfl (eJ7_fill_d0a16 14 rfl)
  · refine zr_aload_n (r := (some a21)) (eJ7_fill_d0a16 8 rfl) rfl rfl ?_
    refine zr_iload_n (eJ7_fill_d0a16 9 rfl) rfl rfl ?_
    refine zr_lload_n (eJ7_fill_d0a16 10 rfl) rfl rfl ?_
    refine zr_last (eJ7_fill_d0a16 11 rfl) ?_
    refine v_leth (fun h2 => ?_)
    refine zr_iinc (ls2 := [some (.ref a21, 21), some (.long x1, 0), none, some (.int (x23 + 1), 0), some (.int x22, 0)]) (eJ7_fill_d0a16 12 rfl) rfl (Nat.le_of_ble_eq_true rfl) zk_iconst_1 rfl ?_
    refine zr_goto (eJ7_fill_d0a16 13 rfl) (t := 6) (by decide) ?_
    exact v_drop [true, true, false, true, true] rfl (hk24 (x23 + 1) h2)
def gJ9_abs_067f4 (x0 : Int64) : Option (Int64) :=
  (if (0 : Int32) ≤ (lg_cmp x0 0) then (some x0)
  else (some (-x0)))
set_option maxRecDepth 20000 in
theorem cJ9_abs_067f4_ok (l : Launch) (h : Zh) (x0 : Int64) : Zc l yJ9_abs_067f4 mJ9_abs_067f4 0 h [(.long x0, 0)] ((gJ9_abs_067f4 x0).map (zoj h)) := by
  refine zc_of2 (ls := [some (.long x0, 0), none]) (j := 0) (by decide +kernel) rfl rfl (zEn_cj rfl) (Nat.le_of_ble_eq_true rfl) rfl ?_
  unfold gJ9_abs_067f4
  refine zr_lload_n (eJ9_abs_067f4 0 rfl) rfl rfl ?_
  refine zr_lconst (eJ9_abs_067f4 1 rfl) zk_lconst_0 ?_
  refine zr_lcmp (eJ9_abs_067f4 2 rfl) ?_
  refine zr_if_ge (eJ9_abs_067f4 3 rfl) (t := 11) (by decide) ?_ ?_
  · refine zr_lload_n (eJ9_abs_067f4 7 rfl) rfl rfl ?_
    exact zr_lret rfl rfl (eJ9_abs_067f4 8 rfl)
  · refine zr_lload_n (eJ9_abs_067f4 4 rfl) rfl rfl ?_
    refine zr_lneg (eJ9_abs_067f4 5 rfl) ?_
    refine zr_goto (eJ9_abs_067f4 6 rfl) (t := 12) (by decide) ?_
    exact zr_lret rfl rfl (eJ9_abs_067f4 8 rfl)
def gJ9_min_7cf53 (x0 : Int32) (x1 : Int32) : Option (Int32) :=
  (if (x1 : Int32) < x0 then (some x1)
  else (some x0))
set_option maxRecDepth 20000 in
theorem cJ9_min_7cf53_ok (l : Launch) (h : Zh) (x0 : Int32) (x1 : Int32) : Zc l yJ9_min_7cf53 mJ9_min_7cf53 0 h [(.int x0, 0), (.int x1, 0)] ((gJ9_min_7cf53 x0 x1).map (zoi h)) := by
  refine zc_of2 (ls := [some (.int x0, 0), some (.int x1, 0)]) (j := 0) (by decide +kernel) rfl rfl (zEn_ci (zEn_ci rfl)) (Nat.le_of_ble_eq_true rfl) rfl ?_
  unfold gJ9_min_7cf53
  refine zr_iload_n (eJ9_min_7cf53 0 rfl) rfl rfl ?_
  refine zr_iload_n (eJ9_min_7cf53 1 rfl) rfl rfl ?_
  refine zr_icmp_gt (eJ9_min_7cf53 2 rfl) (t := 9) (by decide) ?_ ?_
  · refine zr_iload_n (eJ9_min_7cf53 5 rfl) rfl rfl ?_
    exact zr_iret rfl rfl (eJ9_min_7cf53 6 rfl)
  · refine zr_iload_n (eJ9_min_7cf53 3 rfl) rfl rfl ?_
    refine zr_goto (eJ9_min_7cf53 4 rfl) (t := 10) (by decide) ?_
    exact zr_iret rfl rfl (eJ9_min_7cf53 6 rfl)
def gJ7_copyOf_59c91 (h : Zh) (r0 : Option Nat) (x1 : Int32) : Option (Option Nat × Zh) :=
  Option.bind r0 (fun a21 => (if (x1 : Int32) = (Int32.ofNat (zL h a21)) then zlt (zN h) (fun a24 => zlt (zcI (zA h 20 (zL h a21)) a21 0 (zN h) 0 (zL h a21)) (fun (h3 : Zh) => (some ((some a24), h3))))
  else zg (zok x1) (zlt (zN h) (fun a22 => zlt (zA h 20 (zx x1)) (fun (h1 : Zh) => zbi (gJ9_min_7cf53 (Int32.ofNat (zL h1 a21)) x1) (fun x23 => zg (zcp h1 a21 0 a22 0 x23) (zlt (zcI h1 a21 (zx 0) a22 (zx 0) (zx x23)) (fun (h2 : Zh) => (some ((some a22), h2))))))))))
set_option maxRecDepth 20000 in
theorem cJ7_copyOf_59c91_ok (l : Launch) (h : Zh) (r0 : Option Nat) (x1 : Int32) : Zc l yJ7_copyOf_59c91 mJ7_copyOf_59c91 20 h [(va_rf r0, 20), (.int x1, 0)] ((gJ7_copyOf_59c91 h r0 x1).map zoR) := by
  refine zc_of2 (ls := [some (va_rf r0, 20), some (.int x1, 0), none]) (j := 1) (by decide +kernel) rfl rfl (zEn_cr (zEn_ci rfl)) (Nat.le_of_ble_eq_true rfl) rfl ?_
  unfold gJ7_copyOf_59c91
  refine zr_iload_n (eJ7_copyOf_59c91 0 rfl) rfl rfl ?_
  refine zr_aload_n (r := r0) (eJ7_copyOf_59c91 1 rfl) rfl rfl ?_
  refine v_nn (fun a21 ea21 => ?_)
  subst ea21
  refine zr_alen (by decide) (eJ7_copyOf_59c91 2 rfl) ?_
  refine zr_icmp_ne (eJ7_copyOf_59c91 3 rfl) (t := 14) (by decide) ?_ ?_
  · refine zr_iload_n (eJ7_copyOf_59c91 8 rfl) rfl rfl ?_
    refine zr_newi zw_154 (eJ7_copyOf_59c91 9 rfl) ?_
    refine zr_leta (fun a22 => ?_)
    refine v_leth (fun h1 => ?_)
    refine zr_astore_n (r := (some a22)) (ls2 := [some (.ref a21, 20), some (.int x1, 0), some (.ref a22, 20)]) (eJ7_copyOf_59c91 10 rfl) rfl (Nat.le_of_ble_eq_true rfl) rfl ?_
    refine zr_aload_n (r := (some a21)) (eJ7_copyOf_59c91 11 rfl) rfl rfl ?_
    refine zr_iconst (eJ7_copyOf_59c91 12 rfl) zk_iconst_0 ?_
    refine zr_aload_n (r := (some a22)) (eJ7_copyOf_59c91 13 rfl) rfl rfl ?_
    refine zr_iconst (eJ7_copyOf_59c91 14 rfl) zk_iconst_0 ?_
    refine zr_aload_n (r := (some a21)) (eJ7_copyOf_59c91 15 rfl) rfl rfl ?_
    refine zr_alen (by decide) (eJ7_copyOf_59c91 16 rfl) ?_
    refine zr_iload_n (eJ7_copyOf_59c91 17 rfl) rfl rfl ?_
    refine zr_invS_i (as := [(.int (Int32.ofNat (zL h1 a21)), 0), (.int x1, 0)]) (cJ9_min_7cf53_ok l h1 (Int32.ofNat (zL h1 a21)) x1) rfl zcd_J9_min_7cf53 ⟨zw_844, zw_831, zw_67⟩ ⟨Nat.le_of_ble_eq_true rfl, Nat.le_of_ble_eq_true rfl⟩ rfl (Nat.le_of_ble_eq_true rfl) (eJ7_copyOf_59c91 18 rfl) (fun x23 => ?_)
    refine zr_copyI (e' := 0) (f := 0) zac_RJ7_150 ⟨Nat.le_of_ble_eq_true rfl, zRnat rfl⟩ (Nat.le_of_ble_eq_true rfl) (eJ7_copyOf_59c91 19 rfl) ?_
    refine v_leth (fun h2 => ?_)
    refine zr_aload_n (r := (some a22)) (eJ7_copyOf_59c91 20 rfl) rfl rfl ?_
    exact zr_aret (r := (some a22)) rfl rfl (Or.inr ⟨_, rfl⟩) (eJ7_copyOf_59c91 21 rfl)
  · refine zr_aload_n (r := (some a21)) (eJ7_copyOf_59c91 4 rfl) rfl rfl ?_
    refine zr_clone ⟨zw_837, zw_838, zw_839, zw_840, zw_841⟩ ⟨Nat.le_of_ble_eq_true rfl, Nat.le_of_ble_eq_true rfl⟩ (Nat.le_of_ble_eq_true rfl) (eJ7_copyOf_59c91 5 rfl) ?_
    refine zr_leta (fun a24 => ?_)
    refine v_leth (fun h3 => ?_)
    refine zr_castI zw_843 (eJ7_copyOf_59c91 6 rfl) ?_
    exact zr_aret (r := (some a24)) rfl rfl (Or.inr ⟨_, rfl⟩) (eJ7_copyOf_59c91 7 rfl)
def gJ7_fill_53178_L1 (x1 : Int32) (a21 : Nat) (x22 : Int32) : (Int32 → Zh → Option (Zh)) → Int32 → Zh → Option (Zh) :=
  fun (k24 : Int32 → Zh → Option (Zh)) (x23 : Int32) (h1 : Zh) => (if (x22 : Int32) ≤ x23 then some h1
  else zg (zin x23 (zL h1 a21)) (zlt (zsI h1 a21 (zx x23) x1) (fun (h2 : Zh) => k24 (x23 + 1) h2)))
def gJ7_fill_53178 (h : Zh) (r0 : Option Nat) (x1 : Int32) : Option (Zh) :=
  Option.bind r0 (fun a21 => zlt (Int32.ofNat (zL h a21)) (fun x22 => zlp (fun (_ : Int32) (_ : Zh) => (none : Option (Zh))) (gJ7_fill_53178_L1 x1 a21 x22) zFU 0 h))
set_option maxRecDepth 20000 in
theorem cJ7_fill_53178_ok (l : Launch) (h : Zh) (r0 : Option Nat) (x1 : Int32) : Zc l yJ7_fill_53178 mJ7_fill_53178 0 h [(va_rf r0, 20), (.int x1, 0)] ((gJ7_fill_53178 h r0 x1).map zoV) := by
  refine zc_of2 (ls := [some (va_rf r0, 20), some (.int x1, 0), none, none]) (j := 2) (by decide +kernel) rfl rfl (zEn_cr (zEn_ci rfl)) (Nat.le_of_ble_eq_true rfl) rfl ?_
  unfold gJ7_fill_53178
  refine zr_iconst (eJ7_fill_53178 0 rfl) zk_iconst_0 ?_
  refine zr_istore_n (ls2 := [some (va_rf r0, 20), some (.int x1, 0), some (.int 0, 0), none]) (eJ7_fill_53178 1 rfl) rfl (Nat.le_of_ble_eq_true rfl) rfl ?_
  refine zr_aload_n (r := r0) (eJ7_fill_53178 2 rfl) rfl rfl ?_
  refine v_nn (fun a21 ea21 => ?_)
  subst ea21
  refine zr_alen (by decide) (eJ7_fill_53178 3 rfl) ?_
  refine v_leti (fun x22 => ?_)
  refine zr_istore_n (ls2 := [some (.ref a21, 20), some (.int x1, 0), some (.int 0, 0), some (.int x22, 0)]) (eJ7_fill_53178 4 rfl) rfl (Nat.le_of_ble_eq_true rfl) rfl ?_
  refine v_drop [true, true, true, true] rfl ?_
  refine zlp_ind (fun (k24 : Int32 → Zh → Option (Zh)) => ∀ (x23 : Int32) (h1 : Zh), V l mJ7_fill_53178 (zN h) (zS h) 0 zoV 5 [some (.ref a21, 20), some (.int x1, 0), some (.int x23, 0), some (.int x22, 0)] [] h1 (k24 x23 h1)) ?_ ?_ 0 h
  · exact fun _ _ => v_none
  intro k24 hk24 x23 h1
  unfold gJ7_fill_53178_L1
  refine zr_iload_n (eJ7_fill_53178 5 rfl) rfl rfl ?_
  refine zr_iload_n (eJ7_fill_53178 6 rfl) rfl rfl ?_
  refine zr_icmp_ge (eJ7_fill_53178 7 rfl) (t := 20) (by decide) ?_ ?_
  · exact zr_vret rfl rfl (eJ7_fill_53178 14 rfl)
  · refine zr_aload_n (r := (some a21)) (eJ7_fill_53178 8 rfl) rfl rfl ?_
    refine zr_iload_n (eJ7_fill_53178 9 rfl) rfl rfl ?_
    refine zr_iload_n (eJ7_fill_53178 10 rfl) rfl rfl ?_
    refine zr_iast (eJ7_fill_53178 11 rfl) ?_
    refine v_leth (fun h2 => ?_)
    refine zr_iinc (ls2 := [some (.ref a21, 20), some (.int x1, 0), some (.int (x23 + 1), 0), some (.int x22, 0)]) (eJ7_fill_53178 12 rfl) rfl (Nat.le_of_ble_eq_true rfl) zk_iconst_1 rfl ?_
    refine zr_goto (eJ7_fill_53178 13 rfl) (t := 5) (by decide) ?_
    exact v_drop [true, true, true, true] rfl (hk24 (x23 + 1) h2)
def gX12_keepSnap_J1 (a0 : Nat) : Zh → Option (Zh) :=
  fun (h5 : Zh) => zlt (zsI h5 a0 36 ((zI h5 a0 37) + 1)) (fun (h6 : Zh) => some h6)
def gX12_keepSnap_J2 (x32 : Int32) (k33 : Int32 → Zh → Option (Zh)) : Zh → Option (Zh) :=
  fun (h9 : Zh) => k33 (x32 + 1) h9
def gX12_keepSnap_L3 (a0 : Nat) (x21 : Int32) (x32 : Int32) (k38 : Zh → Option (Zh)) : (Int32 → Zh → Option (Zh)) → Int32 → Zh → Option (Zh) :=
  fun (k40 : Int32 → Zh → Option (Zh)) (x39 : Int32) (h10 : Zh) => (if (60 : Int32) ≤ x39 then k38 h10
  else zlt (((x21 + 8) + (180 * x32)) + (3 * x39)) (fun x41 => zlt (zR h10 a0 35) (fun r42 => zlt (zR h10 a0 30) (fun r43 => Option.bind r43 (fun a44 => zg (zin ((60 * x32) + x39) (zL h10 a44)) (Option.bind r42 (fun a45 => zg (zin x41 (zL h10 a45)) (zlt (zsI h10 a45 (zx x41) (zI h10 a44 (zx ((60 * x32) + x39)))) (fun (h11 : Zh) => zlt (zR h11 a0 35) (fun r46 => zlt (zR h11 a0 31) (fun r47 => Option.bind r47 (fun a48 => zg (zin ((60 * x32) + x39) (zL h11 a48)) (Option.bind r46 (fun a49 => zg (zin (x41 + 1) (zL h11 a49)) (zlt (zsI h11 a49 (zx (x41 + 1)) (zI h11 a48 (zx ((60 * x32) + x39)))) (fun (h12 : Zh) => zlt (zR h12 a0 35) (fun r50 => zlt (zR h12 a0 32) (fun r51 => Option.bind r51 (fun a52 => zg (zin ((60 * x32) + x39) (zL h12 a52)) (Option.bind r50 (fun a53 => zg (zin (x41 + 2) (zL h12 a53)) (zlt (zsI h12 a53 (zx (x41 + 2)) (zI h12 a52 (zx ((60 * x32) + x39)))) (fun (h13 : Zh) => k40 (x39 + 1) h13)))))))))))))))))))))))
def gX12_keepSnap_L4 (a0 : Nat) (x21 : Int32) (k31 : Zh → Option (Zh)) : (Int32 → Zh → Option (Zh)) → Int32 → Zh → Option (Zh) :=
  fun (k33 : Int32 → Zh → Option (Zh)) (x32 : Int32) (h7 : Zh) => (if (4 : Int32) ≤ x32 then k31 h7
  else zlt (zR h7 a0 35) (fun r34 => zlt (zR h7 a0 29) (fun r35 => Option.bind r35 (fun a36 => zg (zin x32 (zL h7 a36)) (Option.bind r34 (fun a37 => zg (zin ((x21 + 4) + x32) (zL h7 a37)) (zlt (zsI h7 a37 (zx ((x21 + 4) + x32)) (zI h7 a36 (zx x32))) (fun (h8 : Zh) => zjn (gX12_keepSnap_J2 x32 k33) (fun (k38 : Zh → Option (Zh)) =>
  zlp (fun (_ : Int32) (_ : Zh) => (none : Option (Zh))) (gX12_keepSnap_L3 a0 x21 x32 k38) zFU 0 h8)))))))))
def gX12_keepSnap_J5 (a0 : Nat) (x21 : Int32) (h1 : Zh) (r24 : Option Nat) : Int32 → Option (Zh) :=
  fun (x25 : Int32) => Option.bind r24 (fun a26 => zg (zin (x21 + 1) (zL h1 a26)) (zlt (zsI h1 a26 (zx (x21 + 1)) x25) (fun (h2 : Zh) => zlt (zR h2 a0 35) (fun r27 => Option.bind r27 (fun a28 => zg (zin (x21 + 2) (zL h2 a28)) (zlt (zsI h2 a28 (zx (x21 + 2)) (zI h2 a0 3)) (fun (h3 : Zh) => zlt (zR h3 a0 35) (fun r29 => Option.bind r29 (fun a30 => zg (zin (x21 + 3) (zL h3 a30)) (zlt (zsI h3 a30 (zx (x21 + 3)) (zI h3 a0 4)) (fun (h4 : Zh) => zjn (gX12_keepSnap_J1 a0) (fun (k31 : Zh → Option (Zh)) =>
  zlp (fun (_ : Int32) (_ : Zh) => (none : Option (Zh))) (gX12_keepSnap_L4 a0 x21 k31) zFU 0 h4))))))))))))
def gX12_keepSnap (h : Zh) (a0 : Nat) : Option (Zh) :=
  zlt (728 * (zI h a0 37)) (fun x21 => zlt (zR h a0 35) (fun r22 => Option.bind r22 (fun a23 => zg (zin x21 (zL h a23)) (zlt (zsI h a23 (zx x21) (zI h a0 1)) (fun (h1 : Zh) => zlt (zR h1 a0 35) (fun r24 => zjn (gX12_keepSnap_J5 a0 x21 h1 r24) (fun (k54 : Int32 → Option (Zh)) =>
  (if ((zI h1 a0 2) : Int32) = 0 then k54 0
  else k54 1))))))))
set_option maxRecDepth 20000 in
theorem cX12_keepSnap_ok (l : Launch) (h : Zh) (a0 : Nat) : Zc l yX12_keepSnap mX12_keepSnap 0 h [(.ref a0, 12)] ((gX12_keepSnap h a0).map zoV) := by
  refine zc_of2 (ls := [some (.ref a0, 12), none, none, none, none]) (j := 4) (by decide +kernel) rfl rfl (zEn_ca rfl) (Nat.le_of_ble_eq_true rfl) rfl ?_
  unfold gX12_keepSnap
  refine zr_sipush (eX12_keepSnap 0 rfl) zk_sipush_728 ?_
  refine zr_aload_n (r := (some a0)) (eX12_keepSnap 1 rfl) rfl rfl ?_
  refine zr_getI zf_RX12_348 ⟨by decide, by decide⟩ (eX12_keepSnap 2 rfl) ?_
  refine zr_imul (eX12_keepSnap 3 rfl) ?_
  refine v_leti (fun x21 => ?_)
  refine zr_istore_n (ls2 := [some (.ref a0, 12), some (.int x21, 0), none, none, none]) (eX12_keepSnap 4 rfl) rfl (Nat.le_of_ble_eq_true rfl) rfl ?_
  refine zr_aload_n (r := (some a0)) (eX12_keepSnap 5 rfl) rfl rfl ?_
  refine zr_getR2 zf_RX12_96 (τ2 := 20) rfl (eX12_keepSnap 6 rfl) ?_
  refine v_letr (fun r22 => ?_)
  refine zr_iload_n (eX12_keepSnap 7 rfl) rfl rfl ?_
  refine zr_aload_n (r := (some a0)) (eX12_keepSnap 8 rfl) rfl rfl ?_
  refine zr_getI zf_RX12_111 ⟨by decide, by decide⟩ (eX12_keepSnap 9 rfl) ?_
  refine v_nn (fun a23 ea23 => ?_)
  subst ea23
  refine zr_iast (eX12_keepSnap 10 rfl) ?_
  refine v_leth (fun h1 => ?_)
  refine zr_aload_n (r := (some a0)) (eX12_keepSnap 11 rfl) rfl rfl ?_
  refine zr_getR2 zf_RX12_96 (τ2 := 20) rfl (eX12_keepSnap 12 rfl) ?_
  refine v_letr (fun r24 => ?_)
  refine zr_iload_n (eX12_keepSnap 13 rfl) rfl rfl ?_
  refine zr_iconst (eX12_keepSnap 14 rfl) zk_iconst_1 ?_
  refine zr_iadd (eX12_keepSnap 15 rfl) ?_
  refine zr_aload_n (r := (some a0)) (eX12_keepSnap 16 rfl) rfl rfl ?_
  refine zr_getI zf_RX12_115 ⟨by decide, by decide⟩ (eX12_keepSnap 17 rfl) ?_
  refine v_jn (fun (k54 : Int32 → Option (Zh)) => ∀ (x25 : Int32), V l mX12_keepSnap (zN h) (zS h) 0 zoV 38 [some (.ref a0, 12), some (.int x21, 0), none, none, none] [(.int x25, 0), (.int (x21 + 1), 0), (va_rf r24, 20)] h1 (k54 x25)) ?_ ?_
  · intro x25
    unfold gX12_keepSnap_J5
    refine v_nn (fun a26 ea26 => ?_)
    subst ea26
    refine zr_iast (eX12_keepSnap 22 rfl) ?_
    refine v_leth (fun h2 => ?_)
    refine zr_aload_n (r := (some a0)) (eX12_keepSnap 23 rfl) rfl rfl ?_
    refine zr_getR2 zf_RX12_96 (τ2 := 20) rfl (eX12_keepSnap 24 rfl) ?_
    refine v_letr (fun r27 => ?_)
    refine zr_iload_n (eX12_keepSnap 25 rfl) rfl rfl ?_
    refine zr_iconst (eX12_keepSnap 26 rfl) zk_iconst_2 ?_
    refine zr_iadd (eX12_keepSnap 27 rfl) ?_
    refine zr_aload_n (r := (some a0)) (eX12_keepSnap 28 rfl) rfl rfl ?_
    refine zr_getI zf_RX12_119 ⟨by decide, by decide⟩ (eX12_keepSnap 29 rfl) ?_
    refine v_nn (fun a28 ea28 => ?_)
    subst ea28
    refine zr_iast (eX12_keepSnap 30 rfl) ?_
    refine v_leth (fun h3 => ?_)
    refine zr_aload_n (r := (some a0)) (eX12_keepSnap 31 rfl) rfl rfl ?_
    refine zr_getR2 zf_RX12_96 (τ2 := 20) rfl (eX12_keepSnap 32 rfl) ?_
    refine v_letr (fun r29 => ?_)
    refine zr_iload_n (eX12_keepSnap 33 rfl) rfl rfl ?_
    refine zr_iconst (eX12_keepSnap 34 rfl) zk_iconst_3 ?_
    refine zr_iadd (eX12_keepSnap 35 rfl) ?_
    refine zr_aload_n (r := (some a0)) (eX12_keepSnap 36 rfl) rfl rfl ?_
    refine zr_getI zf_RX12_122 ⟨by decide, by decide⟩ (eX12_keepSnap 37 rfl) ?_
    refine v_nn (fun a30 ea30 => ?_)
    subst ea30
    refine zr_iast (eX12_keepSnap 38 rfl) ?_
    refine v_leth (fun h4 => ?_)
    refine zr_iconst (eX12_keepSnap 39 rfl) zk_iconst_0 ?_
    refine zr_istore_n (ls2 := [some (.ref a0, 12), some (.int x21, 0), some (.int 0, 0), none, none]) (eX12_keepSnap 40 rfl) rfl (Nat.le_of_ble_eq_true rfl) rfl ?_
    refine v_jn (fun (k31 : Zh → Option (Zh)) => ∀ (h5 : Zh), V l mX12_keepSnap (zN h) (zS h) 0 zoV 180 [some (.ref a0, 12), none, none, none, none] [] h5 (k31 h5)) ?_ ?_
    · intro h5
      unfold gX12_keepSnap_J1
      refine zr_aload_n (r := (some a0)) (eX12_keepSnap 117 rfl) rfl rfl ?_
      refine zr_aload_n (r := (some a0)) (eX12_keepSnap 118 rfl) rfl rfl ?_
      refine zr_getI zf_RX12_348 ⟨by decide, by decide⟩ (eX12_keepSnap 119 rfl) ?_
      refine zr_iconst (eX12_keepSnap 120 rfl) zk_iconst_1 ?_
      refine zr_iadd (eX12_keepSnap 121 rfl) ?_
      refine zr_putI zf_RX12_351 rfl (Or.inl rfl) (eX12_keepSnap 122 rfl) ?_
      refine v_leth (fun h6 => ?_)
      exact zr_vret rfl rfl (eX12_keepSnap 123 rfl)
    intro k31 hk31
    refine v_drop [true, true, true, false, false] rfl ?_
    refine zlp_ind (fun (k33 : Int32 → Zh → Option (Zh)) => ∀ (x32 : Int32) (h7 : Zh), V l mX12_keepSnap (zN h) (zS h) 0 zoV 65 [some (.ref a0, 12), some (.int x21, 0), some (.int x32, 0), none, none] [] h7 (k33 x32 h7)) ?_ ?_ 0 h4
    · exact fun _ _ => v_none
    intro k33 hk33 x32 h7
    unfold gX12_keepSnap_L4
    refine zr_iload_n (eX12_keepSnap 41 rfl) rfl rfl ?_
    refine zr_iconst (eX12_keepSnap 42 rfl) zk_iconst_4 ?_
    refine zr_icmp_ge (eX12_keepSnap 43 rfl) (t := 180) (by decide) ?_ ?_
    · exact v_drop [true, false, false, false, false] rfl (hk31 h7)
    · refine zr_aload_n (r := (some a0)) (eX12_keepSnap 44 rfl) rfl rfl ?_
      refine zr_getR2 zf_RX12_96 (τ2 := 20) rfl (eX12_keepSnap 45 rfl) ?_
      refine v_letr (fun r34 => ?_)
      refine zr_iload_n (eX12_keepSnap 46 rfl) rfl rfl ?_
      refine zr_iconst (eX12_keepSnap 47 rfl) zk_iconst_4 ?_
      refine zr_iadd (eX12_keepSnap 48 rfl) ?_
      refine zr_iload_n (eX12_keepSnap 49 rfl) rfl rfl ?_
      refine zr_iadd (eX12_keepSnap 50 rfl) ?_
      refine zr_aload_n (r := (some a0)) (eX12_keepSnap 51 rfl) rfl rfl ?_
      refine zr_getR2 zf_RX12_77 (τ2 := 20) rfl (eX12_keepSnap 52 rfl) ?_
      refine v_letr (fun r35 => ?_)
      refine zr_iload_n (eX12_keepSnap 53 rfl) rfl rfl ?_
      refine v_nn (fun a36 ea36 => ?_)
      subst ea36
      refine zr_iald (eX12_keepSnap 54 rfl) ?_
      refine v_nn (fun a37 ea37 => ?_)
      subst ea37
      refine zr_iast (eX12_keepSnap 55 rfl) ?_
      refine v_leth (fun h8 => ?_)
      refine zr_iconst (eX12_keepSnap 56 rfl) zk_iconst_0 ?_
      refine zr_istore_n (ls2 := [some (.ref a0, 12), some (.int x21, 0), some (.int x32, 0), some (.int 0, 0), none]) (eX12_keepSnap 57 rfl) rfl (Nat.le_of_ble_eq_true rfl) rfl ?_
      refine v_jn (fun (k38 : Zh → Option (Zh)) => ∀ (h9 : Zh), V l mX12_keepSnap (zN h) (zS h) 0 zoV 174 [some (.ref a0, 12), some (.int x21, 0), some (.int x32, 0), none, none] [] h9 (k38 h9)) ?_ ?_
      · intro h9
        unfold gX12_keepSnap_J2
        refine zr_iinc (ls2 := [some (.ref a0, 12), some (.int x21, 0), some (.int (x32 + 1), 0), none, none]) (eX12_keepSnap 115 rfl) rfl (Nat.le_of_ble_eq_true rfl) zk_iconst_1 rfl ?_
        refine zr_goto (eX12_keepSnap 116 rfl) (t := 65) (by decide) ?_
        exact v_drop [true, true, true, false, false] rfl (hk33 (x32 + 1) h9)
      intro k38 hk38
      refine v_drop [true, true, true, true, false] rfl ?_
      refine zlp_ind (fun (k40 : Int32 → Zh → Option (Zh)) => ∀ (x39 : Int32) (h10 : Zh), V l mX12_keepSnap (zN h) (zS h) 0 zoV 88 [some (.ref a0, 12), some (.int x21, 0), some (.int x32, 0), some (.int x39, 0), none] [] h10 (k40 x39 h10)) ?_ ?_ 0 h8
      · exact fun _ _ => v_none
      intro k40 hk40 x39 h10
      unfold gX12_keepSnap_L3
      refine zr_iload_n (eX12_keepSnap 58 rfl) rfl rfl ?_
      refine zr_bipush (eX12_keepSnap 59 rfl) zk_bipush_60 ?_
      refine zr_icmp_ge (eX12_keepSnap 60 rfl) (t := 174) (by decide) ?_ ?_
      · exact v_drop [true, true, true, false, false] rfl (hk38 h10)
      · refine zr_iload_n (eX12_keepSnap 61 rfl) rfl rfl ?_
        refine zr_bipush (eX12_keepSnap 62 rfl) zk_bipush_8 ?_
        refine zr_iadd (eX12_keepSnap 63 rfl) ?_
        refine zr_sipush (eX12_keepSnap 64 rfl) zk_sipush_180 ?_
        refine zr_iload_n (eX12_keepSnap 65 rfl) rfl rfl ?_
        refine zr_imul (eX12_keepSnap 66 rfl) ?_
        refine zr_iadd (eX12_keepSnap 67 rfl) ?_
        refine zr_iconst (eX12_keepSnap 68 rfl) zk_iconst_3 ?_
        refine zr_iload_n (eX12_keepSnap 69 rfl) rfl rfl ?_
        refine zr_imul (eX12_keepSnap 70 rfl) ?_
        refine zr_iadd (eX12_keepSnap 71 rfl) ?_
        refine v_leti (fun x41 => ?_)
        refine zr_istore (ls2 := [some (.ref a0, 12), some (.int x21, 0), some (.int x32, 0), some (.int x39, 0), some (.int x41, 0)]) (eX12_keepSnap 72 rfl) (Nat.le_of_ble_eq_true rfl) rfl ?_
        refine zr_aload_n (r := (some a0)) (eX12_keepSnap 73 rfl) rfl rfl ?_
        refine zr_getR2 zf_RX12_96 (τ2 := 20) rfl (eX12_keepSnap 74 rfl) ?_
        refine v_letr (fun r42 => ?_)
        refine zr_iload (eX12_keepSnap 75 rfl) rfl ?_
        refine zr_aload_n (r := (some a0)) (eX12_keepSnap 76 rfl) rfl rfl ?_
        refine zr_getR2 zf_RX12_80 (τ2 := 20) rfl (eX12_keepSnap 77 rfl) ?_
        refine v_letr (fun r43 => ?_)
        refine zr_bipush (eX12_keepSnap 78 rfl) zk_bipush_60 ?_
        refine zr_iload_n (eX12_keepSnap 79 rfl) rfl rfl ?_
        refine zr_imul (eX12_keepSnap 80 rfl) ?_
        refine zr_iload_n (eX12_keepSnap 81 rfl) rfl rfl ?_
        refine zr_iadd (eX12_keepSnap 82 rfl) ?_
        refine v_nn (fun a44 ea44 => ?_)
        subst ea44
        refine zr_iald (eX12_keepSnap 83 rfl) ?_
        refine v_nn (fun a45 ea45 => ?_)
        subst ea45
        refine zr_iast (eX12_keepSnap 84 rfl) ?_
        refine v_leth (fun h11 => ?_)
        refine zr_aload_n (r := (some a0)) (eX12_keepSnap 85 rfl) rfl rfl ?_
        refine zr_getR2 zf_RX12_96 (τ2 := 20) rfl (eX12_keepSnap 86 rfl) ?_
        refine v_letr (fun r46 => ?_)
        refine zr_iload (eX12_keepSnap 87 rfl) rfl ?_
        refine zr_iconst (eX12_keepSnap 88 rfl) zk_iconst_1 ?_
        refine zr_iadd (eX12_keepSnap 89 rfl) ?_
        refine zr_aload_n (r := (some a0)) (eX12_keepSnap 90 rfl) rfl rfl ?_
        refine zr_getR2 zf_RX12_83 (τ2 := 20) rfl (eX12_keepSnap 91 rfl) ?_
        refine v_letr (fun r47 => ?_)
        refine zr_bipush (eX12_keepSnap 92 rfl) zk_bipush_60 ?_
        refine zr_iload_n (eX12_keepSnap 93 rfl) rfl rfl ?_
        refine zr_imul (eX12_keepSnap 94 rfl) ?_
        refine zr_iload_n (eX12_keepSnap 95 rfl) rfl rfl ?_
        refine zr_iadd (eX12_keepSnap 96 rfl) ?_
        refine v_nn (fun a48 ea48 => ?_)
        subst ea48
        refine zr_iald (eX12_keepSnap 97 rfl) ?_
        refine v_nn (fun a49 ea49 => ?_)
        subst ea49
        refine zr_iast (eX12_keepSnap 98 rfl) ?_
        refine v_leth (fun h12 => ?_)
        refine zr_aload_n (r := (some a0)) (eX12_keepSnap 99 rfl) rfl rfl ?_
        refine zr_getR2 zf_RX12_96 (τ2 := 20) rfl (eX12_keepSnap 100 rfl) ?_
        refine v_letr (fun r50 => ?_)
        refine zr_iload (eX12_keepSnap 101 rfl) rfl ?_
        refine zr_iconst (eX12_keepSnap 102 rfl) zk_iconst_2 ?_
        refine zr_iadd (eX12_keepSnap 103 rfl) ?_
        refine zr_aload_n (r := (some a0)) (eX12_keepSnap 104 rfl) rfl rfl ?_
        refine zr_getR2 zf_RX12_86 (τ2 := 20) rfl (eX12_keepSnap 105 rfl) ?_
        refine v_letr (fun r51 => ?_)
        refine zr_bipush (eX12_keepSnap 106 rfl) zk_bipush_60 ?_
        refine zr_iload_n (eX12_keepSnap 107 rfl) rfl rfl ?_
        refine zr_imul (eX12_keepSnap 108 rfl) ?_
        refine zr_iload_n (eX12_keepSnap 109 rfl) rfl rfl ?_
        refine zr_iadd (eX12_keepSnap 110 rfl) ?_
        refine v_nn (fun a52 ea52 => ?_)
        subst ea52
        refine zr_iald (eX12_keepSnap 111 rfl) ?_
        refine v_nn (fun a53 ea53 => ?_)
        subst ea53
        refine zr_iast (eX12_keepSnap 112 rfl) ?_
        refine v_leth (fun h13 => ?_)
        refine zr_iinc (ls2 := [some (.ref a0, 12), some (.int x21, 0), some (.int x32, 0), some (.int (x39 + 1), 0), some (.int x41, 0)]) (eX12_keepSnap 113 rfl) rfl (Nat.le_of_ble_eq_true rfl) zk_iconst_1 rfl ?_
        refine zr_goto (eX12_keepSnap 114 rfl) (t := 88) (by decide) ?_
        exact v_drop [true, true, true, true, false] rfl (hk40 (x39 + 1) h13)
  intro k54 hk54
  refine zr_if_eq (eX12_keepSnap 18 rfl) (t := 37) (by decide) ?_ ?_
  · refine zr_iconst (eX12_keepSnap 21 rfl) zk_iconst_0 ?_
    exact v_drop [true, true, false, false, false] rfl (hk54 0)
  · refine zr_iconst (eX12_keepSnap 19 rfl) zk_iconst_1 ?_
    refine zr_goto (eX12_keepSnap 20 rfl) (t := 38) (by decide) ?_
    exact v_drop [true, true, false, false, false] rfl (hk54 1)
def gX12_init_J1 (a0 : Nat) : Zh → Option (Zh) :=
  fun (h71 : Zh) => zbV (gX12_keepSnap h71 a0) (fun h72 => some h72)
def gX12_init_L2 (a0 : Nat) (k54 : Zh → Option (Zh)) : (Int32 → Zh → Option (Zh)) → Int32 → Zh → Option (Zh) :=
  fun (k56 : Int32 → Zh → Option (Zh)) (x55 : Int32) (h73 : Zh) => (if (4 : Int32) ≤ x55 then k54 h73
  else zlt (zR h73 a0 38) (fun r57 => Option.bind r57 (fun a58 => zg (zin x55 (zL h73 a58)) (zlt (zsI h73 a58 (zx x55) (-1)) (fun (h74 : Zh) => k56 (x55 + 1) h74)))))
def gX12_init (h : Zh) (a0 : Nat) : Option (Zh) :=
  zg (zok 256) (zlt (zN h) (fun a21 => zlt (zA h 20 (zx 256)) (fun (h1 : Zh) => zlt (zsR h1 a0 6 (some a21)) (fun (h2 : Zh) => zg (zok 256) (zlt (zN h2) (fun a22 => zlt (zA h2 20 (zx 256)) (fun (h3 : Zh) => zlt (zsR h3 a0 7 (some a22)) (fun (h4 : Zh) => zg (zok 256) (zlt (zN h4) (fun a23 => zlt (zA h4 20 (zx 256)) (fun (h5 : Zh) => zlt (zsR h5 a0 8 (some a23)) (fun (h6 : Zh) => zg (zok 256) (zlt (zN h6) (fun a24 => zlt (zA h6 20 (zx 256)) (fun (h7 : Zh) => zlt (zsR h7 a0 9 (some a24)) (fun (h8 : Zh) => zg (zok 100) (zlt (zN h8) (fun a25 => zlt (zA h8 21 (zx 100)) (fun (h9 : Zh) => zlt (zsR h9 a0 10 (some a25)) (fun (h10 : Zh) => zg (zok 11) (zlt (zN h10) (fun a26 => zlt (zA h10 21 (zx 11)) (fun (h11 : Zh) => zlt (zsR h11 a0 11 (some a26)) (fun (h12 : Zh) => zg (zok 100) (zlt (zN h12) (fun a27 => zlt (zA h12 21 (zx 100)) (fun (h13 : Zh) => zlt (zsR h13 a0 12 (some a27)) (fun (h14 : Zh) => zg (zok 100) (zlt (zN h14) (fun a28 => zlt (zA h14 21 (zx 100)) (fun (h15 : Zh) => zlt (zsR h15 a0 13 (some a28)) (fun (h16 : Zh) => zg (zok 11) (zlt (zN h16) (fun a29 => zlt (zA h16 21 (zx 11)) (fun (h17 : Zh) => zlt (zsR h17 a0 14 (some a29)) (fun (h18 : Zh) => zg (zok 11) (zlt (zN h18) (fun a30 => zlt (zA h18 21 (zx 11)) (fun (h19 : Zh) => zlt (zsR h19 a0 15 (some a30)) (fun (h20 : Zh) => zg (zok 256) (zlt (zN h20) (fun a31 => zlt (zA h20 21 (zx 256)) (fun (h21 : Zh) => zlt (zsR h21 a0 16 (some a31)) (fun (h22 : Zh) => zg (zok 256) (zlt (zN h22) (fun a32 => zlt (zA h22 21 (zx 256)) (fun (h23 : Zh) => zlt (zsR h23 a0 17 (some a32)) (fun (h24 : Zh) => zg (zok 10) (zlt (zN h24) (fun a33 => zlt (zA h24 21 (zx 10)) (fun (h25 : Zh) => zlt (zsR h25 a0 18 (some a33)) (fun (h26 : Zh) => zg (zok 6) (zlt (zN h26) (fun a34 => zlt (zA h26 20 (zx 6)) (fun (h27 : Zh) => zlt (zsR h27 a0 20 (some a34)) (fun (h28 : Zh) => zg (zok 6) (zlt (zN h28) (fun a35 => zlt (zA h28 20 (zx 6)) (fun (h29 : Zh) => zlt (zsR h29 a0 21 (some a35)) (fun (h30 : Zh) => zg (zok 6) (zlt (zN h30) (fun a36 => zlt (zA h30 20 (zx 6)) (fun (h31 : Zh) => zlt (zsR h31 a0 22 (some a36)) (fun (h32 : Zh) => zg (zok 6) (zlt (zN h32) (fun a37 => zlt (zA h32 20 (zx 6)) (fun (h33 : Zh) => zlt (zsR h33 a0 23 (some a37)) (fun (h34 : Zh) => zg (zok 4096) (zlt (zN h34) (fun a38 => zlt (zA h34 21 (zx 4096)) (fun (h35 : Zh) => zlt (zsR h35 a0 24 (some a38)) (fun (h36 : Zh) => zg (zok 4096) (zlt (zN h36) (fun a39 => zlt (zA h36 21 (zx 4096)) (fun (h37 : Zh) => zlt (zsR h37 a0 25 (some a39)) (fun (h38 : Zh) => zg (zok 8) (zlt (zN h38) (fun a40 => zlt (zA h38 21 (zx 8)) (fun (h39 : Zh) => zlt (zsR h39 a0 26 (some a40)) (fun (h40 : Zh) => zg (zok 8) (zlt (zN h40) (fun a41 => zlt (zA h40 21 (zx 8)) (fun (h41 : Zh) => zlt (zsR h41 a0 27 (some a41)) (fun (h42 : Zh) => zg (zok 8) (zlt (zN h42) (fun a42 => zlt (zA h42 21 (zx 8)) (fun (h43 : Zh) => zlt (zsR h43 a0 28 (some a42)) (fun (h44 : Zh) => zg (zok 5) (zlt (zN h44) (fun a43 => zlt (zA h44 20 (zx 5)) (fun (h45 : Zh) => zlt (zsR h45 a0 29 (some a43)) (fun (h46 : Zh) => zg (zok 300) (zlt (zN h46) (fun a44 => zlt (zA h46 20 (zx 300)) (fun (h47 : Zh) => zlt (zsR h47 a0 30 (some a44)) (fun (h48 : Zh) => zg (zok 300) (zlt (zN h48) (fun a45 => zlt (zA h48 20 (zx 300)) (fun (h49 : Zh) => zlt (zsR h49 a0 31 (some a45)) (fun (h50 : Zh) => zg (zok 300) (zlt (zN h50) (fun a46 => zlt (zA h50 20 (zx 300)) (fun (h51 : Zh) => zlt (zsR h51 a0 32 (some a46)) (fun (h52 : Zh) => zg (zok 65536) (zlt (zN h52) (fun a47 => zlt (zA h52 21 (zx 65536)) (fun (h53 : Zh) => zlt (zsR h53 a0 33 (some a47)) (fun (h54 : Zh) => zg (zok 65536) (zlt (zN h54) (fun a48 => zlt (zA h54 21 (zx 65536)) (fun (h55 : Zh) => zlt (zsR h55 a0 34 (some a48)) (fun (h56 : Zh) => zg (zok 15288) (zlt (zN h56) (fun a49 => zlt (zA h56 20 (zx 15288)) (fun (h57 : Zh) => zlt (zsR h57 a0 35 (some a49)) (fun (h58 : Zh) => zg (zok 4) (zlt (zN h58) (fun a50 => zlt (zA h58 20 (zx 4)) (fun (h59 : Zh) => zlt (zsR h59 a0 38 (some a50)) (fun (h60 : Zh) => zg (zok 4) (zlt (zN h60) (fun a51 => zlt (zA h60 20 (zx 4)) (fun (h61 : Zh) => zlt (zsR h61 a0 39 (some a51)) (fun (h62 : Zh) => zg (zok 240) (zlt (zN h62) (fun a52 => zlt (zA h62 20 (zx 240)) (fun (h63 : Zh) => zlt (zsR h63 a0 40 (some a52)) (fun (h64 : Zh) => zg (zok 60) (zlt (zN h64) (fun a53 => zlt (zA h64 20 (zx 60)) (fun (h65 : Zh) => zlt (zsR h65 a0 41 (some a53)) (fun (h66 : Zh) => zlt (zsI h66 a0 1 6) (fun (h67 : Zh) => zlt (zsI h67 a0 2 1) (fun (h68 : Zh) => zlt (zsI h68 a0 3 2) (fun (h69 : Zh) => zlt (zsI h69 a0 4 1) (fun (h70 : Zh) => zjn (gX12_init_J1 a0) (fun (k54 : Zh → Option (Zh)) =>
  zlp (fun (_ : Int32) (_ : Zh) => (none : Option (Zh))) (gX12_init_L2 a0 k54) zFU 0 h70)))))))))))))))))))))))))))))))))))))))))))))))))))))))))))))))))))))))))))))))))))))))))))))))))))))))))))))))))))))))))))))))))))))))))
set_option maxRecDepth 20000 in
theorem cX12_init_ok (l : Launch) (h : Zh) (a0 : Nat) : Zc l yX12_init mX12_init 0 h [(.ref a0, 12)] ((gX12_init h a0).map zoV) := by
  refine zc_of2 (ls := [some (.ref a0, 12), none]) (j := 1) (by decide +kernel) rfl rfl (zEn_ca rfl) (Nat.le_of_ble_eq_true rfl) rfl ?_
  unfold gX12_init
  refine zr_aload_n (r := (some a0)) (eX12_init 0 rfl) rfl rfl ?_
  refine zr_objI ⟨zw_1061, zw_80, zw_81⟩ ⟨Nat.le_of_ble_eq_true rfl, Nat.le_of_ble_eq_true rfl⟩ (Nat.le_of_ble_eq_true rfl) (eX12_init 1 rfl) ?_
  refine zr_aload_n (r := (some a0)) (eX12_init 2 rfl) rfl rfl ?_
  refine zr_sipush (eX12_init 3 rfl) zk_sipush_256 ?_
  refine zr_newi zw_154 (eX12_init 4 rfl) ?_
  refine zr_leta (fun a21 => ?_)
  refine v_leth (fun h1 => ?_)
  refine zr_putR (x := (some a21)) zf_RX12_7 (by decide) (fun _ h => h) (Or.inr ⟨rfl, rfl⟩) (eX12_init 5 rfl) ?_
  refine v_leth (fun h2 => ?_)
  refine zr_aload_n (r := (some a0)) (eX12_init 6 rfl) rfl rfl ?_
  refine zr_sipush (eX12_init 7 rfl) zk_sipush_256 ?_
  refine zr_newi zw_154 (eX12_init 8 rfl) ?_
  refine zr_leta (fun a22 => ?_)
  refine v_leth (fun h3 => ?_)
  refine zr_putR (x := (some a22)) zf_RX12_13 (by decide) (fun _ h => h) (Or.inr ⟨rfl, rfl⟩) (eX12_init 9 rfl) ?_
  refine v_leth (fun h4 => ?_)
  refine zr_aload_n (r := (some a0)) (eX12_init 10 rfl) rfl rfl ?_
  refine zr_sipush (eX12_init 11 rfl) zk_sipush_256 ?_
  refine zr_newi zw_154 (eX12_init 12 rfl) ?_
  refine zr_leta (fun a23 => ?_)
  refine v_leth (fun h5 => ?_)
  refine zr_putR (x := (some a23)) zf_RX12_16 (by decide) (fun _ h => h) (Or.inr ⟨rfl, rfl⟩) (eX12_init 13 rfl) ?_
  refine v_leth (fun h6 => ?_)
  refine zr_aload_n (r := (some a0)) (eX12_init 14 rfl) rfl rfl ?_
  refine zr_sipush (eX12_init 15 rfl) zk_sipush_256 ?_
  refine zr_newi zw_154 (eX12_init 16 rfl) ?_
  refine zr_leta (fun a24 => ?_)
  refine v_leth (fun h7 => ?_)
  refine zr_putR (x := (some a24)) zf_RX12_19 (by decide) (fun _ h => h) (Or.inr ⟨rfl, rfl⟩) (eX12_init 17 rfl) ?_
  refine v_leth (fun h8 => ?_)
  refine zr_aload_n (r := (some a0)) (eX12_init 18 rfl) rfl rfl ?_
  refine zr_bipush (eX12_init 19 rfl) zk_bipush_100 ?_
  refine zr_newj zw_355 (eX12_init 20 rfl) ?_
  refine zr_leta (fun a25 => ?_)
  refine v_leth (fun h9 => ?_)
  refine zr_putR (x := (some a25)) zf_RX12_22 (by decide) (fun _ h => h) (Or.inr ⟨rfl, rfl⟩) (eX12_init 21 rfl) ?_
  refine v_leth (fun h10 => ?_)
  refine zr_aload_n (r := (some a0)) (eX12_init 22 rfl) rfl rfl ?_
  refine zr_bipush (eX12_init 23 rfl) zk_bipush_11 ?_
  refine zr_newj zw_355 (eX12_init 24 rfl) ?_
  refine zr_leta (fun a26 => ?_)
  refine v_leth (fun h11 => ?_)
  refine zr_putR (x := (some a26)) zf_RX12_26 (by decide) (fun _ h => h) (Or.inr ⟨rfl, rfl⟩) (eX12_init 25 rfl) ?_
  refine v_leth (fun h12 => ?_)
  refine zr_aload_n (r := (some a0)) (eX12_init 26 rfl) rfl rfl ?_
  refine zr_bipush (eX12_init 27 rfl) zk_bipush_100 ?_
  refine zr_newj zw_355 (eX12_init 28 rfl) ?_
  refine zr_leta (fun a27 => ?_)
  refine v_leth (fun h13 => ?_)
  refine zr_putR (x := (some a27)) zf_RX12_29 (by decide) (fun _ h => h) (Or.inr ⟨rfl, rfl⟩) (eX12_init 29 rfl) ?_
  refine v_leth (fun h14 => ?_)
  refine zr_aload_n (r := (some a0)) (eX12_init 30 rfl) rfl rfl ?_
  refine zr_bipush (eX12_init 31 rfl) zk_bipush_100 ?_
  refine zr_newj zw_355 (eX12_init 32 rfl) ?_
  refine zr_leta (fun a28 => ?_)
  refine v_leth (fun h15 => ?_)
  refine zr_putR (x := (some a28)) zf_RX12_32 (by decide) (fun _ h => h) (Or.inr ⟨rfl, rfl⟩) (eX12_init 33 rfl) ?_
  refine v_leth (fun h16 => ?_)
  refine zr_aload_n (r := (some a0)) (eX12_init 34 rfl) rfl rfl ?_
  refine zr_bipush (eX12_init 35 rfl) zk_bipush_11 ?_
  refine zr_newj zw_355 (eX12_init 36 rfl) ?_
  refine zr_leta (fun a29 => ?_)
  refine v_leth (fun h17 => ?_)
  refine zr_putR (x := (some a29)) zf_RX12_35 (by decide) (fun _ h => h) (Or.inr ⟨rfl, rfl⟩) (eX12_init 37 rfl) ?_
  refine v_leth (fun h18 => ?_)
  refine zr_aload_n (r := (some a0)) (eX12_init 38 rfl) rfl rfl ?_
  refine zr_bipush (eX12_init 39 rfl) zk_bipush_11 ?_
  refine zr_newj zw_355 (eX12_init 40 rfl) ?_
  refine zr_leta (fun a30 => ?_)
  refine v_leth (fun h19 => ?_)
  refine zr_putR (x := (some a30)) zf_RX12_38 (by decide) (fun _ h => h) (Or.inr ⟨rfl, rfl⟩) (eX12_init 41 rfl) ?_
  refine v_leth (fun h20 => ?_)
  refine zr_aload_n (r := (some a0)) (eX12_init 42 rfl) rfl rfl ?_
  refine zr_sipush (eX12_init 43 rfl) zk_sipush_256 ?_
  refine zr_newj zw_355 (eX12_init 44 rfl) ?_
  refine zr_leta (fun a31 => ?_)
  refine v_leth (fun h21 => ?_)
  refine zr_putR (x := (some a31)) zf_RX12_41 (by decide) (fun _ h => h) (Or.inr ⟨rfl, rfl⟩) (eX12_init 45 rfl) ?_
  refine v_leth (fun h22 => ?_)
  refine zr_aload_n (r := (some a0)) (eX12_init 46 rfl) rfl rfl ?_
  refine zr_sipush (eX12_init 47 rfl) zk_sipush_256 ?_
  refine zr_newj zw_355 (eX12_init 48 rfl) ?_
  refine zr_leta (fun a32 => ?_)
  refine v_leth (fun h23 => ?_)
  refine zr_putR (x := (some a32)) zf_RX12_44 (by decide) (fun _ h => h) (Or.inr ⟨rfl, rfl⟩) (eX12_init 49 rfl) ?_
  refine v_leth (fun h24 => ?_)
  refine zr_aload_n (r := (some a0)) (eX12_init 50 rfl) rfl rfl ?_
  refine zr_bipush (eX12_init 51 rfl) zk_bipush_10 ?_
  refine zr_newj zw_355 (eX12_init 52 rfl) ?_
  refine zr_leta (fun a33 => ?_)
  refine v_leth (fun h25 => ?_)
  refine zr_putR (x := (some a33)) zf_RX12_47 (by decide) (fun _ h => h) (Or.inr ⟨rfl, rfl⟩) (eX12_init 53 rfl) ?_
  refine v_leth (fun h26 => ?_)
  refine zr_aload_n (r := (some a0)) (eX12_init 54 rfl) rfl rfl ?_
  refine zr_bipush (eX12_init 55 rfl) zk_bipush_6 ?_
  refine zr_newi zw_154 (eX12_init 56 rfl) ?_
  refine zr_leta (fun a34 => ?_)
  refine v_leth (fun h27 => ?_)
  refine zr_putR (x := (some a34)) zf_RX12_50 (by decide) (fun _ h => h) (Or.inr ⟨rfl, rfl⟩) (eX12_init 57 rfl) ?_
  refine v_leth (fun h28 => ?_)
  refine zr_aload_n (r := (some a0)) (eX12_init 58 rfl) rfl rfl ?_
  refine zr_bipush (eX12_init 59 rfl) zk_bipush_6 ?_
  refine zr_newi zw_154 (eX12_init 60 rfl) ?_
  refine zr_leta (fun a35 => ?_)
  refine v_leth (fun h29 => ?_)
  refine zr_putR (x := (some a35)) zf_RX12_53 (by decide) (fun _ h => h) (Or.inr ⟨rfl, rfl⟩) (eX12_init 61 rfl) ?_
  refine v_leth (fun h30 => ?_)
  refine zr_aload_n (r := (some a0)) (eX12_init 62 rfl) rfl rfl ?_
  refine zr_bipush (eX12_init 63 rfl) zk_bipush_6 ?_
  refine zr_newi zw_154 (eX12_init 64 rfl) ?_
  refine zr_leta (fun a36 => ?_)
  refine v_leth (fun h31 => ?_)
  refine zr_putR (x := (some a36)) zf_RX12_56 (by decide) (fun _ h => h) (Or.inr ⟨rfl, rfl⟩) (eX12_init 65 rfl) ?_
  refine v_leth (fun h32 => ?_)
  refine zr_aload_n (r := (some a0)) (eX12_init 66 rfl) rfl rfl ?_
  refine zr_bipush (eX12_init 67 rfl) zk_bipush_6 ?_
  refine zr_newi zw_154 (eX12_init 68 rfl) ?_
  refine zr_leta (fun a37 => ?_)
  refine v_leth (fun h33 => ?_)
  refine zr_putR (x := (some a37)) zf_RX12_59 (by decide) (fun _ h => h) (Or.inr ⟨rfl, rfl⟩) (eX12_init 69 rfl) ?_
  refine v_leth (fun h34 => ?_)
  refine zr_aload_n (r := (some a0)) (eX12_init 70 rfl) rfl rfl ?_
  refine zr_sipush (eX12_init 71 rfl) zk_sipush_4096 ?_
  refine zr_newj zw_355 (eX12_init 72 rfl) ?_
  refine zr_leta (fun a38 => ?_)
  refine v_leth (fun h35 => ?_)
  refine zr_putR (x := (some a38)) zf_RX12_62 (by decide) (fun _ h => h) (Or.inr ⟨rfl, rfl⟩) (eX12_init 73 rfl) ?_
  refine v_leth (fun h36 => ?_)
  refine zr_aload_n (r := (some a0)) (eX12_init 74 rfl) rfl rfl ?_
  refine zr_sipush (eX12_init 75 rfl) zk_sipush_4096 ?_
  refine zr_newj zw_355 (eX12_init 76 rfl) ?_
  refine zr_leta (fun a39 => ?_)
  refine v_leth (fun h37 => ?_)
  refine zr_putR (x := (some a39)) zf_RX12_65 (by decide) (fun _ h => h) (Or.inr ⟨rfl, rfl⟩) (eX12_init 77 rfl) ?_
  refine v_leth (fun h38 => ?_)
  refine zr_aload_n (r := (some a0)) (eX12_init 78 rfl) rfl rfl ?_
  refine zr_bipush (eX12_init 79 rfl) zk_bipush_8 ?_
  refine zr_newj zw_355 (eX12_init 80 rfl) ?_
  refine zr_leta (fun a40 => ?_)
  refine v_leth (fun h39 => ?_)
  refine zr_putR (x := (some a40)) zf_RX12_68 (by decide) (fun _ h => h) (Or.inr ⟨rfl, rfl⟩) (eX12_init 81 rfl) ?_
  refine v_leth (fun h40 => ?_)
  refine zr_aload_n (r := (some a0)) (eX12_init 82 rfl) rfl rfl ?_
  refine zr_bipush (eX12_init 83 rfl) zk_bipush_8 ?_
  refine zr_newj zw_355 (eX12_init 84 rfl) ?_
  refine zr_leta (fun a41 => ?_)
  refine v_leth (fun h41 => ?_)
  refine zr_putR (x := (some a41)) zf_RX12_71 (by decide) (fun _ h => h) (Or.inr ⟨rfl, rfl⟩) (eX12_init 85 rfl) ?_
  refine v_leth (fun h42 => ?_)
  refine zr_aload_n (r := (some a0)) (eX12_init 86 rfl) rfl rfl ?_
  refine zr_bipush (eX12_init 87 rfl) zk_bipush_8 ?_
  refine zr_newj zw_355 (eX12_init 88 rfl) ?_
  refine zr_leta (fun a42 => ?_)
  refine v_leth (fun h43 => ?_)
  refine zr_putR (x := (some a42)) zf_RX12_74 (by decide) (fun _ h => h) (Or.inr ⟨rfl, rfl⟩) (eX12_init 89 rfl) ?_
  refine v_leth (fun h44 => ?_)
  refine zr_aload_n (r := (some a0)) (eX12_init 90 rfl) rfl rfl ?_
  refine zr_iconst (eX12_init 91 rfl) zk_iconst_5 ?_
  refine zr_newi zw_154 (eX12_init 92 rfl) ?_
  refine zr_leta (fun a43 => ?_)
  refine v_leth (fun h45 => ?_)
  refine zr_putR (x := (some a43)) zf_RX12_77 (by decide) (fun _ h => h) (Or.inr ⟨rfl, rfl⟩) (eX12_init 93 rfl) ?_
  refine v_leth (fun h46 => ?_)
  refine zr_aload_n (r := (some a0)) (eX12_init 94 rfl) rfl rfl ?_
  refine zr_sipush (eX12_init 95 rfl) zk_sipush_300 ?_
  refine zr_newi zw_154 (eX12_init 96 rfl) ?_
  refine zr_leta (fun a44 => ?_)
  refine v_leth (fun h47 => ?_)
  refine zr_putR (x := (some a44)) zf_RX12_80 (by decide) (fun _ h => h) (Or.inr ⟨rfl, rfl⟩) (eX12_init 97 rfl) ?_
  refine v_leth (fun h48 => ?_)
  refine zr_aload_n (r := (some a0)) (eX12_init 98 rfl) rfl rfl ?_
  refine zr_sipush (eX12_init 99 rfl) zk_sipush_300 ?_
  refine zr_newi zw_154 (eX12_init 100 rfl) ?_
  refine zr_leta (fun a45 => ?_)
  refine v_leth (fun h49 => ?_)
  refine zr_putR (x := (some a45)) zf_RX12_83 (by decide) (fun _ h => h) (Or.inr ⟨rfl, rfl⟩) (eX12_init 101 rfl) ?_
  refine v_leth (fun h50 => ?_)
  refine zr_aload_n (r := (some a0)) (eX12_init 102 rfl) rfl rfl ?_
  refine zr_sipush (eX12_init 103 rfl) zk_sipush_300 ?_
  refine zr_newi zw_154 (eX12_init 104 rfl) ?_
  refine zr_leta (fun a46 => ?_)
  refine v_leth (fun h51 => ?_)
  refine zr_putR (x := (some a46)) zf_RX12_86 (by decide) (fun _ h => h) (Or.inr ⟨rfl, rfl⟩) (eX12_init 105 rfl) ?_
  refine v_leth (fun h52 => ?_)
  refine zr_aload_n (r := (some a0)) (eX12_init 106 rfl) rfl rfl ?_
  refine zr_ldc (eX12_init 107 rfl) zw_1062 ?_
  refine zr_newj zw_355 (eX12_init 108 rfl) ?_
  refine zr_leta (fun a47 => ?_)
  refine v_leth (fun h53 => ?_)
  refine zr_putR (x := (some a47)) zf_RX12_90 (by decide) (fun _ h => h) (Or.inr ⟨rfl, rfl⟩) (eX12_init 109 rfl) ?_
  refine v_leth (fun h54 => ?_)
  refine zr_aload_n (r := (some a0)) (eX12_init 110 rfl) rfl rfl ?_
  refine zr_ldc (eX12_init 111 rfl) zw_1062 ?_
  refine zr_newj zw_355 (eX12_init 112 rfl) ?_
  refine zr_leta (fun a48 => ?_)
  refine v_leth (fun h55 => ?_)
  refine zr_putR (x := (some a48)) zf_RX12_93 (by decide) (fun _ h => h) (Or.inr ⟨rfl, rfl⟩) (eX12_init 113 rfl) ?_
  refine v_leth (fun h56 => ?_)
  refine zr_aload_n (r := (some a0)) (eX12_init 114 rfl) rfl rfl ?_
  refine zr_sipush (eX12_init 115 rfl) zk_sipush_15288 ?_
  refine zr_newi zw_154 (eX12_init 116 rfl) ?_
  refine zr_leta (fun a49 => ?_)
  refine v_leth (fun h57 => ?_)
  refine zr_putR (x := (some a49)) zf_RX12_96 (by decide) (fun _ h => h) (Or.inr ⟨rfl, rfl⟩) (eX12_init 117 rfl) ?_
  refine v_leth (fun h58 => ?_)
  refine zr_aload_n (r := (some a0)) (eX12_init 118 rfl) rfl rfl ?_
  refine zr_iconst (eX12_init 119 rfl) zk_iconst_4 ?_
  refine zr_newi zw_154 (eX12_init 120 rfl) ?_
  refine zr_leta (fun a50 => ?_)
  refine v_leth (fun h59 => ?_)
  refine zr_putR (x := (some a50)) zf_RX12_99 (by decide) (fun _ h => h) (Or.inr ⟨rfl, rfl⟩) (eX12_init 121 rfl) ?_
  refine v_leth (fun h60 => ?_)
  refine zr_aload_n (r := (some a0)) (eX12_init 122 rfl) rfl rfl ?_
  refine zr_iconst (eX12_init 123 rfl) zk_iconst_4 ?_
  refine zr_newi zw_154 (eX12_init 124 rfl) ?_
  refine zr_leta (fun a51 => ?_)
  refine v_leth (fun h61 => ?_)
  refine zr_putR (x := (some a51)) zf_RX12_102 (by decide) (fun _ h => h) (Or.inr ⟨rfl, rfl⟩) (eX12_init 125 rfl) ?_
  refine v_leth (fun h62 => ?_)
  refine zr_aload_n (r := (some a0)) (eX12_init 126 rfl) rfl rfl ?_
  refine zr_sipush (eX12_init 127 rfl) zk_sipush_240 ?_
  refine zr_newi zw_154 (eX12_init 128 rfl) ?_
  refine zr_leta (fun a52 => ?_)
  refine v_leth (fun h63 => ?_)
  refine zr_putR (x := (some a52)) zf_RX12_105 (by decide) (fun _ h => h) (Or.inr ⟨rfl, rfl⟩) (eX12_init 129 rfl) ?_
  refine v_leth (fun h64 => ?_)
  refine zr_aload_n (r := (some a0)) (eX12_init 130 rfl) rfl rfl ?_
  refine zr_bipush (eX12_init 131 rfl) zk_bipush_60 ?_
  refine zr_newi zw_154 (eX12_init 132 rfl) ?_
  refine zr_leta (fun a53 => ?_)
  refine v_leth (fun h65 => ?_)
  refine zr_putR (x := (some a53)) zf_RX12_108 (by decide) (fun _ h => h) (Or.inr ⟨rfl, rfl⟩) (eX12_init 133 rfl) ?_
  refine v_leth (fun h66 => ?_)
  refine zr_aload_n (r := (some a0)) (eX12_init 134 rfl) rfl rfl ?_
  refine zr_bipush (eX12_init 135 rfl) zk_bipush_6 ?_
  refine zr_putI zf_RX12_111 rfl (Or.inl rfl) (eX12_init 136 rfl) ?_
  refine v_leth (fun h67 => ?_)
  refine zr_aload_n (r := (some a0)) (eX12_init 137 rfl) rfl rfl ?_
  refine zr_iconst (eX12_init 138 rfl) zk_iconst_1 ?_
  refine zr_putZ zf_RX12_115 rfl (by decide) (Or.inl rfl) (eX12_init 139 rfl) ?_
  refine v_leth (fun h68 => ?_)
  refine zr_aload_n (r := (some a0)) (eX12_init 140 rfl) rfl rfl ?_
  refine zr_iconst (eX12_init 141 rfl) zk_iconst_2 ?_
  refine zr_putI zf_RX12_119 rfl (Or.inl rfl) (eX12_init 142 rfl) ?_
  refine v_leth (fun h69 => ?_)
  refine zr_aload_n (r := (some a0)) (eX12_init 143 rfl) rfl rfl ?_
  refine zr_iconst (eX12_init 144 rfl) zk_iconst_1 ?_
  refine zr_putI zf_RX12_122 rfl (Or.inl rfl) (eX12_init 145 rfl) ?_
  refine v_leth (fun h70 => ?_)
  refine zr_iconst (eX12_init 146 rfl) zk_iconst_0 ?_
  refine zr_istore_n (ls2 := [some (.ref a0, 12), some (.int 0, 0)]) (eX12_init 147 rfl) rfl (Nat.le_of_ble_eq_true rfl) rfl ?_
  refine v_jn (fun (k54 : Zh → Option (Zh)) => ∀ (h71 : Zh), V l mX12_init (zN h) (zS h) 0 zoV 319 [some (.ref a0, 12), none] [] h71 (k54 h71)) ?_ ?_
  · intro h71
    unfold gX12_init_J1
    refine zr_aload_n (r := (some a0)) (eX12_init 158 rfl) rfl rfl ?_
    refine zr_invV_V (as := []) (cX12_keepSnap_ok l h71 a0) rfl rfl ⟨by decide, by decide, by decide⟩ zcd_X12_keepSnap rfl ⟨zw_1063, zw_1065, zw_10, zw_62⟩ ⟨Nat.le_of_ble_eq_true rfl, Nat.le_of_ble_eq_true rfl⟩ rfl (Nat.le_of_ble_eq_true rfl) (eX12_init 159 rfl) (fun h72 => ?_)
    exact zr_vret rfl rfl (eX12_init 160 rfl)
  intro k54 hk54
  refine v_drop [true, true] rfl ?_
  refine zlp_ind (fun (k56 : Int32 → Zh → Option (Zh)) => ∀ (x55 : Int32) (h73 : Zh), V l mX12_init (zN h) (zS h) 0 zoV 301 [some (.ref a0, 12), some (.int x55, 0)] [] h73 (k56 x55 h73)) ?_ ?_ 0 h70
  · exact fun _ _ => v_none
  intro k56 hk56 x55 h73
  unfold gX12_init_L2
  refine zr_iload_n (eX12_init 148 rfl) rfl rfl ?_
  refine zr_iconst (eX12_init 149 rfl) zk_iconst_4 ?_
  refine zr_icmp_ge (eX12_init 150 rfl) (t := 319) (by decide) ?_ ?_
  · exact v_drop [true, false] rfl (hk54 h73)
  · refine zr_aload_n (r := (some a0)) (eX12_init 151 rfl) rfl rfl ?_
    refine zr_getR2 zf_RX12_99 (τ2 := 20) rfl (eX12_init 152 rfl) ?_
    refine v_letr (fun r57 => ?_)
    refine zr_iload_n (eX12_init 153 rfl) rfl rfl ?_
    refine zr_iconst (eX12_init 154 rfl) zk_iconst_m1 ?_
    refine v_nn (fun a58 ea58 => ?_)
    subst ea58
    refine zr_iast (eX12_init 155 rfl) ?_
    refine v_leth (fun h74 => ?_)
    refine zr_iinc (ls2 := [some (.ref a0, 12), some (.int (x55 + 1), 0)]) (eX12_init 156 rfl) rfl (Nat.le_of_ble_eq_true rfl) zk_iconst_1 rfl ?_
    refine zr_goto (eX12_init 157 rfl) (t := 301) (by decide) ?_
    exact v_drop [true, true] rfl (hk56 (x55 + 1) h74)
def gX12_in_J1 : Option (Int32) :=
  (some 0)
def gX12_in (x0 : Int64) (x2 : Int64) (x4 : Int64) : Option (Int32) :=
  zjn gX12_in_J1 (fun (k21 : Option (Int32)) =>
  (if ((lg_cmp x0 x2) : Int32) < 0 then k21
  else (if (0 : Int32) < (lg_cmp x0 x4) then k21
  else (some 1))))
set_option maxRecDepth 20000 in
theorem cX12_in_ok (l : Launch) (h : Zh) (x0 : Int64) (x2 : Int64) (x4 : Int64) : Zc l yX12_in mX12_in 0 h [(.long x0, 0), (.long x2, 0), (.long x4, 0)] ((gX12_in x0 x2 x4).map (zoi h)) := by
  refine zc_of2 (ls := [some (.long x0, 0), none, some (.long x2, 0), none, some (.long x4, 0), none]) (j := 0) (by decide +kernel) rfl rfl (zEn_cj (zEn_cj (zEn_cj rfl))) (Nat.le_of_ble_eq_true rfl) rfl ?_
  unfold gX12_in
  refine zr_lload_n (eX12_in 0 rfl) rfl rfl ?_
  refine zr_lload_n (eX12_in 1 rfl) rfl rfl ?_
  refine zr_lcmp (eX12_in 2 rfl) ?_
  refine v_jn (fun (k21 : Option (Int32)) => V l mX12_in (zN h) (zS h) 0 (zoi h) 17 [none, none, none, none, none, none] [] h k21) ?_ ?_
  · skip
    unfold gX12_in_J1
    refine zr_iconst (eX12_in 10 rfl) zk_iconst_0 ?_
    exact zr_zret rfl (by decide) rfl (eX12_in 11 rfl)
  intro k21 hk21
  refine zr_if_lt (eX12_in 3 rfl) (t := 17) (by decide) ?_ ?_
  · exact v_drop [false, false, false, false, false, false] rfl (hk21)
  · refine zr_lload_n (eX12_in 4 rfl) rfl rfl ?_
    refine zr_lload (eX12_in 5 rfl) rfl ?_
    refine zr_lcmp (eX12_in 6 rfl) ?_
    refine zr_if_gt (eX12_in 7 rfl) (t := 17) (by decide) ?_ ?_
    · exact v_drop [false, false, false, false, false, false] rfl (hk21)
    · refine zr_iconst (eX12_in 8 rfl) zk_iconst_1 ?_
      refine zr_goto (eX12_in 9 rfl) (t := 18) (by decide) ?_
      exact zr_zret rfl (by decide) rfl (eX12_in 11 rfl)
def gX12_lost  : Option (Int64) :=
  (some (-9223372036854775808))
set_option maxRecDepth 20000 in
theorem cX12_lost_ok (l : Launch) (h : Zh)  : Zc l yX12_lost mX12_lost 0 h [] ((gX12_lost ).map (zoj h)) := by
  refine zc_of2 (ls := []) (j := 0) (by decide +kernel) rfl rfl rfl (Nat.le_of_ble_eq_true rfl) rfl ?_
  unfold gX12_lost
  refine zr_ldc2 (eX12_lost 0 rfl) zw_1227 ?_
  exact zr_lret rfl rfl (eX12_lost 1 rfl)
def gX12_hasBit (x0 : Int32) (x1 : Int32) : Option (Int32) :=
  (if (((x0 >>> (x1 &&& 31)) &&& 1) : Int32) = 1 then (some 1)
  else (some 0))
set_option maxRecDepth 20000 in
theorem cX12_hasBit_ok (l : Launch) (h : Zh) (x0 : Int32) (x1 : Int32) : Zc l yX12_hasBit mX12_hasBit 0 h [(.int x0, 0), (.int x1, 0)] ((gX12_hasBit x0 x1).map (zoi h)) := by
  refine zc_of2 (ls := [some (.int x0, 0), some (.int x1, 0)]) (j := 0) (by decide +kernel) rfl rfl (zEn_ci (zEn_ci rfl)) (Nat.le_of_ble_eq_true rfl) rfl ?_
  unfold gX12_hasBit
  refine zr_iload_n (eX12_hasBit 0 rfl) rfl rfl ?_
  refine zr_iload_n (eX12_hasBit 1 rfl) rfl rfl ?_
  refine zr_ishr (eX12_hasBit 2 rfl) ?_
  refine zr_iconst (eX12_hasBit 3 rfl) zk_iconst_1 ?_
  refine zr_iand (eX12_hasBit 4 rfl) ?_
  refine zr_iconst (eX12_hasBit 5 rfl) zk_iconst_1 ?_
  refine zr_icmp_ne (eX12_hasBit 6 rfl) (t := 13) (by decide) ?_ ?_
  · refine zr_iconst (eX12_hasBit 9 rfl) zk_iconst_0 ?_
    exact zr_zret rfl (by decide) rfl (eX12_hasBit 10 rfl)
  · refine zr_iconst (eX12_hasBit 7 rfl) zk_iconst_1 ?_
    refine zr_goto (eX12_hasBit 8 rfl) (t := 14) (by decide) ?_
    exact zr_zret rfl (by decide) rfl (eX12_hasBit 10 rfl)
def gX12_count_L1 (x0 : Int32) : (Int32 → Int32 → Option (Int32)) → Int32 → Int32 → Option (Int32) :=
  fun (k23 : Int32 → Int32 → Option (Int32)) (x21 : Int32) (x22 : Int32) => (if (8 : Int32) ≤ x22 then (some x21)
  else zlt (x21 + ((x0 >>> (x22 &&& 31)) &&& 1)) (fun x24 => k23 x24 (x22 + 1)))
def gX12_count (x0 : Int32) : Option (Int32) :=
  zlp (fun (_ : Int32) (_ : Int32) => (none : Option (Int32))) (gX12_count_L1 x0) zFU 0 0
set_option maxRecDepth 20000 in
theorem cX12_count_ok (l : Launch) (h : Zh) (x0 : Int32) : Zc l yX12_count mX12_count 0 h [(.int x0, 0)] ((gX12_count x0).map (zoi h)) := by
  refine zc_of2 (ls := [some (.int x0, 0), none, none]) (j := 2) (by decide +kernel) rfl rfl (zEn_ci rfl) (Nat.le_of_ble_eq_true rfl) rfl ?_
  unfold gX12_count
  refine zr_iconst (eX12_count 0 rfl) zk_iconst_0 ?_
  refine zr_istore_n (ls2 := [some (.int x0, 0), some (.int 0, 0), none]) (eX12_count 1 rfl) rfl (Nat.le_of_ble_eq_true rfl) rfl ?_
  refine zr_iconst (eX12_count 2 rfl) zk_iconst_0 ?_
  refine zr_istore_n (ls2 := [some (.int x0, 0), some (.int 0, 0), some (.int 0, 0)]) (eX12_count 3 rfl) rfl (Nat.le_of_ble_eq_true rfl) rfl ?_
  refine v_drop [true, true, true] rfl ?_
  refine zlp_ind (fun (k23 : Int32 → Int32 → Option (Int32)) => ∀ (x21 : Int32) (x22 : Int32), V l mX12_count (zN h) (zS h) 0 (zoi h) 4 [some (.int x0, 0), some (.int x21, 0), some (.int x22, 0)] [] h (k23 x21 x22)) ?_ ?_ 0 0
  · exact fun _ _ => v_none
  intro k23 hk23 x21 x22
  unfold gX12_count_L1
  refine zr_iload_n (eX12_count 4 rfl) rfl rfl ?_
  refine zr_bipush (eX12_count 5 rfl) zk_bipush_8 ?_
  refine zr_icmp_ge (eX12_count 6 rfl) (t := 24) (by decide) ?_ ?_
  · refine zr_iload_n (eX12_count 17 rfl) rfl rfl ?_
    exact zr_iret rfl rfl (eX12_count 18 rfl)
  · refine zr_iload_n (eX12_count 7 rfl) rfl rfl ?_
    refine zr_iload_n (eX12_count 8 rfl) rfl rfl ?_
    refine zr_iload_n (eX12_count 9 rfl) rfl rfl ?_
    refine zr_ishr (eX12_count 10 rfl) ?_
    refine zr_iconst (eX12_count 11 rfl) zk_iconst_1 ?_
    refine zr_iand (eX12_count 12 rfl) ?_
    refine zr_iadd (eX12_count 13 rfl) ?_
    refine v_leti (fun x24 => ?_)
    refine zr_istore_n (ls2 := [some (.int x0, 0), some (.int x24, 0), some (.int x22, 0)]) (eX12_count 14 rfl) rfl (Nat.le_of_ble_eq_true rfl) rfl ?_
    refine zr_iinc (ls2 := [some (.int x0, 0), some (.int x24, 0), some (.int (x22 + 1), 0)]) (eX12_count 15 rfl) rfl (Nat.le_of_ble_eq_true rfl) zk_iconst_1 rfl ?_
    refine zr_goto (eX12_count 16 rfl) (t := 4) (by decide) ?_
    exact v_drop [true, true, true] rfl (hk23 x24 (x22 + 1))
def gX12_sizeOf (x0 : Int64) : Option (Int64) :=
  (if (0 : Int32) ≤ (lg_cmp x0 0) then (some x0)
  else (some (-x0)))
set_option maxRecDepth 20000 in
theorem cX12_sizeOf_ok (l : Launch) (h : Zh) (x0 : Int64) : Zc l yX12_sizeOf mX12_sizeOf 0 h [(.long x0, 0)] ((gX12_sizeOf x0).map (zoj h)) := by
  refine zc_of2 (ls := [some (.long x0, 0), none]) (j := 0) (by decide +kernel) rfl rfl (zEn_cj rfl) (Nat.le_of_ble_eq_true rfl) rfl ?_
  unfold gX12_sizeOf
  refine zr_lload_n (eX12_sizeOf 0 rfl) rfl rfl ?_
  refine zr_lconst (eX12_sizeOf 1 rfl) zk_lconst_0 ?_
  refine zr_lcmp (eX12_sizeOf 2 rfl) ?_
  refine zr_if_ge (eX12_sizeOf 3 rfl) (t := 11) (by decide) ?_ ?_
  · refine zr_lload_n (eX12_sizeOf 7 rfl) rfl rfl ?_
    exact zr_lret rfl rfl (eX12_sizeOf 8 rfl)
  · refine zr_lload_n (eX12_sizeOf 4 rfl) rfl rfl ?_
    refine zr_lneg (eX12_sizeOf 5 rfl) ?_
    refine zr_goto (eX12_sizeOf 6 rfl) (t := 12) (by decide) ?_
    exact zr_lret rfl rfl (eX12_sizeOf 8 rfl)
def gX12_common_L1 : (Int64 → Int64 → Option (Int64)) → Int64 → Int64 → Option (Int64) :=
  fun (k25 : Int64 → Int64 → Option (Int64)) (x23 : Int64) (x24 : Int64) => (if ((lg_cmp x24 0) : Int32) = 0 then (some x23)
  else (if (x24 : Int64) = 0 then none else zlt (x23 - x23 / x24 * x24) (fun x26 => k25 x24 x26)))
def gX12_common (x0 : Int64) (x2 : Int64) : Option (Int64) :=
  zbj (gX12_sizeOf x0) (fun x21 => zbj (gX12_sizeOf x2) (fun x22 => zlp (fun (_ : Int64) (_ : Int64) => (none : Option (Int64))) gX12_common_L1 zFU x21 x22))
set_option maxRecDepth 20000 in
theorem cX12_common_ok (l : Launch) (h : Zh) (x0 : Int64) (x2 : Int64) : Zc l yX12_common mX12_common 0 h [(.long x0, 0), (.long x2, 0)] ((gX12_common x0 x2).map (zoj h)) := by
  refine zc_of2 (ls := [some (.long x0, 0), none, some (.long x2, 0), none, none, none, none, none, none, none]) (j := 6) (by decide +kernel) rfl rfl (zEn_cj (zEn_cj rfl)) (Nat.le_of_ble_eq_true rfl) rfl ?_
  unfold gX12_common
  refine zr_lload_n (eX12_common 0 rfl) rfl rfl ?_
  refine zr_invS_j (as := [(.long x0, 0)]) (cX12_sizeOf_ok l h x0) rfl zcd_X12_sizeOf ⟨zw_1356, zw_1357, zw_62⟩ ⟨Nat.le_of_ble_eq_true rfl, Nat.le_of_ble_eq_true rfl⟩ rfl (Nat.le_of_ble_eq_true rfl) (eX12_common 1 rfl) (fun x21 => ?_)
  refine zr_lstore (ls2 := [some (.long x0, 0), none, some (.long x2, 0), none, some (.long x21, 0), none, none, none, none, none]) (eX12_common 2 rfl) (Nat.le_of_ble_eq_true rfl) rfl ?_
  refine zr_lload_n (eX12_common 3 rfl) rfl rfl ?_
  refine zr_invS_j (as := [(.long x2, 0)]) (cX12_sizeOf_ok l h x2) rfl zcd_X12_sizeOf ⟨zw_1356, zw_1357, zw_62⟩ ⟨Nat.le_of_ble_eq_true rfl, Nat.le_of_ble_eq_true rfl⟩ rfl (Nat.le_of_ble_eq_true rfl) (eX12_common 4 rfl) (fun x22 => ?_)
  refine zr_lstore (ls2 := [some (.long x0, 0), none, some (.long x2, 0), none, some (.long x21, 0), none, some (.long x22, 0), none, none, none]) (eX12_common 5 rfl) (Nat.le_of_ble_eq_true rfl) rfl ?_
  refine v_drop [false, false, false, false, true, false, true, false, false, false] rfl ?_
  refine zlp_ind (fun (k25 : Int64 → Int64 → Option (Int64)) => ∀ (x23 : Int64) (x24 : Int64), V l mX12_common (zN h) (zS h) 0 (zoj h) 12 [none, none, none, none, some (.long x23, 0), none, some (.long x24, 0), none, none, none] [] h (k25 x23 x24)) ?_ ?_ x21 x22
  · exact fun _ _ => v_none
  intro k25 hk25 x23 x24
  unfold gX12_common_L1
  refine zr_lload (eX12_common 6 rfl) rfl ?_
  refine zr_lconst (eX12_common 7 rfl) zk_lconst_0 ?_
  refine zr_lcmp (eX12_common 8 rfl) ?_
  refine zr_if_eq (eX12_common 9 rfl) (t := 37) (by decide) ?_ ?_
  · refine zr_lload (eX12_common 19 rfl) rfl ?_
    exact zr_lret rfl rfl (eX12_common 20 rfl)
  · refine zr_lload (eX12_common 10 rfl) rfl ?_
    refine zr_lload (eX12_common 11 rfl) rfl ?_
    refine zr_lrem (eX12_common 12 rfl) ?_
    refine v_letj (fun x26 => ?_)
    refine zr_lstore (ls2 := [none, none, none, none, some (.long x23, 0), none, some (.long x24, 0), none, some (.long x26, 0), none]) (eX12_common 13 rfl) (Nat.le_of_ble_eq_true rfl) rfl ?_
    refine zr_lload (eX12_common 14 rfl) rfl ?_
    refine zr_lstore (ls2 := [none, none, none, none, some (.long x24, 0), none, some (.long x24, 0), none, some (.long x26, 0), none]) (eX12_common 15 rfl) (Nat.le_of_ble_eq_true rfl) rfl ?_
    refine zr_lload (eX12_common 16 rfl) rfl ?_
    refine zr_lstore (ls2 := [none, none, none, none, some (.long x24, 0), none, some (.long x26, 0), none, some (.long x26, 0), none]) (eX12_common 17 rfl) (Nat.le_of_ble_eq_true rfl) rfl ?_
    refine zr_goto (eX12_common 18 rfl) (t := 12) (by decide) ?_
    exact v_drop [false, false, false, false, true, false, true, false, false, false] rfl (hk25 x24 x26)
def gX12_refused (h : Zh) (a0 : Nat) (x1 : Int32) : Option (Int32 × Zh) :=
  zlt (zsI h a0 0 0) (fun (h1 : Zh) => (some (x1, h1)))
set_option maxRecDepth 20000 in
theorem cX12_refused_ok (l : Launch) (h : Zh) (a0 : Nat) (x1 : Int32) : Zc l yX12_refused mX12_refused 0 h [(.ref a0, 12), (.int x1, 0)] ((gX12_refused h a0 x1).map zoI) := by
  refine zc_of2 (ls := [some (.ref a0, 12), some (.int x1, 0)]) (j := 0) (by decide +kernel) rfl rfl (zEn_ca (zEn_ci rfl)) (Nat.le_of_ble_eq_true rfl) rfl ?_
  unfold gX12_refused
  refine zr_aload_n (r := (some a0)) (eX12_refused 0 rfl) rfl rfl ?_
  refine zr_iconst (eX12_refused 1 rfl) zk_iconst_0 ?_
  refine zr_putI zf_RX12_134 rfl (Or.inl rfl) (eX12_refused 2 rfl) ?_
  refine v_leth (fun h1 => ?_)
  refine zr_iload_n (eX12_refused 3 rfl) rfl rfl ?_
  exact zr_iret rfl rfl (eX12_refused 4 rfl)
def gX12_failed (h : Zh) (a0 : Nat) (x1 : Int32) : Option (Int32 × Zh) :=
  zlt (zsI h a0 0 x1) (fun (h1 : Zh) => (some (((-10) - x1), h1)))
set_option maxRecDepth 20000 in
theorem cX12_failed_ok (l : Launch) (h : Zh) (a0 : Nat) (x1 : Int32) : Zc l yX12_failed mX12_failed 0 h [(.ref a0, 12), (.int x1, 0)] ((gX12_failed h a0 x1).map zoI) := by
  refine zc_of2 (ls := [some (.ref a0, 12), some (.int x1, 0)]) (j := 0) (by decide +kernel) rfl rfl (zEn_ca (zEn_ci rfl)) (Nat.le_of_ble_eq_true rfl) rfl ?_
  unfold gX12_failed
  refine zr_aload_n (r := (some a0)) (eX12_failed 0 rfl) rfl rfl ?_
  refine zr_iload_n (eX12_failed 1 rfl) rfl rfl ?_
  refine zr_putI zf_RX12_134 rfl (Or.inl rfl) (eX12_failed 2 rfl) ?_
  refine v_leth (fun h1 => ?_)
  refine zr_bipush (eX12_failed 3 rfl) zk_bipush_m10 ?_
  refine zr_iload_n (eX12_failed 4 rfl) rfl rfl ?_
  refine zr_isub (eX12_failed 5 rfl) ?_
  exact zr_iret rfl rfl (eX12_failed 6 rfl)
def gX12_failedLong (h : Zh) (a0 : Nat) (x1 : Int32) : Option (Int64 × Zh) :=
  zlt (zsI h a0 0 x1) (fun (h1 : Zh) => zbj (gX12_lost ) (fun x21 => (some (x21, h1))))
set_option maxRecDepth 20000 in
theorem cX12_failedLong_ok (l : Launch) (h : Zh) (a0 : Nat) (x1 : Int32) : Zc l yX12_failedLong mX12_failedLong 0 h [(.ref a0, 12), (.int x1, 0)] ((gX12_failedLong h a0 x1).map zoJ) := by
  refine zc_of2 (ls := [some (.ref a0, 12), some (.int x1, 0)]) (j := 0) (by decide +kernel) rfl rfl (zEn_ca (zEn_ci rfl)) (Nat.le_of_ble_eq_true rfl) rfl ?_
  unfold gX12_failedLong
  refine zr_aload_n (r := (some a0)) (eX12_failedLong 0 rfl) rfl rfl ?_
  refine zr_iload_n (eX12_failedLong 1 rfl) rfl rfl ?_
  refine zr_putI zf_RX12_134 rfl (Or.inl rfl) (eX12_failedLong 2 rfl) ?_
  refine v_leth (fun h1 => ?_)
  refine zr_invS_j (as := []) (cX12_lost_ok l h1 ) rfl zcd_X12_lost ⟨zw_1224, zw_1225, zw_62⟩ ⟨Nat.le_of_ble_eq_true rfl, Nat.le_of_ble_eq_true rfl⟩ rfl (Nat.le_of_ble_eq_true rfl) (eX12_failedLong 3 rfl) (fun x21 => ?_)
  exact zr_lret rfl rfl (eX12_failedLong 4 rfl)
def gX12_pairMany (h : Zh) (a0 : Nat) : Option (Int32) :=
  (if ((zI h a0 2) : Int32) = 0 then (some ((zI h a0 1) - 1))
  else (some (zI h a0 1)))
set_option maxRecDepth 20000 in
theorem cX12_pairMany_ok (l : Launch) (h : Zh) (a0 : Nat) : Zc l yX12_pairMany mX12_pairMany 0 h [(.ref a0, 12)] ((gX12_pairMany h a0).map (zoi h)) := by
  refine zc_of2 (ls := [some (.ref a0, 12)]) (j := 0) (by decide +kernel) rfl rfl (zEn_ca rfl) (Nat.le_of_ble_eq_true rfl) rfl ?_
  unfold gX12_pairMany
  refine zr_aload_n (r := (some a0)) (eX12_pairMany 0 rfl) rfl rfl ?_
  refine zr_getI zf_RX12_115 ⟨by decide, by decide⟩ (eX12_pairMany 1 rfl) ?_
  refine zr_if_eq (eX12_pairMany 2 rfl) (t := 14) (by decide) ?_ ?_
  · refine zr_aload_n (r := (some a0)) (eX12_pairMany 6 rfl) rfl rfl ?_
    refine zr_getI zf_RX12_111 ⟨by decide, by decide⟩ (eX12_pairMany 7 rfl) ?_
    refine zr_iconst (eX12_pairMany 8 rfl) zk_iconst_1 ?_
    refine zr_isub (eX12_pairMany 9 rfl) ?_
    exact zr_iret rfl rfl (eX12_pairMany 10 rfl)
  · refine zr_aload_n (r := (some a0)) (eX12_pairMany 3 rfl) rfl rfl ?_
    refine zr_getI zf_RX12_111 ⟨by decide, by decide⟩ (eX12_pairMany 4 rfl) ?_
    refine zr_goto (eX12_pairMany 5 rfl) (t := 20) (by decide) ?_
    exact zr_iret rfl rfl (eX12_pairMany 10 rfl)
def gX12_stateMany (h : Zh) (a0 : Nat) : Option (Int32) :=
  (some ((1 : Int32) <<< ((zI h a0 1) &&& 31)))
set_option maxRecDepth 20000 in
theorem cX12_stateMany_ok (l : Launch) (h : Zh) (a0 : Nat) : Zc l yX12_stateMany mX12_stateMany 0 h [(.ref a0, 12)] ((gX12_stateMany h a0).map (zoi h)) := by
  refine zc_of2 (ls := [some (.ref a0, 12)]) (j := 0) (by decide +kernel) rfl rfl (zEn_ca rfl) (Nat.le_of_ble_eq_true rfl) rfl ?_
  unfold gX12_stateMany
  refine zr_iconst (eX12_stateMany 0 rfl) zk_iconst_1 ?_
  refine zr_aload_n (r := (some a0)) (eX12_stateMany 1 rfl) rfl rfl ?_
  refine zr_getI zf_RX12_111 ⟨by decide, by decide⟩ (eX12_stateMany 2 rfl) ?_
  refine zr_ishl (eX12_stateMany 3 rfl) ?_
  exact zr_iret rfl rfl (eX12_stateMany 4 rfl)
def gX12_acted_J1 (a0 : Nat) : Zh → Option (Zh) :=
  fun (h1 : Zh) => zbV (gX12_keepSnap h1 a0) (fun h2 => some h2)
def gX12_acted_J2 (k21 : Zh → Option (Zh)) : Zh → Option (Zh) :=
  fun (h4 : Zh) => k21 h4
def gX12_acted_L3 (a0 : Nat) (k22 : Zh → Option (Zh)) : (Int32 → Zh → Option (Zh)) → Int32 → Zh → Option (Zh) :=
  fun (k24 : Int32 → Zh → Option (Zh)) (x23 : Int32) (h5 : Zh) => (if (14560 : Int32) ≤ x23 then k22 h5
  else zlt (zR h5 a0 35) (fun r25 => zlt (zR h5 a0 35) (fun r26 => Option.bind r26 (fun a27 => zg (zin (x23 + 728) (zL h5 a27)) (Option.bind r25 (fun a28 => zg (zin x23 (zL h5 a28)) (zlt (zsI h5 a28 (zx x23) (zI h5 a27 (zx (x23 + 728)))) (fun (h6 : Zh) => k24 (x23 + 1) h6))))))))
def gX12_acted (h : Zh) (a0 : Nat) : Option (Zh) :=
  zjn (gX12_acted_J1 a0) (fun (k21 : Zh → Option (Zh)) =>
  (if ((zI h a0 37) : Int32) = 20 then zjn (gX12_acted_J2 k21) (fun (k22 : Zh → Option (Zh)) =>
  zlp (fun (_ : Int32) (_ : Zh) => (none : Option (Zh))) (gX12_acted_L3 a0 k22) zFU 0 h)
  else zlt (zsI h a0 37 ((zI h a0 37) + 1)) (fun (h3 : Zh) => k21 h3)))
set_option maxRecDepth 20000 in
theorem cX12_acted_ok (l : Launch) (h : Zh) (a0 : Nat) : Zc l yX12_acted mX12_acted 0 h [(.ref a0, 12)] ((gX12_acted h a0).map zoV) := by
  refine zc_of2 (ls := [some (.ref a0, 12), none]) (j := 1) (by decide +kernel) rfl rfl (zEn_ca rfl) (Nat.le_of_ble_eq_true rfl) rfl ?_
  unfold gX12_acted
  refine zr_aload_n (r := (some a0)) (eX12_acted 0 rfl) rfl rfl ?_
  refine zr_getI zf_RX12_348 ⟨by decide, by decide⟩ (eX12_acted 1 rfl) ?_
  refine zr_bipush (eX12_acted 2 rfl) zk_bipush_20 ?_
  refine v_jn (fun (k21 : Zh → Option (Zh)) => ∀ (h1 : Zh), V l mX12_acted (zN h) (zS h) 0 zoV 53 [some (.ref a0, 12), none] [] h1 (k21 h1)) ?_ ?_
  · intro h1
    unfold gX12_acted_J1
    refine zr_aload_n (r := (some a0)) (eX12_acted 28 rfl) rfl rfl ?_
    refine zr_invV_V (as := []) (cX12_keepSnap_ok l h1 a0) rfl rfl ⟨by decide, by decide, by decide⟩ zcd_X12_keepSnap rfl ⟨zw_1063, zw_1065, zw_10, zw_62⟩ ⟨Nat.le_of_ble_eq_true rfl, Nat.le_of_ble_eq_true rfl⟩ rfl (Nat.le_of_ble_eq_true rfl) (eX12_acted 29 rfl) (fun h2 => ?_)
    exact zr_vret rfl rfl (eX12_acted 30 rfl)
  intro k21 hk21
  refine zr_icmp_ne (eX12_acted 3 rfl) (t := 43) (by decide) ?_ ?_
  · refine zr_aload_n (r := (some a0)) (eX12_acted 22 rfl) rfl rfl ?_
    refine zr_dup (eX12_acted 23 rfl) rfl ?_
    refine zr_getI zf_RX12_348 ⟨by decide, by decide⟩ (eX12_acted 24 rfl) ?_
    refine zr_iconst (eX12_acted 25 rfl) zk_iconst_1 ?_
    refine zr_iadd (eX12_acted 26 rfl) ?_
    refine zr_putI zf_RX12_348 rfl (Or.inl rfl) (eX12_acted 27 rfl) ?_
    refine v_leth (fun h3 => ?_)
    exact v_drop [true, false] rfl (hk21 h3)
  · refine zr_iconst (eX12_acted 4 rfl) zk_iconst_0 ?_
    refine zr_istore_n (ls2 := [some (.ref a0, 12), some (.int 0, 0)]) (eX12_acted 5 rfl) rfl (Nat.le_of_ble_eq_true rfl) rfl ?_
    refine v_jn (fun (k22 : Zh → Option (Zh)) => ∀ (h4 : Zh), V l mX12_acted (zN h) (zS h) 0 zoV 40 [some (.ref a0, 12), none] [] h4 (k22 h4)) ?_ ?_
    · intro h4
      unfold gX12_acted_J2
      refine zr_goto (eX12_acted 21 rfl) (t := 53) (by decide) ?_
      exact v_drop [true, false] rfl (hk21 h4)
    intro k22 hk22
    refine v_drop [true, true] rfl ?_
    refine zlp_ind (fun (k24 : Int32 → Zh → Option (Zh)) => ∀ (x23 : Int32) (h5 : Zh), V l mX12_acted (zN h) (zS h) 0 zoV 11 [some (.ref a0, 12), some (.int x23, 0)] [] h5 (k24 x23 h5)) ?_ ?_ 0 h
    · exact fun _ _ => v_none
    intro k24 hk24 x23 h5
    unfold gX12_acted_L3
    refine zr_iload_n (eX12_acted 6 rfl) rfl rfl ?_
    refine zr_sipush (eX12_acted 7 rfl) zk_sipush_14560 ?_
    refine zr_icmp_ge (eX12_acted 8 rfl) (t := 40) (by decide) ?_ ?_
    · exact v_drop [true, false] rfl (hk22 h5)
    · refine zr_aload_n (r := (some a0)) (eX12_acted 9 rfl) rfl rfl ?_
      refine zr_getR2 zf_RX12_96 (τ2 := 20) rfl (eX12_acted 10 rfl) ?_
      refine v_letr (fun r25 => ?_)
      refine zr_iload_n (eX12_acted 11 rfl) rfl rfl ?_
      refine zr_aload_n (r := (some a0)) (eX12_acted 12 rfl) rfl rfl ?_
      refine zr_getR2 zf_RX12_96 (τ2 := 20) rfl (eX12_acted 13 rfl) ?_
      refine v_letr (fun r26 => ?_)
      refine zr_iload_n (eX12_acted 14 rfl) rfl rfl ?_
      refine zr_sipush (eX12_acted 15 rfl) zk_sipush_728 ?_
      refine zr_iadd (eX12_acted 16 rfl) ?_
      refine v_nn (fun a27 ea27 => ?_)
      subst ea27
      refine zr_iald (eX12_acted 17 rfl) ?_
      refine v_nn (fun a28 ea28 => ?_)
      subst ea28
      refine zr_iast (eX12_acted 18 rfl) ?_
      refine v_leth (fun h6 => ?_)
      refine zr_iinc (ls2 := [some (.ref a0, 12), some (.int (x23 + 1), 0)]) (eX12_acted 19 rfl) rfl (Nat.le_of_ble_eq_true rfl) zk_iconst_1 rfl ?_
      refine zr_goto (eX12_acted 20 rfl) (t := 11) (by decide) ?_
      exact v_drop [true, true] rfl (hk24 (x23 + 1) h6)
def gX12_chain (h : Zh) (a0 : Nat) (x1 : Int32) (x2 : Int32) (x3 : Int32) (x4 : Int32) : Option (Int32 × Zh) :=
  zbi (gX12_in ((x1 : Int32).toInt64) 2 8) (fun x21 => (if (x21 : Int32) = 0 then (some ((-2), h))
  else zbi (gX12_in ((x3 : Int32).toInt64) 1 4) (fun x22 => (if (x22 : Int32) = 0 then (some ((-2), h))
  else zbi (gX12_in ((x4 : Int32).toInt64) (-2) 2) (fun x23 => (if (x23 : Int32) = 0 then (some ((-2), h))
  else zlt (zsI h a0 1 x1) (fun (h1 : Zh) => zg (zbl x2) (zlt (zsI h1 a0 2 x2) (fun (h2 : Zh) => zlt (zsI h2 a0 3 x3) (fun (h3 : Zh) => zlt (zsI h3 a0 4 x4) (fun (h4 : Zh) => zbV (gX12_acted h4 a0) (fun h5 => zbi (gX12_stateMany h5 a0) (fun x24 => (some (x24, h5)))))))))))))))
set_option maxRecDepth 20000 in
theorem cX12_chain_ok (l : Launch) (h : Zh) (a0 : Nat) (x1 : Int32) (x2 : Int32) (x3 : Int32) (x4 : Int32) : Zc l yX12_chain mX12_chain 0 h [(.ref a0, 12), (.int x1, 0), (.int x2, 0), (.int x3, 0), (.int x4, 0)] ((gX12_chain h a0 x1 x2 x3 x4).map zoI) := by
  refine zc_of2 (ls := [some (.ref a0, 12), some (.int x1, 0), some (.int x2, 0), some (.int x3, 0), some (.int x4, 0)]) (j := 0) (by decide +kernel) rfl rfl (zEn_ca (zEn_ci (zEn_ci (zEn_ci (zEn_ci rfl))))) (Nat.le_of_ble_eq_true rfl) rfl ?_
  unfold gX12_chain
  refine zr_iload_n (eX12_chain 0 rfl) rfl rfl ?_
  refine zr_i2l (eX12_chain 1 rfl) ?_
  refine zr_ldc2 (eX12_chain 2 rfl) zw_1201 ?_
  refine zr_ldc2 (eX12_chain 3 rfl) zw_1202 ?_
  refine zr_invS_i (as := [(.long ((x1 : Int32).toInt64), 0), (.long 2, 0), (.long 8, 0)]) (cX12_in_ok l h ((x1 : Int32).toInt64) 2 8) rfl zcd_X12_in ⟨zw_1203, zw_1204, zw_62⟩ ⟨Nat.le_of_ble_eq_true rfl, Nat.le_of_ble_eq_true rfl⟩ rfl (Nat.le_of_ble_eq_true rfl) (eX12_chain 4 rfl) (fun x21 => ?_)
  refine zr_if_eq (eX12_chain 5 rfl) (t := 41) (by decide) ?_ ?_
  · refine zr_bipush (eX12_chain 18 rfl) zk_bipush_m2 ?_
    exact zr_iret rfl rfl (eX12_chain 19 rfl)
  · refine zr_iload_n (eX12_chain 6 rfl) rfl rfl ?_
    refine zr_i2l (eX12_chain 7 rfl) ?_
    refine zr_lconst (eX12_chain 8 rfl) zk_lconst_1 ?_
    refine zr_ldc2 (eX12_chain 9 rfl) zw_1206 ?_
    refine zr_invS_i (as := [(.long ((x3 : Int32).toInt64), 0), (.long 1, 0), (.long 4, 0)]) (cX12_in_ok l h ((x3 : Int32).toInt64) 1 4) rfl zcd_X12_in ⟨zw_1203, zw_1204, zw_62⟩ ⟨Nat.le_of_ble_eq_true rfl, Nat.le_of_ble_eq_true rfl⟩ rfl (Nat.le_of_ble_eq_true rfl) (eX12_chain 10 rfl) (fun x22 => ?_)
    refine zr_if_eq (eX12_chain 11 rfl) (t := 41) (by decide) ?_ ?_
    · refine zr_bipush (eX12_chain 18 rfl) zk_bipush_m2 ?_
      exact zr_iret rfl rfl (eX12_chain 19 rfl)
    · refine zr_iload (eX12_chain 12 rfl) rfl ?_
      refine zr_i2l (eX12_chain 13 rfl) ?_
      refine zr_ldc2 (eX12_chain 14 rfl) zw_1207 ?_
      refine zr_ldc2 (eX12_chain 15 rfl) zw_1201 ?_
      refine zr_invS_i (as := [(.long ((x4 : Int32).toInt64), 0), (.long (-2), 0), (.long 2, 0)]) (cX12_in_ok l h ((x4 : Int32).toInt64) (-2) 2) rfl zcd_X12_in ⟨zw_1203, zw_1204, zw_62⟩ ⟨Nat.le_of_ble_eq_true rfl, Nat.le_of_ble_eq_true rfl⟩ rfl (Nat.le_of_ble_eq_true rfl) (eX12_chain 16 rfl) (fun x23 => ?_)
      refine zr_if_ne (eX12_chain 17 rfl) (t := 44) (by decide) ?_ ?_
      · refine zr_aload_n (r := (some a0)) (eX12_chain 20 rfl) rfl rfl ?_
        refine zr_iload_n (eX12_chain 21 rfl) rfl rfl ?_
        refine zr_putI zf_RX12_111 rfl (Or.inl rfl) (eX12_chain 22 rfl) ?_
        refine v_leth (fun h1 => ?_)
        refine zr_aload_n (r := (some a0)) (eX12_chain 23 rfl) rfl rfl ?_
        refine zr_iload_n (eX12_chain 24 rfl) rfl rfl ?_
        refine v_g (fun hb => ?_)
        refine zr_putZ zf_RX12_115 rfl (zbl_of hb) (Or.inl rfl) (eX12_chain 25 rfl) ?_
        refine v_leth (fun h2 => ?_)
        refine zr_aload_n (r := (some a0)) (eX12_chain 26 rfl) rfl rfl ?_
        refine zr_iload_n (eX12_chain 27 rfl) rfl rfl ?_
        refine zr_putI zf_RX12_119 rfl (Or.inl rfl) (eX12_chain 28 rfl) ?_
        refine v_leth (fun h3 => ?_)
        refine zr_aload_n (r := (some a0)) (eX12_chain 29 rfl) rfl rfl ?_
        refine zr_iload (eX12_chain 30 rfl) rfl ?_
        refine zr_putI zf_RX12_122 rfl (Or.inl rfl) (eX12_chain 31 rfl) ?_
        refine v_leth (fun h4 => ?_)
        refine zr_aload_n (r := (some a0)) (eX12_chain 32 rfl) rfl rfl ?_
        refine zr_invV_V (as := []) (cX12_acted_ok l h4 a0) rfl rfl ⟨by decide, by decide, by decide⟩ zcd_X12_acted rfl ⟨zw_1208, zw_1210, zw_11, zw_62⟩ ⟨Nat.le_of_ble_eq_true rfl, Nat.le_of_ble_eq_true rfl⟩ rfl (Nat.le_of_ble_eq_true rfl) (eX12_chain 33 rfl) (fun h5 => ?_)
        refine zr_aload_n (r := (some a0)) (eX12_chain 34 rfl) rfl rfl ?_
        refine zr_invV_i (as := []) (cX12_stateMany_ok l h5 a0) rfl rfl ⟨by decide, by decide, by decide⟩ zcd_X12_stateMany rfl ⟨zw_1212, zw_1214, zw_12, zw_62⟩ ⟨Nat.le_of_ble_eq_true rfl, Nat.le_of_ble_eq_true rfl⟩ rfl (Nat.le_of_ble_eq_true rfl) (eX12_chain 35 rfl) (fun x24 => ?_)
        exact zr_iret rfl rfl (eX12_chain 36 rfl)
      · refine zr_bipush (eX12_chain 18 rfl) zk_bipush_m2 ?_
        exact zr_iret rfl rfl (eX12_chain 19 rfl)
def gX12_noState (h : Zh) (a0 : Nat) (x1 : Int32) : Option (Int32) :=
  zbi (gX12_stateMany h a0) (fun x21 => zbi (gX12_in ((x1 : Int32).toInt64) 0 (((x21 : Int32).toInt64) - 1)) (fun x22 => (if (x22 : Int32) = 0 then (some 1)
  else (some 0))))
set_option maxRecDepth 20000 in
theorem cX12_noState_ok (l : Launch) (h : Zh) (a0 : Nat) (x1 : Int32) : Zc l yX12_noState mX12_noState 0 h [(.ref a0, 12), (.int x1, 0)] ((gX12_noState h a0 x1).map (zoi h)) := by
  refine zc_of2 (ls := [some (.ref a0, 12), some (.int x1, 0)]) (j := 0) (by decide +kernel) rfl rfl (zEn_ca (zEn_ci rfl)) (Nat.le_of_ble_eq_true rfl) rfl ?_
  unfold gX12_noState
  refine zr_iload_n (eX12_noState 0 rfl) rfl rfl ?_
  refine zr_i2l (eX12_noState 1 rfl) ?_
  refine zr_lconst (eX12_noState 2 rfl) zk_lconst_0 ?_
  refine zr_aload_n (r := (some a0)) (eX12_noState 3 rfl) rfl rfl ?_
  refine zr_invV_i (as := []) (cX12_stateMany_ok l h a0) rfl rfl ⟨by decide, by decide, by decide⟩ zcd_X12_stateMany rfl ⟨zw_1212, zw_1214, zw_12, zw_62⟩ ⟨Nat.le_of_ble_eq_true rfl, Nat.le_of_ble_eq_true rfl⟩ rfl (Nat.le_of_ble_eq_true rfl) (eX12_noState 4 rfl) (fun x21 => ?_)
  refine zr_i2l (eX12_noState 5 rfl) ?_
  refine zr_lconst (eX12_noState 6 rfl) zk_lconst_1 ?_
  refine zr_lsub (eX12_noState 7 rfl) ?_
  refine zr_invS_i (as := [(.long ((x1 : Int32).toInt64), 0), (.long 0, 0), (.long (((x21 : Int32).toInt64) - 1), 0)]) (cX12_in_ok l h ((x1 : Int32).toInt64) 0 (((x21 : Int32).toInt64) - 1)) rfl zcd_X12_in ⟨zw_1203, zw_1204, zw_62⟩ ⟨Nat.le_of_ble_eq_true rfl, Nat.le_of_ble_eq_true rfl⟩ rfl (Nat.le_of_ble_eq_true rfl) (eX12_noState 8 rfl) (fun x22 => ?_)
  refine zr_if_ne (eX12_noState 9 rfl) (t := 20) (by decide) ?_ ?_
  · refine zr_iconst (eX12_noState 12 rfl) zk_iconst_0 ?_
    exact zr_zret rfl (by decide) rfl (eX12_noState 13 rfl)
  · refine zr_iconst (eX12_noState 10 rfl) zk_iconst_1 ?_
    refine zr_goto (eX12_noState 11 rfl) (t := 21) (by decide) ?_
    exact zr_zret rfl (by decide) rfl (eX12_noState 13 rfl)
def gX12_areAlike (a0 : Nat) (x1 : Int32) (x2 : Int32) (x3 : Int32) : Option (Int32) :=
  (if (((x1 >>> (x2 &&& 31)) &&& 1) : Int32) = ((x1 >>> (x3 &&& 31)) &&& 1) then (some 1)
  else (some 0))
set_option maxRecDepth 20000 in
theorem cX12_areAlike_ok (l : Launch) (h : Zh) (a0 : Nat) (x1 : Int32) (x2 : Int32) (x3 : Int32) : Zc l yX12_areAlike mX12_areAlike 0 h [(.ref a0, 12), (.int x1, 0), (.int x2, 0), (.int x3, 0)] ((gX12_areAlike a0 x1 x2 x3).map (zoi h)) := by
  refine zc_of2 (ls := [some (.ref a0, 12), some (.int x1, 0), some (.int x2, 0), some (.int x3, 0)]) (j := 0) (by decide +kernel) rfl rfl (zEn_ca (zEn_ci (zEn_ci (zEn_ci rfl)))) (Nat.le_of_ble_eq_true rfl) rfl ?_
  unfold gX12_areAlike
  refine zr_iload_n (eX12_areAlike 0 rfl) rfl rfl ?_
  refine zr_iload_n (eX12_areAlike 1 rfl) rfl rfl ?_
  refine zr_ishr (eX12_areAlike 2 rfl) ?_
  refine zr_iconst (eX12_areAlike 3 rfl) zk_iconst_1 ?_
  refine zr_iand (eX12_areAlike 4 rfl) ?_
  refine zr_iload_n (eX12_areAlike 5 rfl) rfl rfl ?_
  refine zr_iload_n (eX12_areAlike 6 rfl) rfl rfl ?_
  refine zr_ishr (eX12_areAlike 7 rfl) ?_
  refine zr_iconst (eX12_areAlike 8 rfl) zk_iconst_1 ?_
  refine zr_iand (eX12_areAlike 9 rfl) ?_
  refine zr_icmp_ne (eX12_areAlike 10 rfl) (t := 17) (by decide) ?_ ?_
  · refine zr_iconst (eX12_areAlike 13 rfl) zk_iconst_0 ?_
    exact zr_zret rfl (by decide) rfl (eX12_areAlike 14 rfl)
  · refine zr_iconst (eX12_areAlike 11 rfl) zk_iconst_1 ?_
    refine zr_goto (eX12_areAlike 12 rfl) (t := 18) (by decide) ?_
    exact zr_zret rfl (by decide) rfl (eX12_areAlike 14 rfl)
def gX12_acts_J1 (x22 : Int32) (k23 : Int32 → Int32 → Option (Int32)) : Int32 → Option (Int32) :=
  fun (x27 : Int32) => k23 x27 (x22 + 1)
def gX12_acts_J2 (x21 : Int32) (k28 : Int32 → Option (Int32)) : Int32 → Option (Int32) :=
  fun (x29 : Int32) => zlt (x21 + x29) (fun x30 => k28 x30)
def gX12_acts_J3 (x21 : Int32) (k28 : Int32 → Option (Int32)) : Int32 → Option (Int32) :=
  fun (x32 : Int32) => zlt (x21 + x32) (fun x33 => k28 x33)
def gX12_acts_L4 (h : Zh) (a0 : Nat) (x1 : Int32) (x2 : Int32) : (Int32 → Int32 → Option (Int32)) → Int32 → Int32 → Option (Int32) :=
  fun (k23 : Int32 → Int32 → Option (Int32)) (x21 : Int32) (x22 : Int32) => zbi (gX12_pairMany h a0) (fun x24 => (if (x24 : Int32) ≤ x22 then (some x21)
  else (if ((zI h a0 1) : Int32) = 0 then none else zlt ((x22 + 1) - (x22 + 1) / (zI h a0 1) * (zI h a0 1)) (fun x25 => zbi (gX12_areAlike a0 x1 x22 x25) (fun x26 => zjn (gX12_acts_J1 x22 k23) (fun (k28 : Int32 → Option (Int32)) =>
  (if (x26 : Int32) = 0 then zjn (gX12_acts_J2 x21 k28) (fun (k31 : Int32 → Option (Int32)) =>
  (if (x1 : Int32) = x2 then k31 (-(zI h a0 4))
  else (if (((x1 ^^^ ((1 : Int32) <<< (x22 &&& 31))) ^^^ ((1 : Int32) <<< (x25 &&& 31))) : Int32) = x2 then k31 (zI h a0 3)
  else k31 0)))
  else zjn (gX12_acts_J3 x21 k28) (fun (k34 : Int32 → Option (Int32)) =>
  (if (x1 : Int32) = x2 then k34 (zI h a0 4)
  else k34 0)))))))))
def gX12_acts (h : Zh) (a0 : Nat) (x1 : Int32) (x2 : Int32) : Option (Int32) :=
  zlp (fun (_ : Int32) (_ : Int32) => (none : Option (Int32))) (gX12_acts_L4 h a0 x1 x2) zFU 0 0
set_option maxRecDepth 20000 in
theorem cX12_acts_ok (l : Launch) (h : Zh) (a0 : Nat) (x1 : Int32) (x2 : Int32) : Zc l yX12_acts mX12_acts 0 h [(.ref a0, 12), (.int x1, 0), (.int x2, 0)] ((gX12_acts h a0 x1 x2).map (zoi h)) := by
  refine zc_of2 (ls := [some (.ref a0, 12), some (.int x1, 0), some (.int x2, 0), none, none, none]) (j := 3) (by decide +kernel) rfl rfl (zEn_ca (zEn_ci (zEn_ci rfl))) (Nat.le_of_ble_eq_true rfl) rfl ?_
  unfold gX12_acts
  refine zr_iconst (eX12_acts 0 rfl) zk_iconst_0 ?_
  refine zr_istore_n (ls2 := [some (.ref a0, 12), some (.int x1, 0), some (.int x2, 0), some (.int 0, 0), none, none]) (eX12_acts 1 rfl) rfl (Nat.le_of_ble_eq_true rfl) rfl ?_
  refine zr_iconst (eX12_acts 2 rfl) zk_iconst_0 ?_
  refine zr_istore (ls2 := [some (.ref a0, 12), some (.int x1, 0), some (.int x2, 0), some (.int 0, 0), some (.int 0, 0), none]) (eX12_acts 3 rfl) (Nat.le_of_ble_eq_true rfl) rfl ?_
  refine v_drop [true, true, true, true, true, false] rfl ?_
  refine zlp_ind (fun (k23 : Int32 → Int32 → Option (Int32)) => ∀ (x21 : Int32) (x22 : Int32), V l mX12_acts (zN h) (zS h) 0 (zoi h) 5 [some (.ref a0, 12), some (.int x1, 0), some (.int x2, 0), some (.int x21, 0), some (.int x22, 0), none] [] h (k23 x21 x22)) ?_ ?_ 0 0
  · exact fun _ _ => v_none
  intro k23 hk23 x21 x22
  unfold gX12_acts_L4
  refine zr_iload (eX12_acts 4 rfl) rfl ?_
  refine zr_aload_n (r := (some a0)) (eX12_acts 5 rfl) rfl rfl ?_
  refine zr_invV_i (as := []) (cX12_pairMany_ok l h a0) rfl rfl ⟨by decide, by decide, by decide⟩ zcd_X12_pairMany rfl ⟨zw_1232, zw_1234, zw_15, zw_62⟩ ⟨Nat.le_of_ble_eq_true rfl, Nat.le_of_ble_eq_true rfl⟩ rfl (Nat.le_of_ble_eq_true rfl) (eX12_acts 6 rfl) (fun x24 => ?_)
  refine zr_icmp_ge (eX12_acts 7 rfl) (t := 101) (by decide) ?_ ?_
  · refine zr_iload_n (eX12_acts 59 rfl) rfl rfl ?_
    exact zr_iret rfl rfl (eX12_acts 60 rfl)
  · refine zr_iload (eX12_acts 8 rfl) rfl ?_
    refine zr_iconst (eX12_acts 9 rfl) zk_iconst_1 ?_
    refine zr_iadd (eX12_acts 10 rfl) ?_
    refine zr_aload_n (r := (some a0)) (eX12_acts 11 rfl) rfl rfl ?_
    refine zr_getI zf_RX12_111 ⟨by decide, by decide⟩ (eX12_acts 12 rfl) ?_
    refine zr_irem (eX12_acts 13 rfl) ?_
    refine v_leti (fun x25 => ?_)
    refine zr_istore (ls2 := [some (.ref a0, 12), some (.int x1, 0), some (.int x2, 0), some (.int x21, 0), some (.int x22, 0), some (.int x25, 0)]) (eX12_acts 14 rfl) (Nat.le_of_ble_eq_true rfl) rfl ?_
    refine zr_aload_n (r := (some a0)) (eX12_acts 15 rfl) rfl rfl ?_
    refine zr_iload_n (eX12_acts 16 rfl) rfl rfl ?_
    refine zr_iload (eX12_acts 17 rfl) rfl ?_
    refine zr_iload (eX12_acts 18 rfl) rfl ?_
    refine zr_invV_i (as := [(.int x1, 0), (.int x22, 0), (.int x25, 0)]) (cX12_areAlike_ok l h a0 x1 x22 x25) rfl rfl ⟨by decide, by decide, by decide⟩ zcd_X12_areAlike rfl ⟨zw_1236, zw_1238, zw_16, zw_62⟩ ⟨Nat.le_of_ble_eq_true rfl, Nat.le_of_ble_eq_true rfl⟩ rfl (Nat.le_of_ble_eq_true rfl) (eX12_acts 19 rfl) (fun x26 => ?_)
    refine v_jn (fun (k28 : Int32 → Option (Int32)) => ∀ (x27 : Int32), V l mX12_acts (zN h) (zS h) 0 (zoi h) 95 [some (.ref a0, 12), some (.int x1, 0), some (.int x2, 0), some (.int x27, 0), some (.int x22, 0), none] [] h (k28 x27)) ?_ ?_
    · intro x27
      unfold gX12_acts_J1
      refine zr_iinc (ls2 := [some (.ref a0, 12), some (.int x1, 0), some (.int x2, 0), some (.int x27, 0), some (.int (x22 + 1), 0), none]) (eX12_acts 57 rfl) rfl (Nat.le_of_ble_eq_true rfl) zk_iconst_1 rfl ?_
      refine zr_goto (eX12_acts 58 rfl) (t := 5) (by decide) ?_
      exact v_drop [true, true, true, true, true, false] rfl (hk23 x27 (x22 + 1))
    intro k28 hk28
    refine zr_if_eq (eX12_acts 20 rfl) (t := 56) (by decide) ?_ ?_
    · refine zr_iload_n (eX12_acts 32 rfl) rfl rfl ?_
      refine zr_iload_n (eX12_acts 33 rfl) rfl rfl ?_
      refine zr_iload_n (eX12_acts 34 rfl) rfl rfl ?_
      refine v_jn (fun (k31 : Int32 → Option (Int32)) => ∀ (x29 : Int32), V l mX12_acts (zN h) (zS h) 0 (zoi h) 93 [some (.ref a0, 12), some (.int x1, 0), some (.int x2, 0), none, some (.int x22, 0), none] [(.int x29, 0), (.int x21, 0)] h (k31 x29)) ?_ ?_
      · intro x29
        unfold gX12_acts_J2
        refine zr_iadd (eX12_acts 55 rfl) ?_
        refine v_leti (fun x30 => ?_)
        refine zr_istore_n (ls2 := [some (.ref a0, 12), some (.int x1, 0), some (.int x2, 0), some (.int x30, 0), some (.int x22, 0), none]) (eX12_acts 56 rfl) rfl (Nat.le_of_ble_eq_true rfl) rfl ?_
        exact v_drop [true, true, true, true, true, false] rfl (hk28 x30)
      intro k31 hk31
      refine zr_icmp_ne (eX12_acts 35 rfl) (t := 70) (by decide) ?_ ?_
      · refine zr_iload_n (eX12_acts 40 rfl) rfl rfl ?_
        refine zr_iconst (eX12_acts 41 rfl) zk_iconst_1 ?_
        refine zr_iload (eX12_acts 42 rfl) rfl ?_
        refine zr_ishl (eX12_acts 43 rfl) ?_
        refine zr_ixor (eX12_acts 44 rfl) ?_
        refine zr_iconst (eX12_acts 45 rfl) zk_iconst_1 ?_
        refine zr_iload (eX12_acts 46 rfl) rfl ?_
        refine zr_ishl (eX12_acts 47 rfl) ?_
        refine zr_ixor (eX12_acts 48 rfl) ?_
        refine zr_iload_n (eX12_acts 49 rfl) rfl rfl ?_
        refine zr_icmp_ne (eX12_acts 50 rfl) (t := 92) (by decide) ?_ ?_
        · refine zr_iconst (eX12_acts 54 rfl) zk_iconst_0 ?_
          exact v_drop [true, true, true, false, true, false] rfl (hk31 0)
        · refine zr_aload_n (r := (some a0)) (eX12_acts 51 rfl) rfl rfl ?_
          refine zr_getI zf_RX12_119 ⟨by decide, by decide⟩ (eX12_acts 52 rfl) ?_
          refine zr_goto (eX12_acts 53 rfl) (t := 93) (by decide) ?_
          exact v_drop [true, true, true, false, true, false] rfl (hk31 (zI h a0 3))
      · refine zr_aload_n (r := (some a0)) (eX12_acts 36 rfl) rfl rfl ?_
        refine zr_getI zf_RX12_122 ⟨by decide, by decide⟩ (eX12_acts 37 rfl) ?_
        refine zr_ineg (eX12_acts 38 rfl) ?_
        refine zr_goto (eX12_acts 39 rfl) (t := 93) (by decide) ?_
        exact v_drop [true, true, true, false, true, false] rfl (hk31 (-(zI h a0 4)))
    · refine zr_iload_n (eX12_acts 21 rfl) rfl rfl ?_
      refine zr_iload_n (eX12_acts 22 rfl) rfl rfl ?_
      refine zr_iload_n (eX12_acts 23 rfl) rfl rfl ?_
      refine v_jn (fun (k34 : Int32 → Option (Int32)) => ∀ (x32 : Int32), V l mX12_acts (zN h) (zS h) 0 (zoi h) 51 [some (.ref a0, 12), some (.int x1, 0), some (.int x2, 0), none, some (.int x22, 0), none] [(.int x32, 0), (.int x21, 0)] h (k34 x32)) ?_ ?_
      · intro x32
        unfold gX12_acts_J3
        refine zr_iadd (eX12_acts 29 rfl) ?_
        refine v_leti (fun x33 => ?_)
        refine zr_istore_n (ls2 := [some (.ref a0, 12), some (.int x1, 0), some (.int x2, 0), some (.int x33, 0), some (.int x22, 0), none]) (eX12_acts 30 rfl) rfl (Nat.le_of_ble_eq_true rfl) rfl ?_
        refine zr_goto (eX12_acts 31 rfl) (t := 95) (by decide) ?_
        exact v_drop [true, true, true, true, true, false] rfl (hk28 x33)
      intro k34 hk34
      refine zr_icmp_ne (eX12_acts 24 rfl) (t := 50) (by decide) ?_ ?_
      · refine zr_iconst (eX12_acts 28 rfl) zk_iconst_0 ?_
        exact v_drop [true, true, true, false, true, false] rfl (hk34 0)
      · refine zr_aload_n (r := (some a0)) (eX12_acts 25 rfl) rfl rfl ?_
        refine zr_getI zf_RX12_122 ⟨by decide, by decide⟩ (eX12_acts 26 rfl) ?_
        refine zr_goto (eX12_acts 27 rfl) (t := 51) (by decide) ?_
        exact v_drop [true, true, true, false, true, false] rfl (hk34 (zI h a0 4))
def gX12_act_J1 : Option (Int64) :=
  zbj (gX12_lost ) (fun x22 => (some x22))
def gX12_act (h : Zh) (a0 : Nat) (x1 : Int32) (x2 : Int32) : Option (Int64) :=
  zbi (gX12_noState h a0 x1) (fun x21 => zjn gX12_act_J1 (fun (k23 : Option (Int64)) =>
  (if (x21 : Int32) = 0 then zbi (gX12_noState h a0 x2) (fun x24 => (if (x24 : Int32) = 0 then zbi (gX12_acts h a0 x1 x2) (fun x25 => (some ((x25 : Int32).toInt64)))
  else k23))
  else k23)))
set_option maxRecDepth 20000 in
theorem cX12_act_ok (l : Launch) (h : Zh) (a0 : Nat) (x1 : Int32) (x2 : Int32) : Zc l yX12_act mX12_act 0 h [(.ref a0, 12), (.int x1, 0), (.int x2, 0)] ((gX12_act h a0 x1 x2).map (zoj h)) := by
  refine zc_of2 (ls := [some (.ref a0, 12), some (.int x1, 0), some (.int x2, 0)]) (j := 0) (by decide +kernel) rfl rfl (zEn_ca (zEn_ci (zEn_ci rfl))) (Nat.le_of_ble_eq_true rfl) rfl ?_
  unfold gX12_act
  refine zr_aload_n (r := (some a0)) (eX12_act 0 rfl) rfl rfl ?_
  refine zr_iload_n (eX12_act 1 rfl) rfl rfl ?_
  refine zr_invV_i (as := [(.int x1, 0)]) (cX12_noState_ok l h a0 x1) rfl rfl ⟨by decide, by decide, by decide⟩ zcd_X12_noState rfl ⟨zw_1220, zw_1222, zw_13, zw_62⟩ ⟨Nat.le_of_ble_eq_true rfl, Nat.le_of_ble_eq_true rfl⟩ rfl (Nat.le_of_ble_eq_true rfl) (eX12_act 2 rfl) (fun x21 => ?_)
  refine v_jn (fun (k23 : Option (Int64)) => V l mX12_act (zN h) (zS h) 0 (zoj h) 16 [none, none, none] [] h k23) ?_ ?_
  · skip
    unfold gX12_act_J1
    refine zr_invS_j (as := []) (cX12_lost_ok l h ) rfl zcd_X12_lost ⟨zw_1224, zw_1225, zw_62⟩ ⟨Nat.le_of_ble_eq_true rfl, Nat.le_of_ble_eq_true rfl⟩ rfl (Nat.le_of_ble_eq_true rfl) (eX12_act 8 rfl) (fun x22 => ?_)
    refine zr_goto (eX12_act 9 rfl) (t := 29) (by decide) ?_
    exact zr_lret rfl rfl (eX12_act 15 rfl)
  intro k23 hk23
  refine zr_if_ne (eX12_act 3 rfl) (t := 16) (by decide) ?_ ?_
  · exact v_drop [false, false, false] rfl (hk23)
  · refine zr_aload_n (r := (some a0)) (eX12_act 4 rfl) rfl rfl ?_
    refine zr_iload_n (eX12_act 5 rfl) rfl rfl ?_
    refine zr_invV_i (as := [(.int x2, 0)]) (cX12_noState_ok l h a0 x2) rfl rfl ⟨by decide, by decide, by decide⟩ zcd_X12_noState rfl ⟨zw_1220, zw_1222, zw_13, zw_62⟩ ⟨Nat.le_of_ble_eq_true rfl, Nat.le_of_ble_eq_true rfl⟩ rfl (Nat.le_of_ble_eq_true rfl) (eX12_act 6 rfl) (fun x24 => ?_)
    refine zr_if_eq (eX12_act 7 rfl) (t := 22) (by decide) ?_ ?_
    · refine zr_aload_n (r := (some a0)) (eX12_act 10 rfl) rfl rfl ?_
      refine zr_iload_n (eX12_act 11 rfl) rfl rfl ?_
      refine zr_iload_n (eX12_act 12 rfl) rfl rfl ?_
      refine zr_invV_i (as := [(.int x1, 0), (.int x2, 0)]) (cX12_acts_ok l h a0 x1 x2) rfl rfl ⟨by decide, by decide, by decide⟩ zcd_X12_acts rfl ⟨zw_1228, zw_1230, zw_14, zw_62⟩ ⟨Nat.le_of_ble_eq_true rfl, Nat.le_of_ble_eq_true rfl⟩ rfl (Nat.le_of_ble_eq_true rfl) (eX12_act 13 rfl) (fun x25 => ?_)
      refine zr_i2l (eX12_act 14 rfl) ?_
      exact zr_lret rfl rfl (eX12_act 15 rfl)
    · exact v_drop [false, false, false] rfl (hk23)
def gX12_turnOf_J1 (x21 : Int32) (x22 : Int32) (k23 : Int32 → Int32 → Option (Int32)) : Int32 → Option (Int32) :=
  fun (x25 : Int32) => zlt (x21 ||| x25) (fun x26 => k23 x26 (x22 + 1))
def gX12_turnOf_J2 (k27 : Int32 → Option (Int32)) : Int32 → Option (Int32) :=
  fun (x28 : Int32) => k27 ((1 : Int32) <<< (x28 &&& 31))
def gX12_turnOf_L3 (h : Zh) (a0 : Nat) (x1 : Int32) : (Int32 → Int32 → Option (Int32)) → Int32 → Int32 → Option (Int32) :=
  fun (k23 : Int32 → Int32 → Option (Int32)) (x21 : Int32) (x22 : Int32) => (if ((zI h a0 1) : Int32) ≤ x22 then (some x21)
  else zbi (gX12_hasBit x1 x22) (fun x24 => zjn (gX12_turnOf_J1 x21 x22 k23) (fun (k27 : Int32 → Option (Int32)) =>
  (if (x24 : Int32) = 0 then k27 0
  else zjn (gX12_turnOf_J2 k27) (fun (k29 : Int32 → Option (Int32)) =>
  (if ((zI h a0 2) : Int32) = 0 then k29 (((zI h a0 1) - 1) - x22)
  else (if ((zI h a0 1) : Int32) = 0 then none else k29 ((x22 + 1) - (x22 + 1) / (zI h a0 1) * (zI h a0 1)))))))))
def gX12_turnOf (h : Zh) (a0 : Nat) (x1 : Int32) : Option (Int32) :=
  zlp (fun (_ : Int32) (_ : Int32) => (none : Option (Int32))) (gX12_turnOf_L3 h a0 x1) zFU 0 0
set_option maxRecDepth 20000 in
theorem cX12_turnOf_ok (l : Launch) (h : Zh) (a0 : Nat) (x1 : Int32) : Zc l yX12_turnOf mX12_turnOf 0 h [(.ref a0, 12), (.int x1, 0)] ((gX12_turnOf h a0 x1).map (zoi h)) := by
  refine zc_of2 (ls := [some (.ref a0, 12), some (.int x1, 0), none, none]) (j := 2) (by decide +kernel) rfl rfl (zEn_ca (zEn_ci rfl)) (Nat.le_of_ble_eq_true rfl) rfl ?_
  unfold gX12_turnOf
  refine zr_iconst (eX12_turnOf 0 rfl) zk_iconst_0 ?_
  refine zr_istore_n (ls2 := [some (.ref a0, 12), some (.int x1, 0), some (.int 0, 0), none]) (eX12_turnOf 1 rfl) rfl (Nat.le_of_ble_eq_true rfl) rfl ?_
  refine zr_iconst (eX12_turnOf 2 rfl) zk_iconst_0 ?_
  refine zr_istore_n (ls2 := [some (.ref a0, 12), some (.int x1, 0), some (.int 0, 0), some (.int 0, 0)]) (eX12_turnOf 3 rfl) rfl (Nat.le_of_ble_eq_true rfl) rfl ?_
  refine v_drop [true, true, true, true] rfl ?_
  refine zlp_ind (fun (k23 : Int32 → Int32 → Option (Int32)) => ∀ (x21 : Int32) (x22 : Int32), V l mX12_turnOf (zN h) (zS h) 0 (zoi h) 4 [some (.ref a0, 12), some (.int x1, 0), some (.int x21, 0), some (.int x22, 0)] [] h (k23 x21 x22)) ?_ ?_ 0 0
  · exact fun _ _ => v_none
  intro k23 hk23 x21 x22
  unfold gX12_turnOf_L3
  refine zr_iload_n (eX12_turnOf 4 rfl) rfl rfl ?_
  refine zr_aload_n (r := (some a0)) (eX12_turnOf 5 rfl) rfl rfl ?_
  refine zr_getI zf_RX12_111 ⟨by decide, by decide⟩ (eX12_turnOf 6 rfl) ?_
  refine zr_icmp_ge (eX12_turnOf 7 rfl) (t := 61) (by decide) ?_ ?_
  · refine zr_iload_n (eX12_turnOf 37 rfl) rfl rfl ?_
    exact zr_iret rfl rfl (eX12_turnOf 38 rfl)
  · refine zr_iload_n (eX12_turnOf 8 rfl) rfl rfl ?_
    refine zr_iload_n (eX12_turnOf 9 rfl) rfl rfl ?_
    refine zr_iload_n (eX12_turnOf 10 rfl) rfl rfl ?_
    refine zr_invS_i (as := [(.int x1, 0), (.int x22, 0)]) (cX12_hasBit_ok l h x1 x22) rfl zcd_X12_hasBit ⟨zw_1248, zw_1249, zw_62⟩ ⟨Nat.le_of_ble_eq_true rfl, Nat.le_of_ble_eq_true rfl⟩ rfl (Nat.le_of_ble_eq_true rfl) (eX12_turnOf 11 rfl) (fun x24 => ?_)
    refine v_jn (fun (k27 : Int32 → Option (Int32)) => ∀ (x25 : Int32), V l mX12_turnOf (zN h) (zS h) 0 (zoi h) 53 [some (.ref a0, 12), some (.int x1, 0), none, some (.int x22, 0)] [(.int x25, 0), (.int x21, 0)] h (k27 x25)) ?_ ?_
    · intro x25
      unfold gX12_turnOf_J1
      refine zr_ior (eX12_turnOf 33 rfl) ?_
      refine v_leti (fun x26 => ?_)
      refine zr_istore_n (ls2 := [some (.ref a0, 12), some (.int x1, 0), some (.int x26, 0), some (.int x22, 0)]) (eX12_turnOf 34 rfl) rfl (Nat.le_of_ble_eq_true rfl) rfl ?_
      refine zr_iinc (ls2 := [some (.ref a0, 12), some (.int x1, 0), some (.int x26, 0), some (.int (x22 + 1), 0)]) (eX12_turnOf 35 rfl) rfl (Nat.le_of_ble_eq_true rfl) zk_iconst_1 rfl ?_
      refine zr_goto (eX12_turnOf 36 rfl) (t := 4) (by decide) ?_
      exact v_drop [true, true, true, true] rfl (hk23 x26 (x22 + 1))
    intro k27 hk27
    refine zr_if_eq (eX12_turnOf 12 rfl) (t := 52) (by decide) ?_ ?_
    · refine zr_iconst (eX12_turnOf 32 rfl) zk_iconst_0 ?_
      exact v_drop [true, true, false, true] rfl (hk27 0)
    · refine zr_iconst (eX12_turnOf 13 rfl) zk_iconst_1 ?_
      refine zr_aload_n (r := (some a0)) (eX12_turnOf 14 rfl) rfl rfl ?_
      refine zr_getI zf_RX12_115 ⟨by decide, by decide⟩ (eX12_turnOf 15 rfl) ?_
      refine v_jn (fun (k29 : Int32 → Option (Int32)) => ∀ (x28 : Int32), V l mX12_turnOf (zN h) (zS h) 0 (zoi h) 48 [some (.ref a0, 12), some (.int x1, 0), none, some (.int x22, 0)] [(.int x28, 0), (.int 1, 0), (.int x21, 0)] h (k29 x28)) ?_ ?_
      · intro x28
        unfold gX12_turnOf_J2
        refine zr_ishl (eX12_turnOf 30 rfl) ?_
        refine zr_goto (eX12_turnOf 31 rfl) (t := 53) (by decide) ?_
        exact v_drop [true, true, false, true] rfl (hk27 ((1 : Int32) <<< (x28 &&& 31)))
      intro k29 hk29
      refine zr_if_eq (eX12_turnOf 16 rfl) (t := 40) (by decide) ?_ ?_
      · refine zr_aload_n (r := (some a0)) (eX12_turnOf 24 rfl) rfl rfl ?_
        refine zr_getI zf_RX12_111 ⟨by decide, by decide⟩ (eX12_turnOf 25 rfl) ?_
        refine zr_iconst (eX12_turnOf 26 rfl) zk_iconst_1 ?_
        refine zr_isub (eX12_turnOf 27 rfl) ?_
        refine zr_iload_n (eX12_turnOf 28 rfl) rfl rfl ?_
        refine zr_isub (eX12_turnOf 29 rfl) ?_
        exact v_drop [true, true, false, true] rfl (hk29 (((zI h a0 1) - 1) - x22))
      · refine zr_iload_n (eX12_turnOf 17 rfl) rfl rfl ?_
        refine zr_iconst (eX12_turnOf 18 rfl) zk_iconst_1 ?_
        refine zr_iadd (eX12_turnOf 19 rfl) ?_
        refine zr_aload_n (r := (some a0)) (eX12_turnOf 20 rfl) rfl rfl ?_
        refine zr_getI zf_RX12_111 ⟨by decide, by decide⟩ (eX12_turnOf 21 rfl) ?_
        refine zr_irem (eX12_turnOf 22 rfl) ?_
        refine zr_goto (eX12_turnOf 23 rfl) (t := 48) (by decide) ?_
        exact v_drop [true, true, false, true] rfl (hk29 ((x22 + 1) - (x22 + 1) / (zI h a0 1) * (zI h a0 1)))
def gX12_turned (h : Zh) (a0 : Nat) (x1 : Int32) : Option (Int32) :=
  zbi (gX12_noState h a0 x1) (fun x21 => (if (x21 : Int32) = 0 then zbi (gX12_turnOf h a0 x1) (fun x22 => (some x22))
  else (some (-2))))
set_option maxRecDepth 20000 in
theorem cX12_turned_ok (l : Launch) (h : Zh) (a0 : Nat) (x1 : Int32) : Zc l yX12_turned mX12_turned 0 h [(.ref a0, 12), (.int x1, 0)] ((gX12_turned h a0 x1).map (zoi h)) := by
  refine zc_of2 (ls := [some (.ref a0, 12), some (.int x1, 0)]) (j := 0) (by decide +kernel) rfl rfl (zEn_ca (zEn_ci rfl)) (Nat.le_of_ble_eq_true rfl) rfl ?_
  unfold gX12_turned
  refine zr_aload_n (r := (some a0)) (eX12_turned 0 rfl) rfl rfl ?_
  refine zr_iload_n (eX12_turned 1 rfl) rfl rfl ?_
  refine zr_invV_i (as := [(.int x1, 0)]) (cX12_noState_ok l h a0 x1) rfl rfl ⟨by decide, by decide, by decide⟩ zcd_X12_noState rfl ⟨zw_1220, zw_1222, zw_13, zw_62⟩ ⟨Nat.le_of_ble_eq_true rfl, Nat.le_of_ble_eq_true rfl⟩ rfl (Nat.le_of_ble_eq_true rfl) (eX12_turned 2 rfl) (fun x21 => ?_)
  refine zr_if_eq (eX12_turned 3 rfl) (t := 13) (by decide) ?_ ?_
  · refine zr_aload_n (r := (some a0)) (eX12_turned 6 rfl) rfl rfl ?_
    refine zr_iload_n (eX12_turned 7 rfl) rfl rfl ?_
    refine zr_invV_i (as := [(.int x1, 0)]) (cX12_turnOf_ok l h a0 x1) rfl rfl ⟨by decide, by decide, by decide⟩ zcd_X12_turnOf rfl ⟨zw_1244, zw_1246, zw_17, zw_62⟩ ⟨Nat.le_of_ble_eq_true rfl, Nat.le_of_ble_eq_true rfl⟩ rfl (Nat.le_of_ble_eq_true rfl) (eX12_turned 8 rfl) (fun x22 => ?_)
    exact zr_iret rfl rfl (eX12_turned 9 rfl)
  · refine zr_bipush (eX12_turned 4 rfl) zk_bipush_m2 ?_
    refine zr_goto (eX12_turned 5 rfl) (t := 18) (by decide) ?_
    exact zr_iret rfl rfl (eX12_turned 9 rfl)
def gX12_layOrbits_J1 (x21 : Int32) (k22 : Int32 → Zh → Option (Zh)) : Zh → Option (Zh) :=
  fun (h4 : Zh) => k22 (x21 + 1) h4
def gX12_layOrbits_J2 (a0 : Nat) (x21 : Int32) (k25 : Zh → Option (Zh)) (x29 : Int32) (x30 : Int32) : Zh → Option (Zh) :=
  fun (h5 : Zh) => (if (x30 : Int32) = 0 then k25 h5
  else zlt (zR h5 a0 6) (fun r31 => Option.bind r31 (fun a32 => zg (zin (zI h5 a0 5) (zL h5 a32)) (zlt (zsI h5 a32 (zx (zI h5 a0 5)) x21) (fun (h6 : Zh) => zlt (zR h6 a0 9) (fun r33 => Option.bind r33 (fun a34 => zg (zin (zI h6 a0 5) (zL h6 a34)) (zlt (zsI h6 a34 (zx (zI h6 a0 5)) x29) (fun (h7 : Zh) => zlt (zsI h7 a0 5 ((zI h7 a0 5) + 1)) (fun (h8 : Zh) => k25 h8))))))))))
def gX12_layOrbits_J3 (a0 : Nat) (x2 : Int32) (x36 : Int32) (x37 : Int32) (x38 : Int32) (h9 : Zh) (k39 : Int32 → Int32 → Int32 → Zh → Option (Zh)) (r40 : Option Nat) : Int32 → Option (Zh) :=
  fun (x41 : Int32) => Option.bind r40 (fun a42 => zg (zin x36 (zL h9 a42)) (zlt (zsI h9 a42 (zx x36) x41) (fun (h10 : Zh) => zlt (zR h10 a0 8) (fun r43 => Option.bind r43 (fun a44 => zg (zin x36 (zL h10 a44)) (zlt (zsI h10 a44 (zx x36) x37) (fun (h11 : Zh) => zlt (x37 * x2) (fun x45 => zbi (gX12_turnOf h11 a0 x36) (fun x46 => k39 x46 x45 (x38 + 1) h11)))))))))
def gX12_layOrbits_L4 (a0 : Nat) (x2 : Int32) (x29 : Int32) (x30 : Int32) (k35 : Zh → Option (Zh)) : (Int32 → Int32 → Int32 → Zh → Option (Zh)) → Int32 → Int32 → Int32 → Zh → Option (Zh) :=
  fun (k39 : Int32 → Int32 → Int32 → Zh → Option (Zh)) (x36 : Int32) (x37 : Int32) (x38 : Int32) (h9 : Zh) => (if (x29 : Int32) ≤ x38 then k35 h9
  else zlt (zR h9 a0 7) (fun r40 => zjn (gX12_layOrbits_J3 a0 x2 x36 x37 x38 h9 k39 r40) (fun (k47 : Int32 → Option (Zh)) =>
  (if (x30 : Int32) = 0 then k47 (-9)
  else k47 (zI h9 a0 5)))))
def gX12_layOrbits_J5 (a0 : Nat) (x2 : Int32) (x21 : Int32) (h3 : Zh) (k25 : Zh → Option (Zh)) (x29 : Int32) : Int32 → Option (Zh) :=
  fun (x30 : Int32) => zjn (gX12_layOrbits_J2 a0 x21 k25 x29 x30) (fun (k35 : Zh → Option (Zh)) =>
  zlp (fun (_ : Int32) (_ : Int32) (_ : Int32) (_ : Zh) => (none : Option (Zh))) (gX12_layOrbits_L4 a0 x2 x29 x30 k35) zFU x21 1 0 h3)
def gX12_layOrbits_J6 (k48 : Int32 → Option (Zh)) : Option (Zh) :=
  k48 1
def gX12_layOrbits_J7 (a0 : Nat) (x2 : Int32) (x21 : Int32) (h3 : Zh) (k25 : Zh → Option (Zh)) : Int32 → Option (Zh) :=
  fun (x29 : Int32) => zjn (gX12_layOrbits_J5 a0 x2 x21 h3 k25 x29) (fun (k48 : Int32 → Option (Zh)) =>
  zjn (gX12_layOrbits_J6 k48) (fun (k49 : Option (Zh)) =>
  (if (x2 : Int32) = 1 then k49
  else (if (2 : Int32) = 0 then none else (if ((x29 - x29 / 2 * 2) : Int32) = 0 then k49
  else k48 0)))))
def gX12_layOrbits_L8 (a0 : Nat) (x21 : Int32) (h3 : Zh) (k50 : Int32 → Option (Zh)) : (Int32 → Int32 → Option (Zh)) → Int32 → Int32 → Option (Zh) :=
  fun (k53 : Int32 → Int32 → Option (Zh)) (x51 : Int32) (x52 : Int32) => (if (x52 : Int32) = x21 then k50 x51
  else zbi (gX12_turnOf h3 a0 x52) (fun x54 => k53 (x51 + 1) x54))
def gX12_layOrbits_L9 (a0 : Nat) (x1 : Int32) (x2 : Int32) : (Int32 → Zh → Option (Zh)) → Int32 → Zh → Option (Zh) :=
  fun (k22 : Int32 → Zh → Option (Zh)) (x21 : Int32) (h3 : Zh) => zbi (gX12_stateMany h3 a0) (fun x23 => (if (x23 : Int32) ≤ x21 then some h3
  else zbi (gX12_count x21) (fun x24 => zjn (gX12_layOrbits_J1 x21 k22) (fun (k25 : Zh → Option (Zh)) =>
  (if (x24 : Int32) = x1 then zlt (zR h3 a0 7) (fun r26 => Option.bind r26 (fun a27 => zg (zin x21 (zL h3 a27)) ((if ((zI h3 a27 (zx x21)) : Int32) = (-1) then zbi (gX12_turnOf h3 a0 x21) (fun x28 => zjn (gX12_layOrbits_J7 a0 x2 x21 h3 k25) (fun (k50 : Int32 → Option (Zh)) =>
  zlp (fun (_ : Int32) (_ : Int32) => (none : Option (Zh))) (gX12_layOrbits_L8 a0 x21 h3 k50) zFU 1 x28))
  else k25 h3))))
  else k25 h3)))))
def gX12_layOrbits_J10 (a0 : Nat) (x1 : Int32) (x2 : Int32) : Zh → Option (Zh) :=
  fun (h2 : Zh) => zlp (fun (_ : Int32) (_ : Zh) => (none : Option (Zh))) (gX12_layOrbits_L9 a0 x1 x2) zFU 0 h2
def gX12_layOrbits_L11 (a0 : Nat) (k55 : Zh → Option (Zh)) : (Int32 → Zh → Option (Zh)) → Int32 → Zh → Option (Zh) :=
  fun (k57 : Int32 → Zh → Option (Zh)) (x56 : Int32) (h12 : Zh) => zbi (gX12_stateMany h12 a0) (fun x58 => (if (x58 : Int32) ≤ x56 then k55 h12
  else zlt (zR h12 a0 7) (fun r59 => Option.bind r59 (fun a60 => zg (zin x56 (zL h12 a60)) (zlt (zsI h12 a60 (zx x56) (-1)) (fun (h13 : Zh) => k57 (x56 + 1) h13))))))
def gX12_layOrbits (h : Zh) (a0 : Nat) (x1 : Int32) (x2 : Int32) : Option (Zh) :=
  zlt (zsI h a0 5 0) (fun (h1 : Zh) => zjn (gX12_layOrbits_J10 a0 x1 x2) (fun (k55 : Zh → Option (Zh)) =>
  zlp (fun (_ : Int32) (_ : Zh) => (none : Option (Zh))) (gX12_layOrbits_L11 a0 k55) zFU 0 h1))
set_option maxRecDepth 20000 in
theorem cX12_layOrbits_ok (l : Launch) (h : Zh) (a0 : Nat) (x1 : Int32) (x2 : Int32) : Zc l yX12_layOrbits mX12_layOrbits 0 h [(.ref a0, 12), (.int x1, 0), (.int x2, 0)] ((gX12_layOrbits h a0 x1 x2).map zoV) := by
  refine zc_of2 (ls := [some (.ref a0, 12), some (.int x1, 0), some (.int x2, 0), none, none, none, none, none, none]) (j := 6) (by decide +kernel) rfl rfl (zEn_ca (zEn_ci (zEn_ci rfl))) (Nat.le_of_ble_eq_true rfl) rfl ?_
  unfold gX12_layOrbits
  refine zr_aload_n (r := (some a0)) (eX12_layOrbits 0 rfl) rfl rfl ?_
  refine zr_iconst (eX12_layOrbits 1 rfl) zk_iconst_0 ?_
  refine zr_putI zf_RX12_183 rfl (Or.inl rfl) (eX12_layOrbits 2 rfl) ?_
  refine v_leth (fun h1 => ?_)
  refine zr_iconst (eX12_layOrbits 3 rfl) zk_iconst_0 ?_
  refine zr_istore_n (ls2 := [some (.ref a0, 12), some (.int x1, 0), some (.int x2, 0), some (.int 0, 0), none, none, none, none, none]) (eX12_layOrbits 4 rfl) rfl (Nat.le_of_ble_eq_true rfl) rfl ?_
  refine v_jn (fun (k55 : Zh → Option (Zh)) => ∀ (h2 : Zh), V l mX12_layOrbits (zN h) (zS h) 0 zoV 28 [some (.ref a0, 12), some (.int x1, 0), some (.int x2, 0), none, none, none, none, none, none] [] h2 (k55 h2)) ?_ ?_
  · intro h2
    unfold gX12_layOrbits_J10
    refine zr_iconst (eX12_layOrbits 16 rfl) zk_iconst_0 ?_
    refine zr_istore_n (ls2 := [some (.ref a0, 12), some (.int x1, 0), some (.int x2, 0), some (.int 0, 0), none, none, none, none, none]) (eX12_layOrbits 17 rfl) rfl (Nat.le_of_ble_eq_true rfl) rfl ?_
    refine v_drop [true, true, true, true, false, false, false, false, false] rfl ?_
    refine zlp_ind (fun (k22 : Int32 → Zh → Option (Zh)) => ∀ (x21 : Int32) (h3 : Zh), V l mX12_layOrbits (zN h) (zS h) 0 zoV 30 [some (.ref a0, 12), some (.int x1, 0), some (.int x2, 0), some (.int x21, 0), none, none, none, none, none] [] h3 (k22 x21 h3)) ?_ ?_ 0 h2
    · exact fun _ _ => v_none
    intro k22 hk22 x21 h3
    unfold gX12_layOrbits_L9
    refine zr_iload_n (eX12_layOrbits 18 rfl) rfl rfl ?_
    refine zr_aload_n (r := (some a0)) (eX12_layOrbits 19 rfl) rfl rfl ?_
    refine zr_invV_i (as := []) (cX12_stateMany_ok l h3 a0) rfl rfl ⟨by decide, by decide, by decide⟩ zcd_X12_stateMany rfl ⟨zw_1212, zw_1214, zw_12, zw_62⟩ ⟨Nat.le_of_ble_eq_true rfl, Nat.le_of_ble_eq_true rfl⟩ rfl (Nat.le_of_ble_eq_true rfl) (eX12_layOrbits 20 rfl) (fun x23 => ?_)
    refine zr_icmp_ge (eX12_layOrbits 21 rfl) (t := 213) (by decide) ?_ ?_
    · exact zr_vret rfl rfl (eX12_layOrbits 114 rfl)
    · refine zr_iload_n (eX12_layOrbits 22 rfl) rfl rfl ?_
      refine zr_invS_i (as := [(.int x21, 0)]) (cX12_count_ok l h3 x21) rfl zcd_X12_count ⟨zw_1263, zw_1264, zw_62⟩ ⟨Nat.le_of_ble_eq_true rfl, Nat.le_of_ble_eq_true rfl⟩ rfl (Nat.le_of_ble_eq_true rfl) (eX12_layOrbits 23 rfl) (fun x24 => ?_)
      refine zr_iload_n (eX12_layOrbits 24 rfl) rfl rfl ?_
      refine v_jn (fun (k25 : Zh → Option (Zh)) => ∀ (h4 : Zh), V l mX12_layOrbits (zN h) (zS h) 0 zoV 207 [some (.ref a0, 12), some (.int x1, 0), some (.int x2, 0), some (.int x21, 0), none, none, none, none, none] [] h4 (k25 h4)) ?_ ?_
      · intro h4
        unfold gX12_layOrbits_J1
        refine zr_iinc (ls2 := [some (.ref a0, 12), some (.int x1, 0), some (.int x2, 0), some (.int (x21 + 1), 0), none, none, none, none, none]) (eX12_layOrbits 112 rfl) rfl (Nat.le_of_ble_eq_true rfl) zk_iconst_1 rfl ?_
        refine zr_goto (eX12_layOrbits 113 rfl) (t := 30) (by decide) ?_
        exact v_drop [true, true, true, true, false, false, false, false, false] rfl (hk22 (x21 + 1) h4)
      intro k25 hk25
      refine zr_icmp_ne (eX12_layOrbits 25 rfl) (t := 207) (by decide) ?_ ?_
      · exact v_drop [true, true, true, true, false, false, false, false, false] rfl (hk25 h3)
      · refine zr_aload_n (r := (some a0)) (eX12_layOrbits 26 rfl) rfl rfl ?_
        refine zr_getR2 zf_RX12_13 (τ2 := 20) rfl (eX12_layOrbits 27 rfl) ?_
        refine v_letr (fun r26 => ?_)
        refine zr_iload_n (eX12_layOrbits 28 rfl) rfl rfl ?_
        refine v_nn (fun a27 ea27 => ?_)
        subst ea27
        refine zr_iald (eX12_layOrbits 29 rfl) ?_
        refine zr_iconst (eX12_layOrbits 30 rfl) zk_iconst_m1 ?_
        refine zr_icmp_ne (eX12_layOrbits 31 rfl) (t := 207) (by decide) ?_ ?_
        · exact v_drop [true, true, true, true, false, false, false, false, false] rfl (hk25 h3)
        · refine zr_iconst (eX12_layOrbits 32 rfl) zk_iconst_1 ?_
          refine zr_istore (ls2 := [some (.ref a0, 12), some (.int x1, 0), some (.int x2, 0), some (.int x21, 0), some (.int 1, 0), none, none, none, none]) (eX12_layOrbits 33 rfl) (Nat.le_of_ble_eq_true rfl) rfl ?_
          refine zr_aload_n (r := (some a0)) (eX12_layOrbits 34 rfl) rfl rfl ?_
          refine zr_iload_n (eX12_layOrbits 35 rfl) rfl rfl ?_
          refine zr_invV_i (as := [(.int x21, 0)]) (cX12_turnOf_ok l h3 a0 x21) rfl rfl ⟨by decide, by decide, by decide⟩ zcd_X12_turnOf rfl ⟨zw_1244, zw_1246, zw_17, zw_62⟩ ⟨Nat.le_of_ble_eq_true rfl, Nat.le_of_ble_eq_true rfl⟩ rfl (Nat.le_of_ble_eq_true rfl) (eX12_layOrbits 36 rfl) (fun x28 => ?_)
          refine zr_istore (ls2 := [some (.ref a0, 12), some (.int x1, 0), some (.int x2, 0), some (.int x21, 0), some (.int 1, 0), some (.int x28, 0), none, none, none]) (eX12_layOrbits 37 rfl) (Nat.le_of_ble_eq_true rfl) rfl ?_
          refine v_jn (fun (k50 : Int32 → Option (Zh)) => ∀ (x29 : Int32), V l mX12_layOrbits (zN h) (zS h) 0 zoV 86 [some (.ref a0, 12), some (.int x1, 0), some (.int x2, 0), some (.int x21, 0), some (.int x29, 0), none, none, none, none] [] h3 (k50 x29)) ?_ ?_
          · intro x29
            unfold gX12_layOrbits_J7
            refine zr_iload_n (eX12_layOrbits 47 rfl) rfl rfl ?_
            refine zr_iconst (eX12_layOrbits 48 rfl) zk_iconst_1 ?_
            refine v_jn (fun (k48 : Int32 → Option (Zh)) => ∀ (x30 : Int32), V l mX12_layOrbits (zN h) (zS h) 0 zoV 103 [some (.ref a0, 12), some (.int x1, 0), some (.int x2, 0), some (.int x21, 0), some (.int x29, 0), none, none, none, none] [(.int x30, 0)] h3 (k48 x30)) ?_ ?_
            · intro x30
              unfold gX12_layOrbits_J5
              refine zr_istore (ls2 := [some (.ref a0, 12), some (.int x1, 0), some (.int x2, 0), some (.int x21, 0), some (.int x29, 0), some (.int x30, 0), none, none, none]) (eX12_layOrbits 57 rfl) (Nat.le_of_ble_eq_true rfl) rfl ?_
              refine zr_iload_n (eX12_layOrbits 58 rfl) rfl rfl ?_
              refine zr_istore (ls2 := [some (.ref a0, 12), some (.int x1, 0), some (.int x2, 0), some (.int x21, 0), some (.int x29, 0), some (.int x30, 0), some (.int x21, 0), none, none]) (eX12_layOrbits 59 rfl) (Nat.le_of_ble_eq_true rfl) rfl ?_
              refine zr_iconst (eX12_layOrbits 60 rfl) zk_iconst_1 ?_
              refine zr_istore (ls2 := [some (.ref a0, 12), some (.int x1, 0), some (.int x2, 0), some (.int x21, 0), some (.int x29, 0), some (.int x30, 0), some (.int x21, 0), some (.int 1, 0), none]) (eX12_layOrbits 61 rfl) (Nat.le_of_ble_eq_true rfl) rfl ?_
              refine zr_iconst (eX12_layOrbits 62 rfl) zk_iconst_0 ?_
              refine zr_istore (ls2 := [some (.ref a0, 12), some (.int x1, 0), some (.int x2, 0), some (.int x21, 0), some (.int x29, 0), some (.int x30, 0), some (.int x21, 0), some (.int 1, 0), some (.int 0, 0)]) (eX12_layOrbits 63 rfl) (Nat.le_of_ble_eq_true rfl) rfl ?_
              refine v_jn (fun (k35 : Zh → Option (Zh)) => ∀ (h5 : Zh), V l mX12_layOrbits (zN h) (zS h) 0 zoV 171 [some (.ref a0, 12), some (.int x1, 0), some (.int x2, 0), some (.int x21, 0), some (.int x29, 0), some (.int x30, 0), none, none, none] [] h5 (k35 h5)) ?_ ?_
              · intro h5
                unfold gX12_layOrbits_J2
                refine zr_iload (eX12_layOrbits 92 rfl) rfl ?_
                refine zr_if_eq (eX12_layOrbits 93 rfl) (t := 207) (by decide) ?_ ?_
                · exact v_drop [true, true, true, true, false, false, false, false, false] rfl (hk25 h5)
                · refine zr_aload_n (r := (some a0)) (eX12_layOrbits 94 rfl) rfl rfl ?_
                  refine zr_getR2 zf_RX12_7 (τ2 := 20) rfl (eX12_layOrbits 95 rfl) ?_
                  refine v_letr (fun r31 => ?_)
                  refine zr_aload_n (r := (some a0)) (eX12_layOrbits 96 rfl) rfl rfl ?_
                  refine zr_getI zf_RX12_183 ⟨by decide, by decide⟩ (eX12_layOrbits 97 rfl) ?_
                  refine zr_iload_n (eX12_layOrbits 98 rfl) rfl rfl ?_
                  refine v_nn (fun a32 ea32 => ?_)
                  subst ea32
                  refine zr_iast (eX12_layOrbits 99 rfl) ?_
                  refine v_leth (fun h6 => ?_)
                  refine zr_aload_n (r := (some a0)) (eX12_layOrbits 100 rfl) rfl rfl ?_
                  refine zr_getR2 zf_RX12_19 (τ2 := 20) rfl (eX12_layOrbits 101 rfl) ?_
                  refine v_letr (fun r33 => ?_)
                  refine zr_aload_n (r := (some a0)) (eX12_layOrbits 102 rfl) rfl rfl ?_
                  refine zr_getI zf_RX12_183 ⟨by decide, by decide⟩ (eX12_layOrbits 103 rfl) ?_
                  refine zr_iload (eX12_layOrbits 104 rfl) rfl ?_
                  refine v_nn (fun a34 ea34 => ?_)
                  subst ea34
                  refine zr_iast (eX12_layOrbits 105 rfl) ?_
                  refine v_leth (fun h7 => ?_)
                  refine zr_aload_n (r := (some a0)) (eX12_layOrbits 106 rfl) rfl rfl ?_
                  refine zr_dup (eX12_layOrbits 107 rfl) rfl ?_
                  refine zr_getI zf_RX12_183 ⟨by decide, by decide⟩ (eX12_layOrbits 108 rfl) ?_
                  refine zr_iconst (eX12_layOrbits 109 rfl) zk_iconst_1 ?_
                  refine zr_iadd (eX12_layOrbits 110 rfl) ?_
                  refine zr_putI zf_RX12_183 rfl (Or.inl rfl) (eX12_layOrbits 111 rfl) ?_
                  refine v_leth (fun h8 => ?_)
                  exact v_drop [true, true, true, true, false, false, false, false, false] rfl (hk25 h8)
              intro k35 hk35
              refine v_drop [true, true, true, true, true, true, true, true, true] rfl ?_
              refine zlp_ind (fun (k39 : Int32 → Int32 → Int32 → Zh → Option (Zh)) => ∀ (x36 : Int32) (x37 : Int32) (x38 : Int32) (h9 : Zh), V l mX12_layOrbits (zN h) (zS h) 0 zoV 114 [some (.ref a0, 12), some (.int x1, 0), some (.int x2, 0), some (.int x21, 0), some (.int x29, 0), some (.int x30, 0), some (.int x36, 0), some (.int x37, 0), some (.int x38, 0)] [] h9 (k39 x36 x37 x38 h9)) ?_ ?_ x21 1 0 h3
              · exact fun _ _ _ _ => v_none
              intro k39 hk39 x36 x37 x38 h9
              unfold gX12_layOrbits_L4
              refine zr_iload (eX12_layOrbits 64 rfl) rfl ?_
              refine zr_iload (eX12_layOrbits 65 rfl) rfl ?_
              refine zr_icmp_ge (eX12_layOrbits 66 rfl) (t := 171) (by decide) ?_ ?_
              · exact v_drop [true, true, true, true, true, true, false, false, false] rfl (hk35 h9)
              · refine zr_aload_n (r := (some a0)) (eX12_layOrbits 67 rfl) rfl rfl ?_
                refine zr_getR2 zf_RX12_13 (τ2 := 20) rfl (eX12_layOrbits 68 rfl) ?_
                refine v_letr (fun r40 => ?_)
                refine zr_iload (eX12_layOrbits 69 rfl) rfl ?_
                refine zr_iload (eX12_layOrbits 70 rfl) rfl ?_
                refine v_jn (fun (k47 : Int32 → Option (Zh)) => ∀ (x41 : Int32), V l mX12_layOrbits (zN h) (zS h) 0 zoV 141 [some (.ref a0, 12), some (.int x1, 0), some (.int x2, 0), some (.int x21, 0), some (.int x29, 0), some (.int x30, 0), some (.int x36, 0), some (.int x37, 0), some (.int x38, 0)] [(.int x41, 0), (.int x36, 0), (va_rf r40, 20)] h9 (k47 x41)) ?_ ?_
                · intro x41
                  unfold gX12_layOrbits_J3
                  refine v_nn (fun a42 ea42 => ?_)
                  subst ea42
                  refine zr_iast (eX12_layOrbits 76 rfl) ?_
                  refine v_leth (fun h10 => ?_)
                  refine zr_aload_n (r := (some a0)) (eX12_layOrbits 77 rfl) rfl rfl ?_
                  refine zr_getR2 zf_RX12_16 (τ2 := 20) rfl (eX12_layOrbits 78 rfl) ?_
                  refine v_letr (fun r43 => ?_)
                  refine zr_iload (eX12_layOrbits 79 rfl) rfl ?_
                  refine zr_iload (eX12_layOrbits 80 rfl) rfl ?_
                  refine v_nn (fun a44 ea44 => ?_)
                  subst ea44
                  refine zr_iast (eX12_layOrbits 81 rfl) ?_
                  refine v_leth (fun h11 => ?_)
                  refine zr_iload (eX12_layOrbits 82 rfl) rfl ?_
                  refine zr_iload_n (eX12_layOrbits 83 rfl) rfl rfl ?_
                  refine zr_imul (eX12_layOrbits 84 rfl) ?_
                  refine v_leti (fun x45 => ?_)
                  refine zr_istore (ls2 := [some (.ref a0, 12), some (.int x1, 0), some (.int x2, 0), some (.int x21, 0), some (.int x29, 0), some (.int x30, 0), some (.int x36, 0), some (.int x45, 0), some (.int x38, 0)]) (eX12_layOrbits 85 rfl) (Nat.le_of_ble_eq_true rfl) rfl ?_
                  refine zr_aload_n (r := (some a0)) (eX12_layOrbits 86 rfl) rfl rfl ?_
                  refine zr_iload (eX12_layOrbits 87 rfl) rfl ?_
                  refine zr_invV_i (as := [(.int x36, 0)]) (cX12_turnOf_ok l h11 a0 x36) rfl rfl ⟨by decide, by decide, by decide⟩ zcd_X12_turnOf rfl ⟨zw_1244, zw_1246, zw_17, zw_62⟩ ⟨Nat.le_of_ble_eq_true rfl, Nat.le_of_ble_eq_true rfl⟩ rfl (Nat.le_of_ble_eq_true rfl) (eX12_layOrbits 88 rfl) (fun x46 => ?_)
                  refine zr_istore (ls2 := [some (.ref a0, 12), some (.int x1, 0), some (.int x2, 0), some (.int x21, 0), some (.int x29, 0), some (.int x30, 0), some (.int x46, 0), some (.int x45, 0), some (.int x38, 0)]) (eX12_layOrbits 89 rfl) (Nat.le_of_ble_eq_true rfl) rfl ?_
                  refine zr_iinc (ls2 := [some (.ref a0, 12), some (.int x1, 0), some (.int x2, 0), some (.int x21, 0), some (.int x29, 0), some (.int x30, 0), some (.int x46, 0), some (.int x45, 0), some (.int (x38 + 1), 0)]) (eX12_layOrbits 90 rfl) rfl (Nat.le_of_ble_eq_true rfl) zk_iconst_1 rfl ?_
                  refine zr_goto (eX12_layOrbits 91 rfl) (t := 114) (by decide) ?_
                  exact v_drop [true, true, true, true, true, true, true, true, true] rfl (hk39 x46 x45 (x38 + 1) h11)
                intro k47 hk47
                refine zr_if_eq (eX12_layOrbits 71 rfl) (t := 139) (by decide) ?_ ?_
                · refine zr_bipush (eX12_layOrbits 75 rfl) zk_bipush_m9 ?_
                  exact v_drop [true, true, true, true, true, true, true, true, true] rfl (hk47 (-9))
                · refine zr_aload_n (r := (some a0)) (eX12_layOrbits 72 rfl) rfl rfl ?_
                  refine zr_getI zf_RX12_183 ⟨by decide, by decide⟩ (eX12_layOrbits 73 rfl) ?_
                  refine zr_goto (eX12_layOrbits 74 rfl) (t := 141) (by decide) ?_
                  exact v_drop [true, true, true, true, true, true, true, true, true] rfl (hk47 (zI h9 a0 5))
            intro k48 hk48
            refine v_jn (fun (k49 : Option (Zh)) => V l mX12_layOrbits (zN h) (zS h) 0 zoV 98 [some (.ref a0, 12), some (.int x1, 0), some (.int x2, 0), some (.int x21, 0), some (.int x29, 0), none, none, none, none] [] h3 k49) ?_ ?_
            · skip
              unfold gX12_layOrbits_J6
              refine zr_iconst (eX12_layOrbits 54 rfl) zk_iconst_1 ?_
              refine zr_goto (eX12_layOrbits 55 rfl) (t := 103) (by decide) ?_
              exact v_drop [true, true, true, true, true, false, false, false, false] rfl (hk48 1)
            intro k49 hk49
            refine zr_icmp_eq (eX12_layOrbits 49 rfl) (t := 98) (by decide) ?_ ?_
            · exact v_drop [true, true, true, true, true, false, false, false, false] rfl (hk49)
            · refine zr_iload (eX12_layOrbits 50 rfl) rfl ?_
              refine zr_iconst (eX12_layOrbits 51 rfl) zk_iconst_2 ?_
              refine zr_irem (eX12_layOrbits 52 rfl) ?_
              refine zr_if_ne (eX12_layOrbits 53 rfl) (t := 102) (by decide) ?_ ?_
              · refine zr_iconst (eX12_layOrbits 56 rfl) zk_iconst_0 ?_
                exact v_drop [true, true, true, true, true, false, false, false, false] rfl (hk48 0)
              · exact v_drop [true, true, true, true, true, false, false, false, false] rfl (hk49)
          intro k50 hk50
          refine v_drop [true, true, true, true, true, true, false, false, false] rfl ?_
          refine zlp_ind (fun (k53 : Int32 → Int32 → Option (Zh)) => ∀ (x51 : Int32) (x52 : Int32), V l mX12_layOrbits (zN h) (zS h) 0 zoV 66 [some (.ref a0, 12), some (.int x1, 0), some (.int x2, 0), some (.int x21, 0), some (.int x51, 0), some (.int x52, 0), none, none, none] [] h3 (k53 x51 x52)) ?_ ?_ 1 x28
          · exact fun _ _ => v_none
          intro k53 hk53 x51 x52
          unfold gX12_layOrbits_L8
          refine zr_iload (eX12_layOrbits 38 rfl) rfl ?_
          refine zr_iload_n (eX12_layOrbits 39 rfl) rfl rfl ?_
          refine zr_icmp_eq (eX12_layOrbits 40 rfl) (t := 86) (by decide) ?_ ?_
          · exact v_drop [true, true, true, true, true, false, false, false, false] rfl (hk50 x51)
          · refine zr_iinc (ls2 := [some (.ref a0, 12), some (.int x1, 0), some (.int x2, 0), some (.int x21, 0), some (.int (x51 + 1), 0), some (.int x52, 0), none, none, none]) (eX12_layOrbits 41 rfl) rfl (Nat.le_of_ble_eq_true rfl) zk_iconst_1 rfl ?_
            refine zr_aload_n (r := (some a0)) (eX12_layOrbits 42 rfl) rfl rfl ?_
            refine zr_iload (eX12_layOrbits 43 rfl) rfl ?_
            refine zr_invV_i (as := [(.int x52, 0)]) (cX12_turnOf_ok l h3 a0 x52) rfl rfl ⟨by decide, by decide, by decide⟩ zcd_X12_turnOf rfl ⟨zw_1244, zw_1246, zw_17, zw_62⟩ ⟨Nat.le_of_ble_eq_true rfl, Nat.le_of_ble_eq_true rfl⟩ rfl (Nat.le_of_ble_eq_true rfl) (eX12_layOrbits 44 rfl) (fun x54 => ?_)
            refine zr_istore (ls2 := [some (.ref a0, 12), some (.int x1, 0), some (.int x2, 0), some (.int x21, 0), some (.int (x51 + 1), 0), some (.int x54, 0), none, none, none]) (eX12_layOrbits 45 rfl) (Nat.le_of_ble_eq_true rfl) rfl ?_
            refine zr_goto (eX12_layOrbits 46 rfl) (t := 66) (by decide) ?_
            exact v_drop [true, true, true, true, true, true, false, false, false] rfl (hk53 (x51 + 1) x54)
  intro k55 hk55
  refine v_drop [true, true, true, true, false, false, false, false, false] rfl ?_
  refine zlp_ind (fun (k57 : Int32 → Zh → Option (Zh)) => ∀ (x56 : Int32) (h12 : Zh), V l mX12_layOrbits (zN h) (zS h) 0 zoV 7 [some (.ref a0, 12), some (.int x1, 0), some (.int x2, 0), some (.int x56, 0), none, none, none, none, none] [] h12 (k57 x56 h12)) ?_ ?_ 0 h1
  · exact fun _ _ => v_none
  intro k57 hk57 x56 h12
  unfold gX12_layOrbits_L11
  refine zr_iload_n (eX12_layOrbits 5 rfl) rfl rfl ?_
  refine zr_aload_n (r := (some a0)) (eX12_layOrbits 6 rfl) rfl rfl ?_
  refine zr_invV_i (as := []) (cX12_stateMany_ok l h12 a0) rfl rfl ⟨by decide, by decide, by decide⟩ zcd_X12_stateMany rfl ⟨zw_1212, zw_1214, zw_12, zw_62⟩ ⟨Nat.le_of_ble_eq_true rfl, Nat.le_of_ble_eq_true rfl⟩ rfl (Nat.le_of_ble_eq_true rfl) (eX12_layOrbits 7 rfl) (fun x58 => ?_)
  refine zr_icmp_ge (eX12_layOrbits 8 rfl) (t := 28) (by decide) ?_ ?_
  · exact v_drop [true, true, true, false, false, false, false, false, false] rfl (hk55 h12)
  · refine zr_aload_n (r := (some a0)) (eX12_layOrbits 9 rfl) rfl rfl ?_
    refine zr_getR2 zf_RX12_13 (τ2 := 20) rfl (eX12_layOrbits 10 rfl) ?_
    refine v_letr (fun r59 => ?_)
    refine zr_iload_n (eX12_layOrbits 11 rfl) rfl rfl ?_
    refine zr_iconst (eX12_layOrbits 12 rfl) zk_iconst_m1 ?_
    refine v_nn (fun a60 ea60 => ?_)
    subst ea60
    refine zr_iast (eX12_layOrbits 13 rfl) ?_
    refine v_leth (fun h13 => ?_)
    refine zr_iinc (ls2 := [some (.ref a0, 12), some (.int x1, 0), some (.int x2, 0), some (.int (x56 + 1), 0), none, none, none, none, none]) (eX12_layOrbits 14 rfl) rfl (Nat.le_of_ble_eq_true rfl) zk_iconst_1 rfl ?_
    refine zr_goto (eX12_layOrbits 15 rfl) (t := 7) (by decide) ?_
    exact v_drop [true, true, true, true, false, false, false, false, false] rfl (hk57 (x56 + 1) h13)
def gX12_noSector_J1 : Option (Int32) :=
  (some 1)
def gX12_noSector_J2 : Option (Int32) :=
  (some 0)
def gX12_noSector (h : Zh) (a0 : Nat) (x1 : Int32) (x2 : Int32) : Option (Int32) :=
  zbi (gX12_in ((x1 : Int32).toInt64) 0 (((zI h a0 1) : Int32).toInt64)) (fun x21 => zjn gX12_noSector_J1 (fun (k22 : Option (Int32)) =>
  (if (x21 : Int32) = 0 then k22
  else zjn gX12_noSector_J2 (fun (k23 : Option (Int32)) =>
  (if (x2 : Int32) = 1 then k23
  else (if (x2 : Int32) = (-1) then k23
  else k22))))))
set_option maxRecDepth 20000 in
theorem cX12_noSector_ok (l : Launch) (h : Zh) (a0 : Nat) (x1 : Int32) (x2 : Int32) : Zc l yX12_noSector mX12_noSector 0 h [(.ref a0, 12), (.int x1, 0), (.int x2, 0)] ((gX12_noSector h a0 x1 x2).map (zoi h)) := by
  refine zc_of2 (ls := [some (.ref a0, 12), some (.int x1, 0), some (.int x2, 0)]) (j := 0) (by decide +kernel) rfl rfl (zEn_ca (zEn_ci (zEn_ci rfl))) (Nat.le_of_ble_eq_true rfl) rfl ?_
  unfold gX12_noSector
  refine zr_iload_n (eX12_noSector 0 rfl) rfl rfl ?_
  refine zr_i2l (eX12_noSector 1 rfl) ?_
  refine zr_lconst (eX12_noSector 2 rfl) zk_lconst_0 ?_
  refine zr_aload_n (r := (some a0)) (eX12_noSector 3 rfl) rfl rfl ?_
  refine zr_getI zf_RX12_111 ⟨by decide, by decide⟩ (eX12_noSector 4 rfl) ?_
  refine zr_i2l (eX12_noSector 5 rfl) ?_
  refine zr_invS_i (as := [(.long ((x1 : Int32).toInt64), 0), (.long 0, 0), (.long (((zI h a0 1) : Int32).toInt64), 0)]) (cX12_in_ok l h ((x1 : Int32).toInt64) 0 (((zI h a0 1) : Int32).toInt64)) rfl zcd_X12_in ⟨zw_1203, zw_1204, zw_62⟩ ⟨Nat.le_of_ble_eq_true rfl, Nat.le_of_ble_eq_true rfl⟩ rfl (Nat.le_of_ble_eq_true rfl) (eX12_noSector 6 rfl) (fun x21 => ?_)
  refine v_jn (fun (k22 : Option (Int32)) => V l mX12_noSector (zN h) (zS h) 0 (zoi h) 24 [none, none, none] [] h k22) ?_ ?_
  · skip
    unfold gX12_noSector_J1
    refine zr_iconst (eX12_noSector 14 rfl) zk_iconst_1 ?_
    refine zr_goto (eX12_noSector 15 rfl) (t := 29) (by decide) ?_
    exact zr_zret rfl (by decide) rfl (eX12_noSector 17 rfl)
  intro k22 hk22
  refine zr_if_eq (eX12_noSector 7 rfl) (t := 24) (by decide) ?_ ?_
  · exact v_drop [false, false, false] rfl (hk22)
  · refine zr_iload_n (eX12_noSector 8 rfl) rfl rfl ?_
    refine zr_iconst (eX12_noSector 9 rfl) zk_iconst_1 ?_
    refine v_jn (fun (k23 : Option (Int32)) => V l mX12_noSector (zN h) (zS h) 0 (zoi h) 28 [none, none, none] [] h k23) ?_ ?_
    · skip
      unfold gX12_noSector_J2
      refine zr_iconst (eX12_noSector 16 rfl) zk_iconst_0 ?_
      exact zr_zret rfl (by decide) rfl (eX12_noSector 17 rfl)
    intro k23 hk23
    refine zr_icmp_eq (eX12_noSector 10 rfl) (t := 28) (by decide) ?_ ?_
    · exact v_drop [false, false, false] rfl (hk23)
    · refine zr_iload_n (eX12_noSector 11 rfl) rfl rfl ?_
      refine zr_iconst (eX12_noSector 12 rfl) zk_iconst_m1 ?_
      refine zr_icmp_eq (eX12_noSector 13 rfl) (t := 28) (by decide) ?_ ?_
      · exact v_drop [false, false, false] rfl (hk23)
      · exact v_drop [false, false, false] rfl (hk22)
def gX12_size (h : Zh) (a0 : Nat) (x1 : Int32) (x2 : Int32) : Option (Int32 × Zh) :=
  zbi (gX12_noSector h a0 x1 x2) (fun x21 => (if (x21 : Int32) = 0 then zbV (gX12_layOrbits h a0 x1 x2) (fun h1 => (some ((zI h1 a0 5), h1)))
  else (some ((-2), h))))
set_option maxRecDepth 20000 in
theorem cX12_size_ok (l : Launch) (h : Zh) (a0 : Nat) (x1 : Int32) (x2 : Int32) : Zc l yX12_size mX12_size 0 h [(.ref a0, 12), (.int x1, 0), (.int x2, 0)] ((gX12_size h a0 x1 x2).map zoI) := by
  refine zc_of2 (ls := [some (.ref a0, 12), some (.int x1, 0), some (.int x2, 0)]) (j := 0) (by decide +kernel) rfl rfl (zEn_ca (zEn_ci (zEn_ci rfl))) (Nat.le_of_ble_eq_true rfl) rfl ?_
  unfold gX12_size
  refine zr_aload_n (r := (some a0)) (eX12_size 0 rfl) rfl rfl ?_
  refine zr_iload_n (eX12_size 1 rfl) rfl rfl ?_
  refine zr_iload_n (eX12_size 2 rfl) rfl rfl ?_
  refine zr_invV_i (as := [(.int x1, 0), (.int x2, 0)]) (cX12_noSector_ok l h a0 x1 x2) rfl rfl ⟨by decide, by decide, by decide⟩ zcd_X12_noSector rfl ⟨zw_1255, zw_1257, zw_18, zw_62⟩ ⟨Nat.le_of_ble_eq_true rfl, Nat.le_of_ble_eq_true rfl⟩ rfl (Nat.le_of_ble_eq_true rfl) (eX12_size 3 rfl) (fun x21 => ?_)
  refine zr_if_eq (eX12_size 4 rfl) (t := 12) (by decide) ?_ ?_
  · refine zr_aload_n (r := (some a0)) (eX12_size 7 rfl) rfl rfl ?_
    refine zr_iload_n (eX12_size 8 rfl) rfl rfl ?_
    refine zr_iload_n (eX12_size 9 rfl) rfl rfl ?_
    refine zr_invV_V (as := [(.int x1, 0), (.int x2, 0)]) (cX12_layOrbits_ok l h a0 x1 x2) rfl rfl ⟨by decide, by decide, by decide⟩ zcd_X12_layOrbits rfl ⟨zw_1259, zw_1261, zw_19, zw_62⟩ ⟨Nat.le_of_ble_eq_true rfl, Nat.le_of_ble_eq_true rfl⟩ rfl (Nat.le_of_ble_eq_true rfl) (eX12_size 10 rfl) (fun h1 => ?_)
    refine zr_aload_n (r := (some a0)) (eX12_size 11 rfl) rfl rfl ?_
    refine zr_getI zf_RX12_183 ⟨by decide, by decide⟩ (eX12_size 12 rfl) ?_
    exact zr_iret rfl rfl (eX12_size 13 rfl)
  · refine zr_bipush (eX12_size 5 rfl) zk_bipush_m2 ?_
    exact zr_iret rfl rfl (eX12_size 6 rfl)
def gX12_head (h : Zh) (a0 : Nat) (x1 : Int32) (x2 : Int32) (x3 : Int32) : Option (Int32 × Zh) :=
  zbi (gX12_noSector h a0 x1 x2) (fun x21 => (if (x21 : Int32) = 0 then zbV (gX12_layOrbits h a0 x1 x2) (fun h1 => zbi (gX12_in ((x3 : Int32).toInt64) 0 ((((zI h1 a0 5) : Int32).toInt64) - 1)) (fun x22 => (if (x22 : Int32) = 0 then (some ((-1), h1))
  else zlt (zR h1 a0 6) (fun r23 => Option.bind r23 (fun a24 => zg (zin x3 (zL h1 a24)) ((some ((zI h1 a24 (zx x3)), h1))))))))
  else (some ((-2), h))))
set_option maxRecDepth 20000 in
theorem cX12_head_ok (l : Launch) (h : Zh) (a0 : Nat) (x1 : Int32) (x2 : Int32) (x3 : Int32) : Zc l yX12_head mX12_head 0 h [(.ref a0, 12), (.int x1, 0), (.int x2, 0), (.int x3, 0)] ((gX12_head h a0 x1 x2 x3).map zoI) := by
  refine zc_of2 (ls := [some (.ref a0, 12), some (.int x1, 0), some (.int x2, 0), some (.int x3, 0)]) (j := 0) (by decide +kernel) rfl rfl (zEn_ca (zEn_ci (zEn_ci (zEn_ci rfl)))) (Nat.le_of_ble_eq_true rfl) rfl ?_
  unfold gX12_head
  refine zr_aload_n (r := (some a0)) (eX12_head 0 rfl) rfl rfl ?_
  refine zr_iload_n (eX12_head 1 rfl) rfl rfl ?_
  refine zr_iload_n (eX12_head 2 rfl) rfl rfl ?_
  refine zr_invV_i (as := [(.int x1, 0), (.int x2, 0)]) (cX12_noSector_ok l h a0 x1 x2) rfl rfl ⟨by decide, by decide, by decide⟩ zcd_X12_noSector rfl ⟨zw_1255, zw_1257, zw_18, zw_62⟩ ⟨Nat.le_of_ble_eq_true rfl, Nat.le_of_ble_eq_true rfl⟩ rfl (Nat.le_of_ble_eq_true rfl) (eX12_head 3 rfl) (fun x21 => ?_)
  refine zr_if_eq (eX12_head 4 rfl) (t := 12) (by decide) ?_ ?_
  · refine zr_aload_n (r := (some a0)) (eX12_head 7 rfl) rfl rfl ?_
    refine zr_iload_n (eX12_head 8 rfl) rfl rfl ?_
    refine zr_iload_n (eX12_head 9 rfl) rfl rfl ?_
    refine zr_invV_V (as := [(.int x1, 0), (.int x2, 0)]) (cX12_layOrbits_ok l h a0 x1 x2) rfl rfl ⟨by decide, by decide, by decide⟩ zcd_X12_layOrbits rfl ⟨zw_1259, zw_1261, zw_19, zw_62⟩ ⟨Nat.le_of_ble_eq_true rfl, Nat.le_of_ble_eq_true rfl⟩ rfl (Nat.le_of_ble_eq_true rfl) (eX12_head 10 rfl) (fun h1 => ?_)
    refine zr_iload_n (eX12_head 11 rfl) rfl rfl ?_
    refine zr_i2l (eX12_head 12 rfl) ?_
    refine zr_lconst (eX12_head 13 rfl) zk_lconst_0 ?_
    refine zr_aload_n (r := (some a0)) (eX12_head 14 rfl) rfl rfl ?_
    refine zr_getI zf_RX12_183 ⟨by decide, by decide⟩ (eX12_head 15 rfl) ?_
    refine zr_i2l (eX12_head 16 rfl) ?_
    refine zr_lconst (eX12_head 17 rfl) zk_lconst_1 ?_
    refine zr_lsub (eX12_head 18 rfl) ?_
    refine zr_invS_i (as := [(.long ((x3 : Int32).toInt64), 0), (.long 0, 0), (.long ((((zI h1 a0 5) : Int32).toInt64) - 1), 0)]) (cX12_in_ok l h1 ((x3 : Int32).toInt64) 0 ((((zI h1 a0 5) : Int32).toInt64) - 1)) rfl zcd_X12_in ⟨zw_1203, zw_1204, zw_62⟩ ⟨Nat.le_of_ble_eq_true rfl, Nat.le_of_ble_eq_true rfl⟩ rfl (Nat.le_of_ble_eq_true rfl) (eX12_head 19 rfl) (fun x22 => ?_)
    refine zr_if_eq (eX12_head 20 rfl) (t := 43) (by decide) ?_ ?_
    · refine zr_iconst (eX12_head 26 rfl) zk_iconst_m1 ?_
      exact zr_iret rfl rfl (eX12_head 27 rfl)
    · refine zr_aload_n (r := (some a0)) (eX12_head 21 rfl) rfl rfl ?_
      refine zr_getR2 zf_RX12_7 (τ2 := 20) rfl (eX12_head 22 rfl) ?_
      refine v_letr (fun r23 => ?_)
      refine zr_iload_n (eX12_head 23 rfl) rfl rfl ?_
      refine v_nn (fun a24 ea24 => ?_)
      subst ea24
      refine zr_iald (eX12_head 24 rfl) ?_
      refine zr_goto (eX12_head 25 rfl) (t := 44) (by decide) ?_
      exact zr_iret rfl rfl (eX12_head 27 rfl)
  · refine zr_bipush (eX12_head 5 rfl) zk_bipush_m2 ?_
    exact zr_iret rfl rfl (eX12_head 6 rfl)
def gX12_layTable_J1 (x21 : Int32) (k22 : Int32 → Zh → Option (Zh)) : Zh → Option (Zh) :=
  fun (h3 : Zh) => k22 (x21 + 1) h3
def gX12_layTable_L2 (a0 : Nat) (x21 : Int32) (k24 : Zh → Option (Zh)) : (Int32 → Zh → Option (Zh)) → Int32 → Zh → Option (Zh) :=
  fun (k26 : Int32 → Zh → Option (Zh)) (x25 : Int32) (h4 : Zh) => (if ((zI h4 a0 5) : Int32) ≤ x25 then k24 h4
  else zlt (zR h4 a0 7) (fun r27 => Option.bind r27 (fun a28 => zg (zin x21 (zL h4 a28)) ((if ((zI h4 a28 (zx x21)) : Int32) < 0 then k24 h4
  else zlt (zR h4 a0 10) (fun r29 => zlt (zR h4 a0 7) (fun r30 => Option.bind r30 (fun a31 => zg (zin x21 (zL h4 a31)) (zlt ((10 * x25) + (zI h4 a31 (zx x21))) (fun x32 => Option.bind r29 (fun a33 => zg (zin x32 (zL h4 a33)) (zlt (zR h4 a0 8) (fun r34 => Option.bind r34 (fun a35 => zg (zin x21 (zL h4 a35)) (zlt (zR h4 a0 6) (fun r36 => Option.bind r36 (fun a37 => zg (zin x25 (zL h4 a37)) (zbi (gX12_acts h4 a0 x21 (zI h4 a37 (zx x25))) (fun x38 => zg (zin x32 (zL h4 a33)) (zlt (zsJ h4 a33 (zx x32) ((zJ h4 a33 (zx x32)) + ((((zI h4 a35 (zx x21)) * x38) : Int32).toInt64))) (fun (h5 : Zh) => k26 (x25 + 1) h5)))))))))))))))))))))
def gX12_layTable_L3 (a0 : Nat) : (Int32 → Zh → Option (Zh)) → Int32 → Zh → Option (Zh) :=
  fun (k22 : Int32 → Zh → Option (Zh)) (x21 : Int32) (h2 : Zh) => zbi (gX12_stateMany h2 a0) (fun x23 => (if (x23 : Int32) ≤ x21 then some h2
  else zjn (gX12_layTable_J1 x21 k22) (fun (k24 : Zh → Option (Zh)) =>
  zlp (fun (_ : Int32) (_ : Zh) => (none : Option (Zh))) (gX12_layTable_L2 a0 x21 k24) zFU 0 h2)))
def gX12_layTable_J4 (a0 : Nat) : Zh → Option (Zh) :=
  fun (h1 : Zh) => zlp (fun (_ : Int32) (_ : Zh) => (none : Option (Zh))) (gX12_layTable_L3 a0) zFU 0 h1
def gX12_layTable_L5 (a0 : Nat) (k39 : Zh → Option (Zh)) : (Int32 → Zh → Option (Zh)) → Int32 → Zh → Option (Zh) :=
  fun (k41 : Int32 → Zh → Option (Zh)) (x40 : Int32) (h6 : Zh) => (if (100 : Int32) ≤ x40 then k39 h6
  else zlt (zR h6 a0 10) (fun r42 => Option.bind r42 (fun a43 => zg (zin x40 (zL h6 a43)) (zlt (zsJ h6 a43 (zx x40) 0) (fun (h7 : Zh) => k41 (x40 + 1) h7)))))
def gX12_layTable (h : Zh) (a0 : Nat) : Option (Zh) :=
  zjn (gX12_layTable_J4 a0) (fun (k39 : Zh → Option (Zh)) =>
  zlp (fun (_ : Int32) (_ : Zh) => (none : Option (Zh))) (gX12_layTable_L5 a0 k39) zFU 0 h)
set_option maxRecDepth 20000 in
theorem cX12_layTable_ok (l : Launch) (h : Zh) (a0 : Nat) : Zc l yX12_layTable mX12_layTable 0 h [(.ref a0, 12)] ((gX12_layTable h a0).map zoV) := by
  refine zc_of2 (ls := [some (.ref a0, 12), none, none]) (j := 2) (by decide +kernel) rfl rfl (zEn_ca rfl) (Nat.le_of_ble_eq_true rfl) rfl ?_
  unfold gX12_layTable
  refine zr_iconst (eX12_layTable 0 rfl) zk_iconst_0 ?_
  refine zr_istore_n (ls2 := [some (.ref a0, 12), some (.int 0, 0), none]) (eX12_layTable 1 rfl) rfl (Nat.le_of_ble_eq_true rfl) rfl ?_
  refine v_jn (fun (k39 : Zh → Option (Zh)) => ∀ (h1 : Zh), V l mX12_layTable (zN h) (zS h) 0 zoV 21 [some (.ref a0, 12), none, none] [] h1 (k39 h1)) ?_ ?_
  · intro h1
    unfold gX12_layTable_J4
    refine zr_iconst (eX12_layTable 12 rfl) zk_iconst_0 ?_
    refine zr_istore_n (ls2 := [some (.ref a0, 12), some (.int 0, 0), none]) (eX12_layTable 13 rfl) rfl (Nat.le_of_ble_eq_true rfl) rfl ?_
    refine v_drop [true, true, false] rfl ?_
    refine zlp_ind (fun (k22 : Int32 → Zh → Option (Zh)) => ∀ (x21 : Int32) (h2 : Zh), V l mX12_layTable (zN h) (zS h) 0 zoV 23 [some (.ref a0, 12), some (.int x21, 0), none] [] h2 (k22 x21 h2)) ?_ ?_ 0 h1
    · exact fun _ _ => v_none
    intro k22 hk22 x21 h2
    unfold gX12_layTable_L3
    refine zr_iload_n (eX12_layTable 14 rfl) rfl rfl ?_
    refine zr_aload_n (r := (some a0)) (eX12_layTable 15 rfl) rfl rfl ?_
    refine zr_invV_i (as := []) (cX12_stateMany_ok l h2 a0) rfl rfl ⟨by decide, by decide, by decide⟩ zcd_X12_stateMany rfl ⟨zw_1212, zw_1214, zw_12, zw_62⟩ ⟨Nat.le_of_ble_eq_true rfl, Nat.le_of_ble_eq_true rfl⟩ rfl (Nat.le_of_ble_eq_true rfl) (eX12_layTable 16 rfl) (fun x23 => ?_)
    refine zr_icmp_ge (eX12_layTable 17 rfl) (t := 100) (by decide) ?_ ?_
    · exact zr_vret rfl rfl (eX12_layTable 60 rfl)
    · refine zr_iconst (eX12_layTable 18 rfl) zk_iconst_0 ?_
      refine zr_istore_n (ls2 := [some (.ref a0, 12), some (.int x21, 0), some (.int 0, 0)]) (eX12_layTable 19 rfl) rfl (Nat.le_of_ble_eq_true rfl) rfl ?_
      refine v_jn (fun (k24 : Zh → Option (Zh)) => ∀ (h3 : Zh), V l mX12_layTable (zN h) (zS h) 0 zoV 94 [some (.ref a0, 12), some (.int x21, 0), none] [] h3 (k24 h3)) ?_ ?_
      · intro h3
        unfold gX12_layTable_J1
        refine zr_iinc (ls2 := [some (.ref a0, 12), some (.int (x21 + 1), 0), none]) (eX12_layTable 58 rfl) rfl (Nat.le_of_ble_eq_true rfl) zk_iconst_1 rfl ?_
        refine zr_goto (eX12_layTable 59 rfl) (t := 23) (by decide) ?_
        exact v_drop [true, true, false] rfl (hk22 (x21 + 1) h3)
      intro k24 hk24
      refine v_drop [true, true, true] rfl ?_
      refine zlp_ind (fun (k26 : Int32 → Zh → Option (Zh)) => ∀ (x25 : Int32) (h4 : Zh), V l mX12_layTable (zN h) (zS h) 0 zoV 33 [some (.ref a0, 12), some (.int x21, 0), some (.int x25, 0)] [] h4 (k26 x25 h4)) ?_ ?_ 0 h2
      · exact fun _ _ => v_none
      intro k26 hk26 x25 h4
      unfold gX12_layTable_L2
      refine zr_iload_n (eX12_layTable 20 rfl) rfl rfl ?_
      refine zr_aload_n (r := (some a0)) (eX12_layTable 21 rfl) rfl rfl ?_
      refine zr_getI zf_RX12_183 ⟨by decide, by decide⟩ (eX12_layTable 22 rfl) ?_
      refine zr_icmp_ge (eX12_layTable 23 rfl) (t := 94) (by decide) ?_ ?_
      · exact v_drop [true, true, false] rfl (hk24 h4)
      · refine zr_aload_n (r := (some a0)) (eX12_layTable 24 rfl) rfl rfl ?_
        refine zr_getR2 zf_RX12_13 (τ2 := 20) rfl (eX12_layTable 25 rfl) ?_
        refine v_letr (fun r27 => ?_)
        refine zr_iload_n (eX12_layTable 26 rfl) rfl rfl ?_
        refine v_nn (fun a28 ea28 => ?_)
        subst ea28
        refine zr_iald (eX12_layTable 27 rfl) ?_
        refine zr_if_lt (eX12_layTable 28 rfl) (t := 94) (by decide) ?_ ?_
        · exact v_drop [true, true, false] rfl (hk24 h4)
        · refine zr_aload_n (r := (some a0)) (eX12_layTable 29 rfl) rfl rfl ?_
          refine zr_getR2 zf_RX12_22 (τ2 := 21) rfl (eX12_layTable 30 rfl) ?_
          refine v_letr (fun r29 => ?_)
          refine zr_bipush (eX12_layTable 31 rfl) zk_bipush_10 ?_
          refine zr_iload_n (eX12_layTable 32 rfl) rfl rfl ?_
          refine zr_imul (eX12_layTable 33 rfl) ?_
          refine zr_aload_n (r := (some a0)) (eX12_layTable 34 rfl) rfl rfl ?_
          refine zr_getR2 zf_RX12_13 (τ2 := 20) rfl (eX12_layTable 35 rfl) ?_
          refine v_letr (fun r30 => ?_)
          refine zr_iload_n (eX12_layTable 36 rfl) rfl rfl ?_
          refine v_nn (fun a31 ea31 => ?_)
          subst ea31
          refine zr_iald (eX12_layTable 37 rfl) ?_
          refine zr_iadd (eX12_layTable 38 rfl) ?_
          refine v_leti (fun x32 => ?_)
          refine v_nn (fun a33 ea33 => ?_)
          subst ea33
          refine zr_dup2 (eX12_layTable 39 rfl) rfl rfl ?_
          refine zr_lald (eX12_layTable 40 rfl) ?_
          refine zr_aload_n (r := (some a0)) (eX12_layTable 41 rfl) rfl rfl ?_
          refine zr_getR2 zf_RX12_16 (τ2 := 20) rfl (eX12_layTable 42 rfl) ?_
          refine v_letr (fun r34 => ?_)
          refine zr_iload_n (eX12_layTable 43 rfl) rfl rfl ?_
          refine v_nn (fun a35 ea35 => ?_)
          subst ea35
          refine zr_iald (eX12_layTable 44 rfl) ?_
          refine zr_aload_n (r := (some a0)) (eX12_layTable 45 rfl) rfl rfl ?_
          refine zr_iload_n (eX12_layTable 46 rfl) rfl rfl ?_
          refine zr_aload_n (r := (some a0)) (eX12_layTable 47 rfl) rfl rfl ?_
          refine zr_getR2 zf_RX12_7 (τ2 := 20) rfl (eX12_layTable 48 rfl) ?_
          refine v_letr (fun r36 => ?_)
          refine zr_iload_n (eX12_layTable 49 rfl) rfl rfl ?_
          refine v_nn (fun a37 ea37 => ?_)
          subst ea37
          refine zr_iald (eX12_layTable 50 rfl) ?_
          refine zr_invV_i (as := [(.int x21, 0), (.int (zI h4 a37 (zx x25)), 0)]) (cX12_acts_ok l h4 a0 x21 (zI h4 a37 (zx x25))) rfl rfl ⟨by decide, by decide, by decide⟩ zcd_X12_acts rfl ⟨zw_1228, zw_1230, zw_14, zw_62⟩ ⟨Nat.le_of_ble_eq_true rfl, Nat.le_of_ble_eq_true rfl⟩ rfl (Nat.le_of_ble_eq_true rfl) (eX12_layTable 51 rfl) (fun x38 => ?_)
          refine zr_imul (eX12_layTable 52 rfl) ?_
          refine zr_i2l (eX12_layTable 53 rfl) ?_
          refine zr_ladd (eX12_layTable 54 rfl) ?_
          refine zr_last (eX12_layTable 55 rfl) ?_
          refine v_leth (fun h5 => ?_)
          refine zr_iinc (ls2 := [some (.ref a0, 12), some (.int x21, 0), some (.int (x25 + 1), 0)]) (eX12_layTable 56 rfl) rfl (Nat.le_of_ble_eq_true rfl) zk_iconst_1 rfl ?_
          refine zr_goto (eX12_layTable 57 rfl) (t := 33) (by decide) ?_
          exact v_drop [true, true, true] rfl (hk26 (x25 + 1) h5)
  intro k39 hk39
  refine v_drop [true, true, false] rfl ?_
  refine zlp_ind (fun (k41 : Int32 → Zh → Option (Zh)) => ∀ (x40 : Int32) (h6 : Zh), V l mX12_layTable (zN h) (zS h) 0 zoV 2 [some (.ref a0, 12), some (.int x40, 0), none] [] h6 (k41 x40 h6)) ?_ ?_ 0 h
  · exact fun _ _ => v_none
  intro k41 hk41 x40 h6
  unfold gX12_layTable_L5
  refine zr_iload_n (eX12_layTable 2 rfl) rfl rfl ?_
  refine zr_bipush (eX12_layTable 3 rfl) zk_bipush_100 ?_
  refine zr_icmp_ge (eX12_layTable 4 rfl) (t := 21) (by decide) ?_ ?_
  · exact v_drop [true, false, false] rfl (hk39 h6)
  · refine zr_aload_n (r := (some a0)) (eX12_layTable 5 rfl) rfl rfl ?_
    refine zr_getR2 zf_RX12_22 (τ2 := 21) rfl (eX12_layTable 6 rfl) ?_
    refine v_letr (fun r42 => ?_)
    refine zr_iload_n (eX12_layTable 7 rfl) rfl rfl ?_
    refine zr_lconst (eX12_layTable 8 rfl) zk_lconst_0 ?_
    refine v_nn (fun a43 ea43 => ?_)
    subst ea43
    refine zr_last (eX12_layTable 9 rfl) ?_
    refine v_leth (fun h7 => ?_)
    refine zr_iinc (ls2 := [some (.ref a0, 12), some (.int (x40 + 1), 0), none]) (eX12_layTable 10 rfl) rfl (Nat.le_of_ble_eq_true rfl) zk_iconst_1 rfl ?_
    refine zr_goto (eX12_layTable 11 rfl) (t := 2) (by decide) ?_
    exact v_drop [true, true, false] rfl (hk41 (x40 + 1) h7)
def gX12_timesTable_L1 (a0 : Nat) : (Int32 → Zh → Option (Zh)) → Int32 → Zh → Option (Zh) :=
  fun (k22 : Int32 → Zh → Option (Zh)) (x21 : Int32) (h2 : Zh) => (if (100 : Int32) ≤ x21 then some h2
  else zlt (zR h2 a0 12) (fun r23 => zlt (zR h2 a0 13) (fun r24 => Option.bind r24 (fun a25 => zg (zin x21 (zL h2 a25)) (Option.bind r23 (fun a26 => zg (zin x21 (zL h2 a26)) (zlt (zsJ h2 a26 (zx x21) (zJ h2 a25 (zx x21))) (fun (h3 : Zh) => k22 (x21 + 1) h3))))))))
def gX12_timesTable_J2 (a0 : Nat) : Zh → Option (Zh) :=
  fun (h1 : Zh) => zlp (fun (_ : Int32) (_ : Zh) => (none : Option (Zh))) (gX12_timesTable_L1 a0) zFU 0 h1
def gX12_timesTable_J3 (x28 : Int32) (k29 : Int32 → Zh → Option (Zh)) : Zh → Option (Zh) :=
  fun (h5 : Zh) => k29 (x28 + 1) h5
def gX12_timesTable_J4 (a0 : Nat) (x28 : Int32) (x31 : Int32) (h6 : Zh) (k32 : Int32 → Zh → Option (Zh)) : Int64 → Option (Zh) :=
  fun (x33 : Int64) => zlt (zR h6 a0 13) (fun r34 => Option.bind r34 (fun a35 => zg (zin ((10 * x28) + x31) (zL h6 a35)) (zlt (zsJ h6 a35 (zx ((10 * x28) + x31)) x33) (fun (h7 : Zh) => k32 (x31 + 1) h7))))
def gX12_timesTable_L5 (a0 : Nat) (x28 : Int32) (x31 : Int32) (h6 : Zh) (k36 : Int64 → Option (Zh)) : (Int64 → Int32 → Option (Zh)) → Int64 → Int32 → Option (Zh) :=
  fun (k39 : Int64 → Int32 → Option (Zh)) (x37 : Int64) (x38 : Int32) => (if ((zI h6 a0 5) : Int32) ≤ x38 then k36 x37
  else zlt (zR h6 a0 10) (fun r40 => Option.bind r40 (fun a41 => zg (zin ((10 * x28) + x38) (zL h6 a41)) (zlt (zR h6 a0 12) (fun r42 => Option.bind r42 (fun a43 => zg (zin ((10 * x38) + x31) (zL h6 a43)) (zlt (x37 + ((zJ h6 a41 (zx ((10 * x28) + x38))) * (zJ h6 a43 (zx ((10 * x38) + x31))))) (fun x44 => k39 x44 (x38 + 1)))))))))
def gX12_timesTable_L6 (a0 : Nat) (x28 : Int32) (k30 : Zh → Option (Zh)) : (Int32 → Zh → Option (Zh)) → Int32 → Zh → Option (Zh) :=
  fun (k32 : Int32 → Zh → Option (Zh)) (x31 : Int32) (h6 : Zh) => (if ((zI h6 a0 5) : Int32) ≤ x31 then k30 h6
  else zjn (gX12_timesTable_J4 a0 x28 x31 h6 k32) (fun (k36 : Int64 → Option (Zh)) =>
  zlp (fun (_ : Int64) (_ : Int32) => (none : Option (Zh))) (gX12_timesTable_L5 a0 x28 x31 h6 k36) zFU 0 0))
def gX12_timesTable_L7 (a0 : Nat) (k27 : Zh → Option (Zh)) : (Int32 → Zh → Option (Zh)) → Int32 → Zh → Option (Zh) :=
  fun (k29 : Int32 → Zh → Option (Zh)) (x28 : Int32) (h4 : Zh) => (if ((zI h4 a0 5) : Int32) ≤ x28 then k27 h4
  else zjn (gX12_timesTable_J3 x28 k29) (fun (k30 : Zh → Option (Zh)) =>
  zlp (fun (_ : Int32) (_ : Zh) => (none : Option (Zh))) (gX12_timesTable_L6 a0 x28 k30) zFU 0 h4))
def gX12_timesTable (h : Zh) (a0 : Nat) : Option (Zh) :=
  zjn (gX12_timesTable_J2 a0) (fun (k27 : Zh → Option (Zh)) =>
  zlp (fun (_ : Int32) (_ : Zh) => (none : Option (Zh))) (gX12_timesTable_L7 a0 k27) zFU 0 h)
set_option maxRecDepth 20000 in
theorem cX12_timesTable_ok (l : Launch) (h : Zh) (a0 : Nat) : Zc l yX12_timesTable mX12_timesTable 0 h [(.ref a0, 12)] ((gX12_timesTable h a0).map zoV) := by
  refine zc_of2 (ls := [some (.ref a0, 12), none, none, none, none, none]) (j := 5) (by decide +kernel) rfl rfl (zEn_ca rfl) (Nat.le_of_ble_eq_true rfl) rfl ?_
  unfold gX12_timesTable
  refine zr_iconst (eX12_timesTable 0 rfl) zk_iconst_0 ?_
  refine zr_istore_n (ls2 := [some (.ref a0, 12), some (.int 0, 0), none, none, none, none]) (eX12_timesTable 1 rfl) rfl (Nat.le_of_ble_eq_true rfl) rfl ?_
  refine v_jn (fun (k27 : Zh → Option (Zh)) => ∀ (h1 : Zh), V l mX12_timesTable (zN h) (zS h) 0 zoV 92 [some (.ref a0, 12), none, none, none, none, none] [] h1 (k27 h1)) ?_ ?_
  · intro h1
    unfold gX12_timesTable_J2
    refine zr_iconst (eX12_timesTable 55 rfl) zk_iconst_0 ?_
    refine zr_istore_n (ls2 := [some (.ref a0, 12), some (.int 0, 0), none, none, none, none]) (eX12_timesTable 56 rfl) rfl (Nat.le_of_ble_eq_true rfl) rfl ?_
    refine v_drop [true, true, false, false, false, false] rfl ?_
    refine zlp_ind (fun (k22 : Int32 → Zh → Option (Zh)) => ∀ (x21 : Int32) (h2 : Zh), V l mX12_timesTable (zN h) (zS h) 0 zoV 94 [some (.ref a0, 12), some (.int x21, 0), none, none, none, none] [] h2 (k22 x21 h2)) ?_ ?_ 0 h1
    · exact fun _ _ => v_none
    intro k22 hk22 x21 h2
    unfold gX12_timesTable_L1
    refine zr_iload_n (eX12_timesTable 57 rfl) rfl rfl ?_
    refine zr_bipush (eX12_timesTable 58 rfl) zk_bipush_100 ?_
    refine zr_icmp_ge (eX12_timesTable 59 rfl) (t := 118) (by decide) ?_ ?_
    · exact zr_vret rfl rfl (eX12_timesTable 70 rfl)
    · refine zr_aload_n (r := (some a0)) (eX12_timesTable 60 rfl) rfl rfl ?_
      refine zr_getR2 zf_RX12_29 (τ2 := 21) rfl (eX12_timesTable 61 rfl) ?_
      refine v_letr (fun r23 => ?_)
      refine zr_iload_n (eX12_timesTable 62 rfl) rfl rfl ?_
      refine zr_aload_n (r := (some a0)) (eX12_timesTable 63 rfl) rfl rfl ?_
      refine zr_getR2 zf_RX12_32 (τ2 := 21) rfl (eX12_timesTable 64 rfl) ?_
      refine v_letr (fun r24 => ?_)
      refine zr_iload_n (eX12_timesTable 65 rfl) rfl rfl ?_
      refine v_nn (fun a25 ea25 => ?_)
      subst ea25
      refine zr_lald (eX12_timesTable 66 rfl) ?_
      refine v_nn (fun a26 ea26 => ?_)
      subst ea26
      refine zr_last (eX12_timesTable 67 rfl) ?_
      refine v_leth (fun h3 => ?_)
      refine zr_iinc (ls2 := [some (.ref a0, 12), some (.int (x21 + 1), 0), none, none, none, none]) (eX12_timesTable 68 rfl) rfl (Nat.le_of_ble_eq_true rfl) zk_iconst_1 rfl ?_
      refine zr_goto (eX12_timesTable 69 rfl) (t := 94) (by decide) ?_
      exact v_drop [true, true, false, false, false, false] rfl (hk22 (x21 + 1) h3)
  intro k27 hk27
  refine v_drop [true, true, false, false, false, false] rfl ?_
  refine zlp_ind (fun (k29 : Int32 → Zh → Option (Zh)) => ∀ (x28 : Int32) (h4 : Zh), V l mX12_timesTable (zN h) (zS h) 0 zoV 2 [some (.ref a0, 12), some (.int x28, 0), none, none, none, none] [] h4 (k29 x28 h4)) ?_ ?_ 0 h
  · exact fun _ _ => v_none
  intro k29 hk29 x28 h4
  unfold gX12_timesTable_L7
  refine zr_iload_n (eX12_timesTable 2 rfl) rfl rfl ?_
  refine zr_aload_n (r := (some a0)) (eX12_timesTable 3 rfl) rfl rfl ?_
  refine zr_getI zf_RX12_183 ⟨by decide, by decide⟩ (eX12_timesTable 4 rfl) ?_
  refine zr_icmp_ge (eX12_timesTable 5 rfl) (t := 92) (by decide) ?_ ?_
  · exact v_drop [true, false, false, false, false, false] rfl (hk27 h4)
  · refine zr_iconst (eX12_timesTable 6 rfl) zk_iconst_0 ?_
    refine zr_istore_n (ls2 := [some (.ref a0, 12), some (.int x28, 0), some (.int 0, 0), none, none, none]) (eX12_timesTable 7 rfl) rfl (Nat.le_of_ble_eq_true rfl) rfl ?_
    refine v_jn (fun (k30 : Zh → Option (Zh)) => ∀ (h5 : Zh), V l mX12_timesTable (zN h) (zS h) 0 zoV 86 [some (.ref a0, 12), some (.int x28, 0), none, none, none, none] [] h5 (k30 h5)) ?_ ?_
    · intro h5
      unfold gX12_timesTable_J3
      refine zr_iinc (ls2 := [some (.ref a0, 12), some (.int (x28 + 1), 0), none, none, none, none]) (eX12_timesTable 53 rfl) rfl (Nat.le_of_ble_eq_true rfl) zk_iconst_1 rfl ?_
      refine zr_goto (eX12_timesTable 54 rfl) (t := 2) (by decide) ?_
      exact v_drop [true, true, false, false, false, false] rfl (hk29 (x28 + 1) h5)
    intro k30 hk30
    refine v_drop [true, true, true, false, false, false] rfl ?_
    refine zlp_ind (fun (k32 : Int32 → Zh → Option (Zh)) => ∀ (x31 : Int32) (h6 : Zh), V l mX12_timesTable (zN h) (zS h) 0 zoV 12 [some (.ref a0, 12), some (.int x28, 0), some (.int x31, 0), none, none, none] [] h6 (k32 x31 h6)) ?_ ?_ 0 h4
    · exact fun _ _ => v_none
    intro k32 hk32 x31 h6
    unfold gX12_timesTable_L6
    refine zr_iload_n (eX12_timesTable 8 rfl) rfl rfl ?_
    refine zr_aload_n (r := (some a0)) (eX12_timesTable 9 rfl) rfl rfl ?_
    refine zr_getI zf_RX12_183 ⟨by decide, by decide⟩ (eX12_timesTable 10 rfl) ?_
    refine zr_icmp_ge (eX12_timesTable 11 rfl) (t := 86) (by decide) ?_ ?_
    · exact v_drop [true, true, false, false, false, false] rfl (hk30 h6)
    · refine zr_lconst (eX12_timesTable 12 rfl) zk_lconst_0 ?_
      refine zr_lstore_n (ls2 := [some (.ref a0, 12), some (.int x28, 0), some (.int x31, 0), some (.long 0, 0), none, none]) (eX12_timesTable 13 rfl) rfl (Nat.le_of_ble_eq_true rfl) rfl ?_
      refine zr_iconst (eX12_timesTable 14 rfl) zk_iconst_0 ?_
      refine zr_istore (ls2 := [some (.ref a0, 12), some (.int x28, 0), some (.int x31, 0), some (.long 0, 0), none, some (.int 0, 0)]) (eX12_timesTable 15 rfl) (Nat.le_of_ble_eq_true rfl) rfl ?_
      refine v_jn (fun (k36 : Int64 → Option (Zh)) => ∀ (x33 : Int64), V l mX12_timesTable (zN h) (zS h) 0 zoV 68 [some (.ref a0, 12), some (.int x28, 0), some (.int x31, 0), some (.long x33, 0), none, none] [] h6 (k36 x33)) ?_ ?_
      · intro x33
        unfold gX12_timesTable_J4
        refine zr_aload_n (r := (some a0)) (eX12_timesTable 42 rfl) rfl rfl ?_
        refine zr_getR2 zf_RX12_32 (τ2 := 21) rfl (eX12_timesTable 43 rfl) ?_
        refine v_letr (fun r34 => ?_)
        refine zr_bipush (eX12_timesTable 44 rfl) zk_bipush_10 ?_
        refine zr_iload_n (eX12_timesTable 45 rfl) rfl rfl ?_
        refine zr_imul (eX12_timesTable 46 rfl) ?_
        refine zr_iload_n (eX12_timesTable 47 rfl) rfl rfl ?_
        refine zr_iadd (eX12_timesTable 48 rfl) ?_
        refine zr_lload_n (eX12_timesTable 49 rfl) rfl rfl ?_
        refine v_nn (fun a35 ea35 => ?_)
        subst ea35
        refine zr_last (eX12_timesTable 50 rfl) ?_
        refine v_leth (fun h7 => ?_)
        refine zr_iinc (ls2 := [some (.ref a0, 12), some (.int x28, 0), some (.int (x31 + 1), 0), some (.long x33, 0), none, none]) (eX12_timesTable 51 rfl) rfl (Nat.le_of_ble_eq_true rfl) zk_iconst_1 rfl ?_
        refine zr_goto (eX12_timesTable 52 rfl) (t := 12) (by decide) ?_
        exact v_drop [true, true, true, false, false, false] rfl (hk32 (x31 + 1) h7)
      intro k36 hk36
      refine v_drop [true, true, true, true, false, true] rfl ?_
      refine zlp_ind (fun (k39 : Int64 → Int32 → Option (Zh)) => ∀ (x37 : Int64) (x38 : Int32), V l mX12_timesTable (zN h) (zS h) 0 zoV 25 [some (.ref a0, 12), some (.int x28, 0), some (.int x31, 0), some (.long x37, 0), none, some (.int x38, 0)] [] h6 (k39 x37 x38)) ?_ ?_ 0 0
      · exact fun _ _ => v_none
      intro k39 hk39 x37 x38
      unfold gX12_timesTable_L5
      refine zr_iload (eX12_timesTable 16 rfl) rfl ?_
      refine zr_aload_n (r := (some a0)) (eX12_timesTable 17 rfl) rfl rfl ?_
      refine zr_getI zf_RX12_183 ⟨by decide, by decide⟩ (eX12_timesTable 18 rfl) ?_
      refine zr_icmp_ge (eX12_timesTable 19 rfl) (t := 68) (by decide) ?_ ?_
      · exact v_drop [true, true, true, true, false, false] rfl (hk36 x37)
      · refine zr_lload_n (eX12_timesTable 20 rfl) rfl rfl ?_
        refine zr_aload_n (r := (some a0)) (eX12_timesTable 21 rfl) rfl rfl ?_
        refine zr_getR2 zf_RX12_22 (τ2 := 21) rfl (eX12_timesTable 22 rfl) ?_
        refine v_letr (fun r40 => ?_)
        refine zr_bipush (eX12_timesTable 23 rfl) zk_bipush_10 ?_
        refine zr_iload_n (eX12_timesTable 24 rfl) rfl rfl ?_
        refine zr_imul (eX12_timesTable 25 rfl) ?_
        refine zr_iload (eX12_timesTable 26 rfl) rfl ?_
        refine zr_iadd (eX12_timesTable 27 rfl) ?_
        refine v_nn (fun a41 ea41 => ?_)
        subst ea41
        refine zr_lald (eX12_timesTable 28 rfl) ?_
        refine zr_aload_n (r := (some a0)) (eX12_timesTable 29 rfl) rfl rfl ?_
        refine zr_getR2 zf_RX12_29 (τ2 := 21) rfl (eX12_timesTable 30 rfl) ?_
        refine v_letr (fun r42 => ?_)
        refine zr_bipush (eX12_timesTable 31 rfl) zk_bipush_10 ?_
        refine zr_iload (eX12_timesTable 32 rfl) rfl ?_
        refine zr_imul (eX12_timesTable 33 rfl) ?_
        refine zr_iload_n (eX12_timesTable 34 rfl) rfl rfl ?_
        refine zr_iadd (eX12_timesTable 35 rfl) ?_
        refine v_nn (fun a43 ea43 => ?_)
        subst ea43
        refine zr_lald (eX12_timesTable 36 rfl) ?_
        refine zr_lmul (eX12_timesTable 37 rfl) ?_
        refine zr_ladd (eX12_timesTable 38 rfl) ?_
        refine v_letj (fun x44 => ?_)
        refine zr_lstore_n (ls2 := [some (.ref a0, 12), some (.int x28, 0), some (.int x31, 0), some (.long x44, 0), none, some (.int x38, 0)]) (eX12_timesTable 39 rfl) rfl (Nat.le_of_ble_eq_true rfl) rfl ?_
        refine zr_iinc (ls2 := [some (.ref a0, 12), some (.int x28, 0), some (.int x31, 0), some (.long x44, 0), none, some (.int (x38 + 1), 0)]) (eX12_timesTable 40 rfl) rfl (Nat.le_of_ble_eq_true rfl) zk_iconst_1 rfl ?_
        refine zr_goto (eX12_timesTable 41 rfl) (t := 25) (by decide) ?_
        exact v_drop [true, true, true, true, false, true] rfl (hk39 x44 (x38 + 1))
def gX12_unitPower_J1 (x21 : Int32) (h1 : Zh) (k22 : Int32 → Zh → Option (Zh)) (r23 : Option Nat) : Int64 → Option (Zh) :=
  fun (x24 : Int64) => Option.bind r23 (fun a25 => zg (zin x21 (zL h1 a25)) (zlt (zsJ h1 a25 (zx x21) x24) (fun (h2 : Zh) => k22 (x21 + 1) h2)))
def gX12_unitPower_L2 (a0 : Nat) : (Int32 → Zh → Option (Zh)) → Int32 → Zh → Option (Zh) :=
  fun (k22 : Int32 → Zh → Option (Zh)) (x21 : Int32) (h1 : Zh) => (if (100 : Int32) ≤ x21 then some h1
  else zlt (zR h1 a0 12) (fun r23 => (if (11 : Int32) = 0 then none else zjn (gX12_unitPower_J1 x21 h1 k22 r23) (fun (k26 : Int64 → Option (Zh)) =>
  (if ((x21 - x21 / 11 * 11) : Int32) = 0 then k26 1
  else k26 0)))))
def gX12_unitPower (h : Zh) (a0 : Nat) : Option (Zh) :=
  zlp (fun (_ : Int32) (_ : Zh) => (none : Option (Zh))) (gX12_unitPower_L2 a0) zFU 0 h
set_option maxRecDepth 20000 in
theorem cX12_unitPower_ok (l : Launch) (h : Zh) (a0 : Nat) : Zc l yX12_unitPower mX12_unitPower 0 h [(.ref a0, 12)] ((gX12_unitPower h a0).map zoV) := by
  refine zc_of2 (ls := [some (.ref a0, 12), none]) (j := 1) (by decide +kernel) rfl rfl (zEn_ca rfl) (Nat.le_of_ble_eq_true rfl) rfl ?_
  unfold gX12_unitPower
  refine zr_iconst (eX12_unitPower 0 rfl) zk_iconst_0 ?_
  refine zr_istore_n (ls2 := [some (.ref a0, 12), some (.int 0, 0)]) (eX12_unitPower 1 rfl) rfl (Nat.le_of_ble_eq_true rfl) rfl ?_
  refine v_drop [true, true] rfl ?_
  refine zlp_ind (fun (k22 : Int32 → Zh → Option (Zh)) => ∀ (x21 : Int32) (h1 : Zh), V l mX12_unitPower (zN h) (zS h) 0 zoV 2 [some (.ref a0, 12), some (.int x21, 0)] [] h1 (k22 x21 h1)) ?_ ?_ 0 h
  · exact fun _ _ => v_none
  intro k22 hk22 x21 h1
  unfold gX12_unitPower_L2
  refine zr_iload_n (eX12_unitPower 2 rfl) rfl rfl ?_
  refine zr_bipush (eX12_unitPower 3 rfl) zk_bipush_100 ?_
  refine zr_icmp_ge (eX12_unitPower 4 rfl) (t := 32) (by decide) ?_ ?_
  · exact zr_vret rfl rfl (eX12_unitPower 18 rfl)
  · refine zr_aload_n (r := (some a0)) (eX12_unitPower 5 rfl) rfl rfl ?_
    refine zr_getR2 zf_RX12_29 (τ2 := 21) rfl (eX12_unitPower 6 rfl) ?_
    refine v_letr (fun r23 => ?_)
    refine zr_iload_n (eX12_unitPower 7 rfl) rfl rfl ?_
    refine zr_iload_n (eX12_unitPower 8 rfl) rfl rfl ?_
    refine zr_bipush (eX12_unitPower 9 rfl) zk_bipush_11 ?_
    refine zr_irem (eX12_unitPower 10 rfl) ?_
    refine v_jn (fun (k26 : Int64 → Option (Zh)) => ∀ (x24 : Int64), V l mX12_unitPower (zN h) (zS h) 0 zoV 25 [some (.ref a0, 12), some (.int x21, 0)] [(.long x24, 0), (.int x21, 0), (va_rf r23, 21)] h1 (k26 x24)) ?_ ?_
    · intro x24
      unfold gX12_unitPower_J1
      refine v_nn (fun a25 ea25 => ?_)
      subst ea25
      refine zr_last (eX12_unitPower 15 rfl) ?_
      refine v_leth (fun h2 => ?_)
      refine zr_iinc (ls2 := [some (.ref a0, 12), some (.int (x21 + 1), 0)]) (eX12_unitPower 16 rfl) rfl (Nat.le_of_ble_eq_true rfl) zk_iconst_1 rfl ?_
      refine zr_goto (eX12_unitPower 17 rfl) (t := 2) (by decide) ?_
      exact v_drop [true, true] rfl (hk22 (x21 + 1) h2)
    intro k26 hk26
    refine zr_if_ne (eX12_unitPower 11 rfl) (t := 24) (by decide) ?_ ?_
    · refine zr_lconst (eX12_unitPower 14 rfl) zk_lconst_0 ?_
      exact v_drop [true, true] rfl (hk26 0)
    · refine zr_lconst (eX12_unitPower 12 rfl) zk_lconst_1 ?_
      refine zr_goto (eX12_unitPower 13 rfl) (t := 25) (by decide) ?_
      exact v_drop [true, true] rfl (hk26 1)
def gX12_sumOfPower_L1 (h : Zh) (a0 : Nat) : (Int64 → Int32 → Option (Int64)) → Int64 → Int32 → Option (Int64) :=
  fun (k23 : Int64 → Int32 → Option (Int64)) (x21 : Int64) (x22 : Int32) => (if ((zI h a0 5) : Int32) ≤ x22 then (some x21)
  else zlt (zR h a0 12) (fun r24 => Option.bind r24 (fun a25 => zg (zin (11 * x22) (zL h a25)) (zlt (x21 + (zJ h a25 (zx (11 * x22)))) (fun x26 => k23 x26 (x22 + 1))))))
def gX12_sumOfPower (h : Zh) (a0 : Nat) : Option (Int64) :=
  zlp (fun (_ : Int64) (_ : Int32) => (none : Option (Int64))) (gX12_sumOfPower_L1 h a0) zFU 0 0
set_option maxRecDepth 20000 in
theorem cX12_sumOfPower_ok (l : Launch) (h : Zh) (a0 : Nat) : Zc l yX12_sumOfPower mX12_sumOfPower 0 h [(.ref a0, 12)] ((gX12_sumOfPower h a0).map (zoj h)) := by
  refine zc_of2 (ls := [some (.ref a0, 12), none, none, none]) (j := 3) (by decide +kernel) rfl rfl (zEn_ca rfl) (Nat.le_of_ble_eq_true rfl) rfl ?_
  unfold gX12_sumOfPower
  refine zr_lconst (eX12_sumOfPower 0 rfl) zk_lconst_0 ?_
  refine zr_lstore_n (ls2 := [some (.ref a0, 12), some (.long 0, 0), none, none]) (eX12_sumOfPower 1 rfl) rfl (Nat.le_of_ble_eq_true rfl) rfl ?_
  refine zr_iconst (eX12_sumOfPower 2 rfl) zk_iconst_0 ?_
  refine zr_istore_n (ls2 := [some (.ref a0, 12), some (.long 0, 0), none, some (.int 0, 0)]) (eX12_sumOfPower 3 rfl) rfl (Nat.le_of_ble_eq_true rfl) rfl ?_
  refine v_drop [true, true, false, true] rfl ?_
  refine zlp_ind (fun (k23 : Int64 → Int32 → Option (Int64)) => ∀ (x21 : Int64) (x22 : Int32), V l mX12_sumOfPower (zN h) (zS h) 0 (zoj h) 4 [some (.ref a0, 12), some (.long x21, 0), none, some (.int x22, 0)] [] h (k23 x21 x22)) ?_ ?_ 0 0
  · exact fun _ _ => v_none
  intro k23 hk23 x21 x22
  unfold gX12_sumOfPower_L1
  refine zr_iload_n (eX12_sumOfPower 4 rfl) rfl rfl ?_
  refine zr_aload_n (r := (some a0)) (eX12_sumOfPower 5 rfl) rfl rfl ?_
  refine zr_getI zf_RX12_183 ⟨by decide, by decide⟩ (eX12_sumOfPower 6 rfl) ?_
  refine zr_icmp_ge (eX12_sumOfPower 7 rfl) (t := 30) (by decide) ?_ ?_
  · refine zr_lload_n (eX12_sumOfPower 19 rfl) rfl rfl ?_
    exact zr_lret rfl rfl (eX12_sumOfPower 20 rfl)
  · refine zr_lload_n (eX12_sumOfPower 8 rfl) rfl rfl ?_
    refine zr_aload_n (r := (some a0)) (eX12_sumOfPower 9 rfl) rfl rfl ?_
    refine zr_getR2 zf_RX12_29 (τ2 := 21) rfl (eX12_sumOfPower 10 rfl) ?_
    refine v_letr (fun r24 => ?_)
    refine zr_bipush (eX12_sumOfPower 11 rfl) zk_bipush_11 ?_
    refine zr_iload_n (eX12_sumOfPower 12 rfl) rfl rfl ?_
    refine zr_imul (eX12_sumOfPower 13 rfl) ?_
    refine v_nn (fun a25 ea25 => ?_)
    subst ea25
    refine zr_lald (eX12_sumOfPower 14 rfl) ?_
    refine zr_ladd (eX12_sumOfPower 15 rfl) ?_
    refine v_letj (fun x26 => ?_)
    refine zr_lstore_n (ls2 := [some (.ref a0, 12), some (.long x26, 0), none, some (.int x22, 0)]) (eX12_sumOfPower 16 rfl) rfl (Nat.le_of_ble_eq_true rfl) rfl ?_
    refine zr_iinc (ls2 := [some (.ref a0, 12), some (.long x26, 0), none, some (.int (x22 + 1), 0)]) (eX12_sumOfPower 17 rfl) rfl (Nat.le_of_ble_eq_true rfl) zk_iconst_1 rfl ?_
    refine zr_goto (eX12_sumOfPower 18 rfl) (t := 4) (by decide) ?_
    exact v_drop [true, true, false, true] rfl (hk23 x26 (x22 + 1))
def gX12_layPolynomial_J1 (x24 : Int32) (k25 : Int32 → Zh → Option (Zh)) : Zh → Option (Zh) :=
  fun (h6 : Zh) => k25 (x24 + 1) h6
def gX12_layPolynomial_L2 (a0 : Nat) (x21 : Int32) (x24 : Int32) (k29 : Zh → Option (Zh)) : (Int32 → Zh → Option (Zh)) → Int32 → Zh → Option (Zh) :=
  fun (k31 : Int32 → Zh → Option (Zh)) (x30 : Int32) (h7 : Zh) => (if (x21 : Int32) ≤ x30 then k29 h7
  else zlt (zR h7 a0 12) (fun r32 => zlt (11 * x30) (fun x33 => Option.bind r32 (fun a34 => zg (zin x33 (zL h7 a34)) (zlt (zR h7 a0 11) (fun r35 => Option.bind r35 (fun a36 => zg (zin (x21 - x24) (zL h7 a36)) (zg (zin x33 (zL h7 a34)) (zlt (zsJ h7 a34 (zx x33) ((zJ h7 a34 (zx x33)) + (zJ h7 a36 (zx (x21 - x24))))) (fun (h8 : Zh) => k31 (x30 + 1) h8))))))))))
def gX12_layPolynomial_L3 (a0 : Nat) (x21 : Int32) : (Int32 → Zh → Option (Zh)) → Int32 → Zh → Option (Zh) :=
  fun (k25 : Int32 → Zh → Option (Zh)) (x24 : Int32) (h3 : Zh) => (if (x21 : Int32) < x24 then some h3
  else zbV (gX12_timesTable h3 a0) (fun h4 => zlt (zR h4 a0 11) (fun r26 => zbj (gX12_sumOfPower h4 a0) (fun x27 => (if (((x24 : Int32).toInt64) : Int64) = 0 then none else Option.bind r26 (fun a28 => zg (zin (x21 - x24) (zL h4 a28)) (zlt (zsJ h4 a28 (zx (x21 - x24)) ((-x27) / ((x24 : Int32).toInt64))) (fun (h5 : Zh) => zjn (gX12_layPolynomial_J1 x24 k25) (fun (k29 : Zh → Option (Zh)) =>
  zlp (fun (_ : Int32) (_ : Zh) => (none : Option (Zh))) (gX12_layPolynomial_L2 a0 x21 x24 k29) zFU 0 h5)))))))))
def gX12_layPolynomial (h : Zh) (a0 : Nat) : Option (Zh) :=
  zlt (zI h a0 5) (fun x21 => zbV (gX12_unitPower h a0) (fun h1 => zlt (zR h1 a0 11) (fun r22 => Option.bind r22 (fun a23 => zg (zin x21 (zL h1 a23)) (zlt (zsJ h1 a23 (zx x21) 1) (fun (h2 : Zh) => zlp (fun (_ : Int32) (_ : Zh) => (none : Option (Zh))) (gX12_layPolynomial_L3 a0 x21) zFU 1 h2))))))
set_option maxRecDepth 20000 in
theorem cX12_layPolynomial_ok (l : Launch) (h : Zh) (a0 : Nat) : Zc l yX12_layPolynomial mX12_layPolynomial 0 h [(.ref a0, 12)] ((gX12_layPolynomial h a0).map zoV) := by
  refine zc_of2 (ls := [some (.ref a0, 12), none, none, none]) (j := 3) (by decide +kernel) rfl rfl (zEn_ca rfl) (Nat.le_of_ble_eq_true rfl) rfl ?_
  unfold gX12_layPolynomial
  refine zr_aload_n (r := (some a0)) (eX12_layPolynomial 0 rfl) rfl rfl ?_
  refine zr_getI zf_RX12_183 ⟨by decide, by decide⟩ (eX12_layPolynomial 1 rfl) ?_
  refine v_leti (fun x21 => ?_)
  refine zr_istore_n (ls2 := [some (.ref a0, 12), some (.int x21, 0), none, none]) (eX12_layPolynomial 2 rfl) rfl (Nat.le_of_ble_eq_true rfl) rfl ?_
  refine zr_aload_n (r := (some a0)) (eX12_layPolynomial 3 rfl) rfl rfl ?_
  refine zr_invV_V (as := []) (cX12_unitPower_ok l h a0) rfl rfl ⟨by decide, by decide, by decide⟩ zcd_X12_unitPower rfl ⟨zw_1290, zw_1292, zw_23, zw_62⟩ ⟨Nat.le_of_ble_eq_true rfl, Nat.le_of_ble_eq_true rfl⟩ rfl (Nat.le_of_ble_eq_true rfl) (eX12_layPolynomial 4 rfl) (fun h1 => ?_)
  refine zr_aload_n (r := (some a0)) (eX12_layPolynomial 5 rfl) rfl rfl ?_
  refine zr_getR2 zf_RX12_26 (τ2 := 21) rfl (eX12_layPolynomial 6 rfl) ?_
  refine v_letr (fun r22 => ?_)
  refine zr_iload_n (eX12_layPolynomial 7 rfl) rfl rfl ?_
  refine zr_lconst (eX12_layPolynomial 8 rfl) zk_lconst_1 ?_
  refine v_nn (fun a23 ea23 => ?_)
  subst ea23
  refine zr_last (eX12_layPolynomial 9 rfl) ?_
  refine v_leth (fun h2 => ?_)
  refine zr_iconst (eX12_layPolynomial 10 rfl) zk_iconst_1 ?_
  refine zr_istore_n (ls2 := [some (.ref a0, 12), some (.int x21, 0), some (.int 1, 0), none]) (eX12_layPolynomial 11 rfl) rfl (Nat.le_of_ble_eq_true rfl) rfl ?_
  refine v_drop [true, true, true, false] rfl ?_
  refine zlp_ind (fun (k25 : Int32 → Zh → Option (Zh)) => ∀ (x24 : Int32) (h3 : Zh), V l mX12_layPolynomial (zN h) (zS h) 0 zoV 18 [some (.ref a0, 12), some (.int x21, 0), some (.int x24, 0), none] [] h3 (k25 x24 h3)) ?_ ?_ 1 h2
  · exact fun _ _ => v_none
  intro k25 hk25 x24 h3
  unfold gX12_layPolynomial_L3
  refine zr_iload_n (eX12_layPolynomial 12 rfl) rfl rfl ?_
  refine zr_iload_n (eX12_layPolynomial 13 rfl) rfl rfl ?_
  refine zr_icmp_gt (eX12_layPolynomial 14 rfl) (t := 82) (by decide) ?_ ?_
  · exact zr_vret rfl rfl (eX12_layPolynomial 53 rfl)
  · refine zr_aload_n (r := (some a0)) (eX12_layPolynomial 15 rfl) rfl rfl ?_
    refine zr_invV_V (as := []) (cX12_timesTable_ok l h3 a0) rfl rfl ⟨by decide, by decide, by decide⟩ zcd_X12_timesTable rfl ⟨zw_1294, zw_1296, zw_24, zw_62⟩ ⟨Nat.le_of_ble_eq_true rfl, Nat.le_of_ble_eq_true rfl⟩ rfl (Nat.le_of_ble_eq_true rfl) (eX12_layPolynomial 16 rfl) (fun h4 => ?_)
    refine zr_aload_n (r := (some a0)) (eX12_layPolynomial 17 rfl) rfl rfl ?_
    refine zr_getR2 zf_RX12_26 (τ2 := 21) rfl (eX12_layPolynomial 18 rfl) ?_
    refine v_letr (fun r26 => ?_)
    refine zr_iload_n (eX12_layPolynomial 19 rfl) rfl rfl ?_
    refine zr_iload_n (eX12_layPolynomial 20 rfl) rfl rfl ?_
    refine zr_isub (eX12_layPolynomial 21 rfl) ?_
    refine zr_aload_n (r := (some a0)) (eX12_layPolynomial 22 rfl) rfl rfl ?_
    refine zr_invV_j (as := []) (cX12_sumOfPower_ok l h4 a0) rfl rfl ⟨by decide, by decide, by decide⟩ zcd_X12_sumOfPower rfl ⟨zw_1298, zw_1300, zw_25, zw_62⟩ ⟨Nat.le_of_ble_eq_true rfl, Nat.le_of_ble_eq_true rfl⟩ rfl (Nat.le_of_ble_eq_true rfl) (eX12_layPolynomial 23 rfl) (fun x27 => ?_)
    refine zr_lneg (eX12_layPolynomial 24 rfl) ?_
    refine zr_iload_n (eX12_layPolynomial 25 rfl) rfl rfl ?_
    refine zr_i2l (eX12_layPolynomial 26 rfl) ?_
    refine zr_ldiv (eX12_layPolynomial 27 rfl) ?_
    refine v_nn (fun a28 ea28 => ?_)
    subst ea28
    refine zr_last (eX12_layPolynomial 28 rfl) ?_
    refine v_leth (fun h5 => ?_)
    refine zr_iconst (eX12_layPolynomial 29 rfl) zk_iconst_0 ?_
    refine zr_istore_n (ls2 := [some (.ref a0, 12), some (.int x21, 0), some (.int x24, 0), some (.int 0, 0)]) (eX12_layPolynomial 30 rfl) rfl (Nat.le_of_ble_eq_true rfl) rfl ?_
    refine v_jn (fun (k29 : Zh → Option (Zh)) => ∀ (h6 : Zh), V l mX12_layPolynomial (zN h) (zS h) 0 zoV 76 [some (.ref a0, 12), some (.int x21, 0), some (.int x24, 0), none] [] h6 (k29 h6)) ?_ ?_
    · intro h6
      unfold gX12_layPolynomial_J1
      refine zr_iinc (ls2 := [some (.ref a0, 12), some (.int x21, 0), some (.int (x24 + 1), 0), none]) (eX12_layPolynomial 51 rfl) rfl (Nat.le_of_ble_eq_true rfl) zk_iconst_1 rfl ?_
      refine zr_goto (eX12_layPolynomial 52 rfl) (t := 18) (by decide) ?_
      exact v_drop [true, true, true, false] rfl (hk25 (x24 + 1) h6)
    intro k29 hk29
    refine v_drop [true, true, true, true] rfl ?_
    refine zlp_ind (fun (k31 : Int32 → Zh → Option (Zh)) => ∀ (x30 : Int32) (h7 : Zh), V l mX12_layPolynomial (zN h) (zS h) 0 zoV 45 [some (.ref a0, 12), some (.int x21, 0), some (.int x24, 0), some (.int x30, 0)] [] h7 (k31 x30 h7)) ?_ ?_ 0 h5
    · exact fun _ _ => v_none
    intro k31 hk31 x30 h7
    unfold gX12_layPolynomial_L2
    refine zr_iload_n (eX12_layPolynomial 31 rfl) rfl rfl ?_
    refine zr_iload_n (eX12_layPolynomial 32 rfl) rfl rfl ?_
    refine zr_icmp_ge (eX12_layPolynomial 33 rfl) (t := 76) (by decide) ?_ ?_
    · exact v_drop [true, true, true, false] rfl (hk29 h7)
    · refine zr_aload_n (r := (some a0)) (eX12_layPolynomial 34 rfl) rfl rfl ?_
      refine zr_getR2 zf_RX12_29 (τ2 := 21) rfl (eX12_layPolynomial 35 rfl) ?_
      refine v_letr (fun r32 => ?_)
      refine zr_bipush (eX12_layPolynomial 36 rfl) zk_bipush_11 ?_
      refine zr_iload_n (eX12_layPolynomial 37 rfl) rfl rfl ?_
      refine zr_imul (eX12_layPolynomial 38 rfl) ?_
      refine v_leti (fun x33 => ?_)
      refine v_nn (fun a34 ea34 => ?_)
      subst ea34
      refine zr_dup2 (eX12_layPolynomial 39 rfl) rfl rfl ?_
      refine zr_lald (eX12_layPolynomial 40 rfl) ?_
      refine zr_aload_n (r := (some a0)) (eX12_layPolynomial 41 rfl) rfl rfl ?_
      refine zr_getR2 zf_RX12_26 (τ2 := 21) rfl (eX12_layPolynomial 42 rfl) ?_
      refine v_letr (fun r35 => ?_)
      refine zr_iload_n (eX12_layPolynomial 43 rfl) rfl rfl ?_
      refine zr_iload_n (eX12_layPolynomial 44 rfl) rfl rfl ?_
      refine zr_isub (eX12_layPolynomial 45 rfl) ?_
      refine v_nn (fun a36 ea36 => ?_)
      subst ea36
      refine zr_lald (eX12_layPolynomial 46 rfl) ?_
      refine zr_ladd (eX12_layPolynomial 47 rfl) ?_
      refine zr_last (eX12_layPolynomial 48 rfl) ?_
      refine v_leth (fun h8 => ?_)
      refine zr_iinc (ls2 := [some (.ref a0, 12), some (.int x21, 0), some (.int x24, 0), some (.int (x30 + 1), 0)]) (eX12_layPolynomial 49 rfl) rfl (Nat.le_of_ble_eq_true rfl) zk_iconst_1 rfl ?_
      refine zr_goto (eX12_layPolynomial 50 rfl) (t := 45) (by decide) ?_
      exact v_drop [true, true, true, true] rfl (hk31 (x30 + 1) h8)
def gX12_laySector (h : Zh) (a0 : Nat) (x1 : Int32) (x2 : Int32) : Option (Int32 × Zh) :=
  zbi (gX12_noSector h a0 x1 x2) (fun x21 => (if (x21 : Int32) = 0 then zbV (gX12_layOrbits h a0 x1 x2) (fun h1 => (if ((zI h1 a0 5) : Int32) ≤ 10 then zbV (gX12_layTable h1 a0) (fun h2 => (some (0, h2)))
  else (some ((-6), h1))))
  else (some ((-2), h))))
set_option maxRecDepth 20000 in
theorem cX12_laySector_ok (l : Launch) (h : Zh) (a0 : Nat) (x1 : Int32) (x2 : Int32) : Zc l yX12_laySector mX12_laySector 0 h [(.ref a0, 12), (.int x1, 0), (.int x2, 0)] ((gX12_laySector h a0 x1 x2).map zoI) := by
  refine zc_of2 (ls := [some (.ref a0, 12), some (.int x1, 0), some (.int x2, 0)]) (j := 0) (by decide +kernel) rfl rfl (zEn_ca (zEn_ci (zEn_ci rfl))) (Nat.le_of_ble_eq_true rfl) rfl ?_
  unfold gX12_laySector
  refine zr_aload_n (r := (some a0)) (eX12_laySector 0 rfl) rfl rfl ?_
  refine zr_iload_n (eX12_laySector 1 rfl) rfl rfl ?_
  refine zr_iload_n (eX12_laySector 2 rfl) rfl rfl ?_
  refine zr_invV_i (as := [(.int x1, 0), (.int x2, 0)]) (cX12_noSector_ok l h a0 x1 x2) rfl rfl ⟨by decide, by decide, by decide⟩ zcd_X12_noSector rfl ⟨zw_1255, zw_1257, zw_18, zw_62⟩ ⟨Nat.le_of_ble_eq_true rfl, Nat.le_of_ble_eq_true rfl⟩ rfl (Nat.le_of_ble_eq_true rfl) (eX12_laySector 3 rfl) (fun x21 => ?_)
  refine zr_if_eq (eX12_laySector 4 rfl) (t := 12) (by decide) ?_ ?_
  · refine zr_aload_n (r := (some a0)) (eX12_laySector 7 rfl) rfl rfl ?_
    refine zr_iload_n (eX12_laySector 8 rfl) rfl rfl ?_
    refine zr_iload_n (eX12_laySector 9 rfl) rfl rfl ?_
    refine zr_invV_V (as := [(.int x1, 0), (.int x2, 0)]) (cX12_layOrbits_ok l h a0 x1 x2) rfl rfl ⟨by decide, by decide, by decide⟩ zcd_X12_layOrbits rfl ⟨zw_1259, zw_1261, zw_19, zw_62⟩ ⟨Nat.le_of_ble_eq_true rfl, Nat.le_of_ble_eq_true rfl⟩ rfl (Nat.le_of_ble_eq_true rfl) (eX12_laySector 10 rfl) (fun h1 => ?_)
    refine zr_aload_n (r := (some a0)) (eX12_laySector 11 rfl) rfl rfl ?_
    refine zr_getI zf_RX12_183 ⟨by decide, by decide⟩ (eX12_laySector 12 rfl) ?_
    refine zr_bipush (eX12_laySector 13 rfl) zk_bipush_10 ?_
    refine zr_icmp_le (eX12_laySector 14 rfl) (t := 30) (by decide) ?_ ?_
    · refine zr_aload_n (r := (some a0)) (eX12_laySector 17 rfl) rfl rfl ?_
      refine zr_invV_V (as := []) (cX12_layTable_ok l h1 a0) rfl rfl ⟨by decide, by decide, by decide⟩ zcd_X12_layTable rfl ⟨zw_1278, zw_1280, zw_21, zw_62⟩ ⟨Nat.le_of_ble_eq_true rfl, Nat.le_of_ble_eq_true rfl⟩ rfl (Nat.le_of_ble_eq_true rfl) (eX12_laySector 18 rfl) (fun h2 => ?_)
      refine zr_iconst (eX12_laySector 19 rfl) zk_iconst_0 ?_
      exact zr_iret rfl rfl (eX12_laySector 20 rfl)
    · refine zr_bipush (eX12_laySector 15 rfl) zk_bipush_m6 ?_
      exact zr_iret rfl rfl (eX12_laySector 16 rfl)
  · refine zr_bipush (eX12_laySector 5 rfl) zk_bipush_m2 ?_
    exact zr_iret rfl rfl (eX12_laySector 6 rfl)
