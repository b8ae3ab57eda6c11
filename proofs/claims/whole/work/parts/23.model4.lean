def gX12_putSum_J1 (a0 : Nat) (x1 : Int32) : Int32 → Zh → Option (Int32 × Zh) :=
  fun (x21 : Int32) (h1 : Zh) => zlt (zR h1 a0 29) (fun r22 => Option.bind r22 (fun a23 => zg (zin x1 (zL h1 a23)) (zlt (zsI h1 a23 (zx x1) x21) (fun (h2 : Zh) => (some (x21, h2))))))
def gX12_putSum_J2 (x26 : Int32) (k27 : Int32 → Int32 → Zh → Option (Int32 × Zh)) : Int32 → Zh → Option (Int32 × Zh) :=
  fun (x30 : Int32) (h4 : Zh) => k27 x30 (x26 + 1) h4
def gX12_putSum_J3 (a0 : Nat) (x1 : Int32) (x25 : Int32) (x26 : Int32) (h3 : Zh) (k31 : Int32 → Zh → Option (Int32 × Zh)) : Option (Int32 × Zh) :=
  zlt (zR h3 a0 30) (fun r32 => Option.bind r32 (fun a33 => zg (zin ((60 * x1) + x25) (zL h3 a33)) (zlt (zsI h3 a33 (zx ((60 * x1) + x25)) x26) (fun (h5 : Zh) => zlt (zR h5 a0 31) (fun r34 => zlt (zR h5 a0 33) (fun r35 => Option.bind r35 (fun a36 => zg (zin x26 (zL h5 a36)) (Option.bind r34 (fun a37 => zg (zin ((60 * x1) + x25) (zL h5 a37)) (zlt (zsI h5 a37 (zx ((60 * x1) + x25)) (((zJ h5 a36 (zx x26)) : Int64).toInt32)) (fun (h6 : Zh) => zlt (zR h6 a0 32) (fun r38 => zlt (zR h6 a0 34) (fun r39 => Option.bind r39 (fun a40 => zg (zin x26 (zL h6 a40)) (Option.bind r38 (fun a41 => zg (zin ((60 * x1) + x25) (zL h6 a41)) (zlt (zsI h6 a41 (zx ((60 * x1) + x25)) (((zJ h6 a40 (zx x26)) : Int64).toInt32)) (fun (h7 : Zh) => k31 (x25 + 1) h7))))))))))))))))))
def gX12_putSum_L4 (a0 : Nat) (x1 : Int32) (k24 : Int32 → Zh → Option (Int32 × Zh)) : (Int32 → Int32 → Zh → Option (Int32 × Zh)) → Int32 → Int32 → Zh → Option (Int32 × Zh) :=
  fun (k27 : Int32 → Int32 → Zh → Option (Int32 × Zh)) (x25 : Int32) (x26 : Int32) (h3 : Zh) => (if (65536 : Int32) ≤ x26 then k24 x25 h3
  else zlt (zR h3 a0 33) (fun r28 => Option.bind r28 (fun a29 => zg (zin x26 (zL h3 a29)) (zjn (gX12_putSum_J2 x26 k27) (fun (k31 : Int32 → Zh → Option (Int32 × Zh)) =>
  zjn (gX12_putSum_J3 a0 x1 x25 x26 h3 k31) (fun (k42 : Option (Int32 × Zh)) =>
  (if ((lg_cmp (zJ h3 a29 (zx x26)) 0) : Int32) = 0 then zlt (zR h3 a0 34) (fun r43 => Option.bind r43 (fun a44 => zg (zin x26 (zL h3 a44)) ((if ((lg_cmp (zJ h3 a44 (zx x26)) 0) : Int32) = 0 then k31 x25 h3
  else k42))))
  else k42)))))))
def gX12_putSum (h : Zh) (a0 : Nat) (x1 : Int32) : Option (Int32 × Zh) :=
  zjn (gX12_putSum_J1 a0 x1) (fun (k24 : Int32 → Zh → Option (Int32 × Zh)) =>
  zlp (fun (_ : Int32) (_ : Int32) (_ : Zh) => (none : Option (Int32 × Zh))) (gX12_putSum_L4 a0 x1 k24) zFU 0 0 h)
set_option maxRecDepth 20000 in
theorem cX12_putSum_ok (l : Launch) (h : Zh) (a0 : Nat) (x1 : Int32) : Zc l yX12_putSum mX12_putSum 0 h [(.ref a0, 12), (.int x1, 0)] ((gX12_putSum h a0 x1).map zoI) := by
  refine zc_of2 (ls := [some (.ref a0, 12), some (.int x1, 0), none, none]) (j := 2) (by decide +kernel) rfl rfl (zEn_ca (zEn_ci rfl)) (Nat.le_of_ble_eq_true rfl) rfl ?_
  unfold gX12_putSum
  refine zr_iconst (eX12_putSum 0 rfl) zk_iconst_0 ?_
  refine zr_istore_n (ls2 := [some (.ref a0, 12), some (.int x1, 0), some (.int 0, 0), none]) (eX12_putSum 1 rfl) rfl (Nat.le_of_ble_eq_true rfl) rfl ?_
  refine zr_iconst (eX12_putSum 2 rfl) zk_iconst_0 ?_
  refine zr_istore_n (ls2 := [some (.ref a0, 12), some (.int x1, 0), some (.int 0, 0), some (.int 0, 0)]) (eX12_putSum 3 rfl) rfl (Nat.le_of_ble_eq_true rfl) rfl ?_
  refine v_jn (fun (k24 : Int32 → Zh → Option (Int32 × Zh)) => ∀ (x21 : Int32) (h1 : Zh), V l mX12_putSum (zN h) (zS h) 0 zoI 89 [some (.ref a0, 12), some (.int x1, 0), some (.int x21, 0), none] [] h1 (k24 x21 h1)) ?_ ?_
  · intro x21 h1
    unfold gX12_putSum_J1
    refine zr_aload_n (r := (some a0)) (eX12_putSum 59 rfl) rfl rfl ?_
    refine zr_getR2 zf_RX12_77 (τ2 := 20) rfl (eX12_putSum 60 rfl) ?_
    refine v_letr (fun r22 => ?_)
    refine zr_iload_n (eX12_putSum 61 rfl) rfl rfl ?_
    refine zr_iload_n (eX12_putSum 62 rfl) rfl rfl ?_
    refine v_nn (fun a23 ea23 => ?_)
    subst ea23
    refine zr_iast (eX12_putSum 63 rfl) ?_
    refine v_leth (fun h2 => ?_)
    refine zr_iload_n (eX12_putSum 64 rfl) rfl rfl ?_
    exact zr_iret rfl rfl (eX12_putSum 65 rfl)
  intro k24 hk24
  refine v_drop [true, true, true, true] rfl ?_
  refine zlp_ind (fun (k27 : Int32 → Int32 → Zh → Option (Int32 × Zh)) => ∀ (x25 : Int32) (x26 : Int32) (h3 : Zh), V l mX12_putSum (zN h) (zS h) 0 zoI 4 [some (.ref a0, 12), some (.int x1, 0), some (.int x25, 0), some (.int x26, 0)] [] h3 (k27 x25 x26 h3)) ?_ ?_ 0 0 h
  · exact fun _ _ _ => v_none
  intro k27 hk27 x25 x26 h3
  unfold gX12_putSum_L4
  refine zr_iload_n (eX12_putSum 4 rfl) rfl rfl ?_
  refine zr_ldc (eX12_putSum 5 rfl) zw_1062 ?_
  refine zr_icmp_ge (eX12_putSum 6 rfl) (t := 89) (by decide) ?_ ?_
  · exact v_drop [true, true, true, false] rfl (hk24 x25 h3)
  · refine zr_aload_n (r := (some a0)) (eX12_putSum 7 rfl) rfl rfl ?_
    refine zr_getR2 zf_RX12_90 (τ2 := 21) rfl (eX12_putSum 8 rfl) ?_
    refine v_letr (fun r28 => ?_)
    refine zr_iload_n (eX12_putSum 9 rfl) rfl rfl ?_
    refine v_nn (fun a29 ea29 => ?_)
    subst ea29
    refine zr_lald (eX12_putSum 10 rfl) ?_
    refine zr_lconst (eX12_putSum 11 rfl) zk_lconst_0 ?_
    refine zr_lcmp (eX12_putSum 12 rfl) ?_
    refine v_jn (fun (k31 : Int32 → Zh → Option (Int32 × Zh)) => ∀ (x30 : Int32) (h4 : Zh), V l mX12_putSum (zN h) (zS h) 0 zoI 83 [some (.ref a0, 12), some (.int x1, 0), some (.int x30, 0), some (.int x26, 0)] [] h4 (k31 x30 h4)) ?_ ?_
    · intro x30 h4
      unfold gX12_putSum_J2
      refine zr_iinc (ls2 := [some (.ref a0, 12), some (.int x1, 0), some (.int x30, 0), some (.int (x26 + 1), 0)]) (eX12_putSum 57 rfl) rfl (Nat.le_of_ble_eq_true rfl) zk_iconst_1 rfl ?_
      refine zr_goto (eX12_putSum 58 rfl) (t := 4) (by decide) ?_
      exact v_drop [true, true, true, true] rfl (hk27 x30 (x26 + 1) h4)
    intro k31 hk31
    refine v_jn (fun (k42 : Option (Int32 × Zh)) => V l mX12_putSum (zN h) (zS h) 0 zoI 32 [some (.ref a0, 12), some (.int x1, 0), some (.int x25, 0), some (.int x26, 0)] [] h3 k42) ?_ ?_
    · skip
      unfold gX12_putSum_J3
      refine zr_aload_n (r := (some a0)) (eX12_putSum 21 rfl) rfl rfl ?_
      refine zr_getR2 zf_RX12_80 (τ2 := 20) rfl (eX12_putSum 22 rfl) ?_
      refine v_letr (fun r32 => ?_)
      refine zr_bipush (eX12_putSum 23 rfl) zk_bipush_60 ?_
      refine zr_iload_n (eX12_putSum 24 rfl) rfl rfl ?_
      refine zr_imul (eX12_putSum 25 rfl) ?_
      refine zr_iload_n (eX12_putSum 26 rfl) rfl rfl ?_
      refine zr_iadd (eX12_putSum 27 rfl) ?_
      refine zr_iload_n (eX12_putSum 28 rfl) rfl rfl ?_
      refine v_nn (fun a33 ea33 => ?_)
      subst ea33
      refine zr_iast (eX12_putSum 29 rfl) ?_
      refine v_leth (fun h5 => ?_)
      refine zr_aload_n (r := (some a0)) (eX12_putSum 30 rfl) rfl rfl ?_
      refine zr_getR2 zf_RX12_83 (τ2 := 20) rfl (eX12_putSum 31 rfl) ?_
      refine v_letr (fun r34 => ?_)
      refine zr_bipush (eX12_putSum 32 rfl) zk_bipush_60 ?_
      refine zr_iload_n (eX12_putSum 33 rfl) rfl rfl ?_
      refine zr_imul (eX12_putSum 34 rfl) ?_
      refine zr_iload_n (eX12_putSum 35 rfl) rfl rfl ?_
      refine zr_iadd (eX12_putSum 36 rfl) ?_
      refine zr_aload_n (r := (some a0)) (eX12_putSum 37 rfl) rfl rfl ?_
      refine zr_getR2 zf_RX12_90 (τ2 := 21) rfl (eX12_putSum 38 rfl) ?_
      refine v_letr (fun r35 => ?_)
      refine zr_iload_n (eX12_putSum 39 rfl) rfl rfl ?_
      refine v_nn (fun a36 ea36 => ?_)
      subst ea36
      refine zr_lald (eX12_putSum 40 rfl) ?_
      refine zr_l2i (eX12_putSum 41 rfl) ?_
      refine v_nn (fun a37 ea37 => ?_)
      subst ea37
      refine zr_iast (eX12_putSum 42 rfl) ?_
      refine v_leth (fun h6 => ?_)
      refine zr_aload_n (r := (some a0)) (eX12_putSum 43 rfl) rfl rfl ?_
      refine zr_getR2 zf_RX12_86 (τ2 := 20) rfl (eX12_putSum 44 rfl) ?_
      refine v_letr (fun r38 => ?_)
      refine zr_bipush (eX12_putSum 45 rfl) zk_bipush_60 ?_
      refine zr_iload_n (eX12_putSum 46 rfl) rfl rfl ?_
      refine zr_imul (eX12_putSum 47 rfl) ?_
      refine zr_iload_n (eX12_putSum 48 rfl) rfl rfl ?_
      refine zr_iadd (eX12_putSum 49 rfl) ?_
      refine zr_aload_n (r := (some a0)) (eX12_putSum 50 rfl) rfl rfl ?_
      refine zr_getR2 zf_RX12_93 (τ2 := 21) rfl (eX12_putSum 51 rfl) ?_
      refine v_letr (fun r39 => ?_)
      refine zr_iload_n (eX12_putSum 52 rfl) rfl rfl ?_
      refine v_nn (fun a40 ea40 => ?_)
      subst ea40
      refine zr_lald (eX12_putSum 53 rfl) ?_
      refine zr_l2i (eX12_putSum 54 rfl) ?_
      refine v_nn (fun a41 ea41 => ?_)
      subst ea41
      refine zr_iast (eX12_putSum 55 rfl) ?_
      refine v_leth (fun h7 => ?_)
      refine zr_iinc (ls2 := [some (.ref a0, 12), some (.int x1, 0), some (.int (x25 + 1), 0), some (.int x26, 0)]) (eX12_putSum 56 rfl) rfl (Nat.le_of_ble_eq_true rfl) zk_iconst_1 rfl ?_
      exact v_drop [true, true, true, true] rfl (hk31 (x25 + 1) h7)
    intro k42 hk42
    refine zr_if_ne (eX12_putSum 13 rfl) (t := 32) (by decide) ?_ ?_
    · exact v_drop [true, true, true, true] rfl (hk42)
    · refine zr_aload_n (r := (some a0)) (eX12_putSum 14 rfl) rfl rfl ?_
      refine zr_getR2 zf_RX12_93 (τ2 := 21) rfl (eX12_putSum 15 rfl) ?_
      refine v_letr (fun r43 => ?_)
      refine zr_iload_n (eX12_putSum 16 rfl) rfl rfl ?_
      refine v_nn (fun a44 ea44 => ?_)
      subst ea44
      refine zr_lald (eX12_putSum 17 rfl) ?_
      refine zr_lconst (eX12_putSum 18 rfl) zk_lconst_0 ?_
      refine zr_lcmp (eX12_putSum 19 rfl) ?_
      refine zr_if_eq (eX12_putSum 20 rfl) (t := 83) (by decide) ?_ ?_
      · exact v_drop [true, true, true, true] rfl (hk31 x25 h3)
      · exact v_drop [true, true, true, true] rfl (hk42)
def gX12_putOrSpent (h : Zh) (a0 : Nat) (x1 : Int32) : Option (Int32 × Zh) :=
  zbi (gX12_isMadeSpent h a0) (fun x21 => (if (x21 : Int32) = 0 then zbI (gX12_putSum h a0 x1) (fun x22 h1 => zbV (gX12_acted h1 a0) (fun h2 => zlt (zR h2 a0 29) (fun r23 => Option.bind r23 (fun a24 => zg (zin x1 (zL h2 a24)) ((some ((zI h2 a24 (zx x1)), h2)))))))
  else (some ((-6), h))))
set_option maxRecDepth 20000 in
theorem cX12_putOrSpent_ok (l : Launch) (h : Zh) (a0 : Nat) (x1 : Int32) : Zc l yX12_putOrSpent mX12_putOrSpent 0 h [(.ref a0, 12), (.int x1, 0)] ((gX12_putOrSpent h a0 x1).map zoI) := by
  refine zc_of2 (ls := [some (.ref a0, 12), some (.int x1, 0)]) (j := 0) (by decide +kernel) rfl rfl (zEn_ca (zEn_ci rfl)) (Nat.le_of_ble_eq_true rfl) rfl ?_
  unfold gX12_putOrSpent
  refine zr_aload_n (r := (some a0)) (eX12_putOrSpent 0 rfl) rfl rfl ?_
  refine zr_invV_i (as := []) (cX12_isMadeSpent_ok l h a0) rfl rfl ⟨by decide, by decide, by decide⟩ zcd_X12_isMadeSpent rfl ⟨zw_1473, zw_1475, zw_45, zw_62⟩ ⟨Nat.le_of_ble_eq_true rfl, Nat.le_of_ble_eq_true rfl⟩ rfl (Nat.le_of_ble_eq_true rfl) (eX12_putOrSpent 1 rfl) (fun x21 => ?_)
  refine zr_if_eq (eX12_putOrSpent 2 rfl) (t := 10) (by decide) ?_ ?_
  · refine zr_aload_n (r := (some a0)) (eX12_putOrSpent 5 rfl) rfl rfl ?_
    refine zr_iload_n (eX12_putOrSpent 6 rfl) rfl rfl ?_
    refine zr_invV_I (as := [(.int x1, 0)]) (cX12_putSum_ok l h a0 x1) rfl rfl ⟨by decide, by decide, by decide⟩ zcd_X12_putSum rfl ⟨zw_1481, zw_1483, zw_47, zw_62⟩ ⟨Nat.le_of_ble_eq_true rfl, Nat.le_of_ble_eq_true rfl⟩ rfl (Nat.le_of_ble_eq_true rfl) (eX12_putOrSpent 7 rfl) (fun x22 h1 => ?_)
    refine zr_pop (eX12_putOrSpent 8 rfl) rfl ?_
    refine zr_aload_n (r := (some a0)) (eX12_putOrSpent 9 rfl) rfl rfl ?_
    refine zr_invV_V (as := []) (cX12_acted_ok l h1 a0) rfl rfl ⟨by decide, by decide, by decide⟩ zcd_X12_acted rfl ⟨zw_1208, zw_1210, zw_11, zw_62⟩ ⟨Nat.le_of_ble_eq_true rfl, Nat.le_of_ble_eq_true rfl⟩ rfl (Nat.le_of_ble_eq_true rfl) (eX12_putOrSpent 10 rfl) (fun h2 => ?_)
    refine zr_aload_n (r := (some a0)) (eX12_putOrSpent 11 rfl) rfl rfl ?_
    refine zr_getR2 zf_RX12_77 (τ2 := 20) rfl (eX12_putOrSpent 12 rfl) ?_
    refine v_letr (fun r23 => ?_)
    refine zr_iload_n (eX12_putOrSpent 13 rfl) rfl rfl ?_
    refine v_nn (fun a24 ea24 => ?_)
    subst ea24
    refine zr_iald (eX12_putOrSpent 14 rfl) ?_
    exact zr_iret rfl rfl (eX12_putOrSpent 15 rfl)
  · refine zr_bipush (eX12_putOrSpent 3 rfl) zk_bipush_m6 ?_
    exact zr_iret rfl rfl (eX12_putOrSpent 4 rfl)
def gX12_add (h : Zh) (a0 : Nat) (x1 : Int32) (x2 : Int32) (x3 : Int32) (x4 : Int32) (x5 : Int32) : Option (Int32 × Zh) :=
  zbi (gX12_noSum x1) (fun x21 => (if (x21 : Int32) = 0 then zbi (gX12_in ((x2 : Int32).toInt64) 0 255) (fun x22 => (if (x22 : Int32) = 0 then (some ((-2), h))
  else zbi (gX12_in ((x3 : Int32).toInt64) 0 255) (fun x23 => (if (x23 : Int32) = 0 then (some ((-2), h))
  else zbV (gX12_startSum h a0) (fun h1 => zbV (gX12_takeSum h1 a0 x1 1) (fun h2 => zlt (zR h2 a0 33) (fun r24 => zlt ((256 * x2) + x3) (fun x25 => Option.bind r24 (fun a26 => zg (zin x25 (zL h2 a26)) (zg (zin x25 (zL h2 a26)) (zlt (zsJ h2 a26 (zx x25) ((zJ h2 a26 (zx x25)) + ((x4 : Int32).toInt64))) (fun (h3 : Zh) => zlt (zR h3 a0 34) (fun r27 => zlt ((256 * x2) + x3) (fun x28 => Option.bind r27 (fun a29 => zg (zin x28 (zL h3 a29)) (zg (zin x28 (zL h3 a29)) (zlt (zsJ h3 a29 (zx x28) ((zJ h3 a29 (zx x28)) + ((x5 : Int32).toInt64))) (fun (h4 : Zh) => zbI (gX12_putOrSpent h4 a0 x1) (fun x30 h5 => (some (x30, h5)))))))))))))))))))))
  else (some ((-1), h))))
set_option maxRecDepth 20000 in
theorem cX12_add_ok (l : Launch) (h : Zh) (a0 : Nat) (x1 : Int32) (x2 : Int32) (x3 : Int32) (x4 : Int32) (x5 : Int32) : Zc l yX12_add mX12_add 0 h [(.ref a0, 12), (.int x1, 0), (.int x2, 0), (.int x3, 0), (.int x4, 0), (.int x5, 0)] ((gX12_add h a0 x1 x2 x3 x4 x5).map zoI) := by
  refine zc_of2 (ls := [some (.ref a0, 12), some (.int x1, 0), some (.int x2, 0), some (.int x3, 0), some (.int x4, 0), some (.int x5, 0)]) (j := 0) (by decide +kernel) rfl rfl (zEn_ca (zEn_ci (zEn_ci (zEn_ci (zEn_ci (zEn_ci rfl)))))) (Nat.le_of_ble_eq_true rfl) rfl ?_
  unfold gX12_add
  refine zr_iload_n (eX12_add 0 rfl) rfl rfl ?_
  refine zr_invS_i (as := [(.int x1, 0)]) (cX12_noSum_ok l h x1) rfl zcd_X12_noSum ⟨zw_1457, zw_1458, zw_62⟩ ⟨Nat.le_of_ble_eq_true rfl, Nat.le_of_ble_eq_true rfl⟩ rfl (Nat.le_of_ble_eq_true rfl) (eX12_add 1 rfl) (fun x21 => ?_)
  refine zr_if_eq (eX12_add 2 rfl) (t := 9) (by decide) ?_ ?_
  · refine zr_iload_n (eX12_add 5 rfl) rfl rfl ?_
    refine zr_i2l (eX12_add 6 rfl) ?_
    refine zr_lconst (eX12_add 7 rfl) zk_lconst_0 ?_
    refine zr_ldc2 (eX12_add 8 rfl) zw_1460 ?_
    refine zr_invS_i (as := [(.long ((x2 : Int32).toInt64), 0), (.long 0, 0), (.long 255, 0)]) (cX12_in_ok l h ((x2 : Int32).toInt64) 0 255) rfl zcd_X12_in ⟨zw_1203, zw_1204, zw_62⟩ ⟨Nat.le_of_ble_eq_true rfl, Nat.le_of_ble_eq_true rfl⟩ rfl (Nat.le_of_ble_eq_true rfl) (eX12_add 9 rfl) (fun x22 => ?_)
    refine zr_if_eq (eX12_add 10 rfl) (t := 33) (by decide) ?_ ?_
    · refine zr_bipush (eX12_add 17 rfl) zk_bipush_m2 ?_
      exact zr_iret rfl rfl (eX12_add 18 rfl)
    · refine zr_iload_n (eX12_add 11 rfl) rfl rfl ?_
      refine zr_i2l (eX12_add 12 rfl) ?_
      refine zr_lconst (eX12_add 13 rfl) zk_lconst_0 ?_
      refine zr_ldc2 (eX12_add 14 rfl) zw_1460 ?_
      refine zr_invS_i (as := [(.long ((x3 : Int32).toInt64), 0), (.long 0, 0), (.long 255, 0)]) (cX12_in_ok l h ((x3 : Int32).toInt64) 0 255) rfl zcd_X12_in ⟨zw_1203, zw_1204, zw_62⟩ ⟨Nat.le_of_ble_eq_true rfl, Nat.le_of_ble_eq_true rfl⟩ rfl (Nat.le_of_ble_eq_true rfl) (eX12_add 15 rfl) (fun x23 => ?_)
      refine zr_if_ne (eX12_add 16 rfl) (t := 36) (by decide) ?_ ?_
      · refine zr_aload_n (r := (some a0)) (eX12_add 19 rfl) rfl rfl ?_
        refine zr_invV_V (as := []) (cX12_startSum_ok l h a0) rfl rfl ⟨by decide, by decide, by decide⟩ zcd_X12_startSum rfl ⟨zw_1461, zw_1463, zw_42, zw_62⟩ ⟨Nat.le_of_ble_eq_true rfl, Nat.le_of_ble_eq_true rfl⟩ rfl (Nat.le_of_ble_eq_true rfl) (eX12_add 20 rfl) (fun h1 => ?_)
        refine zr_aload_n (r := (some a0)) (eX12_add 21 rfl) rfl rfl ?_
        refine zr_iload_n (eX12_add 22 rfl) rfl rfl ?_
        refine zr_iconst (eX12_add 23 rfl) zk_iconst_1 ?_
        refine zr_invV_V (as := [(.int x1, 0), (.int 1, 0)]) (cX12_takeSum_ok l h1 a0 x1 1) rfl rfl ⟨by decide, by decide, by decide⟩ zcd_X12_takeSum rfl ⟨zw_1465, zw_1467, zw_43, zw_62⟩ ⟨Nat.le_of_ble_eq_true rfl, Nat.le_of_ble_eq_true rfl⟩ rfl (Nat.le_of_ble_eq_true rfl) (eX12_add 24 rfl) (fun h2 => ?_)
        refine zr_aload_n (r := (some a0)) (eX12_add 25 rfl) rfl rfl ?_
        refine zr_getR2 zf_RX12_90 (τ2 := 21) rfl (eX12_add 26 rfl) ?_
        refine v_letr (fun r24 => ?_)
        refine zr_sipush (eX12_add 27 rfl) zk_sipush_256 ?_
        refine zr_iload_n (eX12_add 28 rfl) rfl rfl ?_
        refine zr_imul (eX12_add 29 rfl) ?_
        refine zr_iload_n (eX12_add 30 rfl) rfl rfl ?_
        refine zr_iadd (eX12_add 31 rfl) ?_
        refine v_leti (fun x25 => ?_)
        refine v_nn (fun a26 ea26 => ?_)
        subst ea26
        refine zr_dup2 (eX12_add 32 rfl) rfl rfl ?_
        refine zr_lald (eX12_add 33 rfl) ?_
        refine zr_iload (eX12_add 34 rfl) rfl ?_
        refine zr_i2l (eX12_add 35 rfl) ?_
        refine zr_ladd (eX12_add 36 rfl) ?_
        refine zr_last (eX12_add 37 rfl) ?_
        refine v_leth (fun h3 => ?_)
        refine zr_aload_n (r := (some a0)) (eX12_add 38 rfl) rfl rfl ?_
        refine zr_getR2 zf_RX12_93 (τ2 := 21) rfl (eX12_add 39 rfl) ?_
        refine v_letr (fun r27 => ?_)
        refine zr_sipush (eX12_add 40 rfl) zk_sipush_256 ?_
        refine zr_iload_n (eX12_add 41 rfl) rfl rfl ?_
        refine zr_imul (eX12_add 42 rfl) ?_
        refine zr_iload_n (eX12_add 43 rfl) rfl rfl ?_
        refine zr_iadd (eX12_add 44 rfl) ?_
        refine v_leti (fun x28 => ?_)
        refine v_nn (fun a29 ea29 => ?_)
        subst ea29
        refine zr_dup2 (eX12_add 45 rfl) rfl rfl ?_
        refine zr_lald (eX12_add 46 rfl) ?_
        refine zr_iload (eX12_add 47 rfl) rfl ?_
        refine zr_i2l (eX12_add 48 rfl) ?_
        refine zr_ladd (eX12_add 49 rfl) ?_
        refine zr_last (eX12_add 50 rfl) ?_
        refine v_leth (fun h4 => ?_)
        refine zr_aload_n (r := (some a0)) (eX12_add 51 rfl) rfl rfl ?_
        refine zr_iload_n (eX12_add 52 rfl) rfl rfl ?_
        refine zr_invV_I (as := [(.int x1, 0)]) (cX12_putOrSpent_ok l h4 a0 x1) rfl rfl ⟨by decide, by decide, by decide⟩ zcd_X12_putOrSpent rfl ⟨zw_1469, zw_1471, zw_44, zw_62⟩ ⟨Nat.le_of_ble_eq_true rfl, Nat.le_of_ble_eq_true rfl⟩ rfl (Nat.le_of_ble_eq_true rfl) (eX12_add 53 rfl) (fun x30 h5 => ?_)
        exact zr_iret rfl rfl (eX12_add 54 rfl)
      · refine zr_bipush (eX12_add 17 rfl) zk_bipush_m2 ?_
        exact zr_iret rfl rfl (eX12_add 18 rfl)
  · refine zr_iconst (eX12_add 3 rfl) zk_iconst_m1 ?_
    exact zr_iret rfl rfl (eX12_add 4 rfl)
def gX12_clear (h : Zh) (a0 : Nat) (x1 : Int32) : Option (Int32 × Zh) :=
  zbi (gX12_noSum x1) (fun x21 => (if (x21 : Int32) = 0 then zlt (zR h a0 29) (fun r22 => Option.bind r22 (fun a23 => zg (zin x1 (zL h a23)) (zlt (zI h a23 (zx x1)) (fun x24 => zlt (zR h a0 29) (fun r25 => Option.bind r25 (fun a26 => zg (zin x1 (zL h a26)) (zlt (zsI h a26 (zx x1) 0) (fun (h1 : Zh) => zbV (gX12_acted h1 a0) (fun h2 => (some (x24, h2)))))))))))
  else (some ((-1), h))))
set_option maxRecDepth 20000 in
theorem cX12_clear_ok (l : Launch) (h : Zh) (a0 : Nat) (x1 : Int32) : Zc l yX12_clear mX12_clear 0 h [(.ref a0, 12), (.int x1, 0)] ((gX12_clear h a0 x1).map zoI) := by
  refine zc_of2 (ls := [some (.ref a0, 12), some (.int x1, 0), none]) (j := 1) (by decide +kernel) rfl rfl (zEn_ca (zEn_ci rfl)) (Nat.le_of_ble_eq_true rfl) rfl ?_
  unfold gX12_clear
  refine zr_iload_n (eX12_clear 0 rfl) rfl rfl ?_
  refine zr_invS_i (as := [(.int x1, 0)]) (cX12_noSum_ok l h x1) rfl zcd_X12_noSum ⟨zw_1457, zw_1458, zw_62⟩ ⟨Nat.le_of_ble_eq_true rfl, Nat.le_of_ble_eq_true rfl⟩ rfl (Nat.le_of_ble_eq_true rfl) (eX12_clear 1 rfl) (fun x21 => ?_)
  refine zr_if_eq (eX12_clear 2 rfl) (t := 9) (by decide) ?_ ?_
  · refine zr_aload_n (r := (some a0)) (eX12_clear 5 rfl) rfl rfl ?_
    refine zr_getR2 zf_RX12_77 (τ2 := 20) rfl (eX12_clear 6 rfl) ?_
    refine v_letr (fun r22 => ?_)
    refine zr_iload_n (eX12_clear 7 rfl) rfl rfl ?_
    refine v_nn (fun a23 ea23 => ?_)
    subst ea23
    refine zr_iald (eX12_clear 8 rfl) ?_
    refine v_leti (fun x24 => ?_)
    refine zr_istore_n (ls2 := [some (.ref a0, 12), some (.int x1, 0), some (.int x24, 0)]) (eX12_clear 9 rfl) rfl (Nat.le_of_ble_eq_true rfl) rfl ?_
    refine zr_aload_n (r := (some a0)) (eX12_clear 10 rfl) rfl rfl ?_
    refine zr_getR2 zf_RX12_77 (τ2 := 20) rfl (eX12_clear 11 rfl) ?_
    refine v_letr (fun r25 => ?_)
    refine zr_iload_n (eX12_clear 12 rfl) rfl rfl ?_
    refine zr_iconst (eX12_clear 13 rfl) zk_iconst_0 ?_
    refine v_nn (fun a26 ea26 => ?_)
    subst ea26
    refine zr_iast (eX12_clear 14 rfl) ?_
    refine v_leth (fun h1 => ?_)
    refine zr_aload_n (r := (some a0)) (eX12_clear 15 rfl) rfl rfl ?_
    refine zr_invV_V (as := []) (cX12_acted_ok l h1 a0) rfl rfl ⟨by decide, by decide, by decide⟩ zcd_X12_acted rfl ⟨zw_1208, zw_1210, zw_11, zw_62⟩ ⟨Nat.le_of_ble_eq_true rfl, Nat.le_of_ble_eq_true rfl⟩ rfl (Nat.le_of_ble_eq_true rfl) (eX12_clear 16 rfl) (fun h2 => ?_)
    refine zr_iload_n (eX12_clear 17 rfl) rfl rfl ?_
    exact zr_iret rfl rfl (eX12_clear 18 rfl)
  · refine zr_iconst (eX12_clear 3 rfl) zk_iconst_m1 ?_
    exact zr_iret rfl rfl (eX12_clear 4 rfl)
def gX12_putChain_J1 (a0 : Nat) (x1 : Int32) : Zh → Option (Int32 × Zh) :=
  fun (h2 : Zh) => zbI (gX12_putSum h2 a0 x1) (fun x21 h3 => (some (x21, h3)))
def gX12_putChain_L2 (a0 : Nat) (k22 : Zh → Option (Int32 × Zh)) : (Int32 → Zh → Option (Int32 × Zh)) → Int32 → Zh → Option (Int32 × Zh) :=
  fun (k24 : Int32 → Zh → Option (Int32 × Zh)) (x23 : Int32) (h4 : Zh) => zbi (gX12_pairMany h4 a0) (fun x25 => (if (x25 : Int32) ≤ x23 then k22 h4
  else (if ((zI h4 a0 1) : Int32) = 0 then none else zlt (((1 : Int32) <<< (x23 &&& 31)) ||| ((1 : Int32) <<< (((x23 + 1) - (x23 + 1) / (zI h4 a0 1) * (zI h4 a0 1)) &&& 31))) (fun x26 => zlt (zR h4 a0 33) (fun r27 => zlt (256 * x26) (fun x28 => Option.bind r27 (fun a29 => zg (zin x28 (zL h4 a29)) (zg (zin x28 (zL h4 a29)) (zlt (zsJ h4 a29 (zx x28) ((zJ h4 a29 (zx x28)) + (((zI h4 a0 3) : Int32).toInt64))) (fun (h5 : Zh) => zlt (zR h5 a0 33) (fun r30 => zlt ((256 * x26) + x26) (fun x31 => Option.bind r30 (fun a32 => zg (zin x31 (zL h5 a32)) (zg (zin x31 (zL h5 a32)) (zlt (zsJ h5 a32 (zx x31) ((zJ h5 a32 (zx x31)) + (((zI h5 a0 3) : Int32).toInt64))) (fun (h6 : Zh) => zlt (zR h6 a0 33) (fun r33 => Option.bind r33 (fun a34 => zg (zin x26 (zL h6 a34)) (zg (zin x26 (zL h6 a34)) (zlt (zsJ h6 a34 (zx x26) ((zJ h6 a34 (zx x26)) + (((2 * (zI h6 a0 4)) : Int32).toInt64))) (fun (h7 : Zh) => k24 (x23 + 1) h7)))))))))))))))))))))
def gX12_putChain (h : Zh) (a0 : Nat) (x1 : Int32) : Option (Int32 × Zh) :=
  zbV (gX12_startSum h a0) (fun h1 => zjn (gX12_putChain_J1 a0 x1) (fun (k22 : Zh → Option (Int32 × Zh)) =>
  zlp (fun (_ : Int32) (_ : Zh) => (none : Option (Int32 × Zh))) (gX12_putChain_L2 a0 k22) zFU 0 h1))
set_option maxRecDepth 20000 in
theorem cX12_putChain_ok (l : Launch) (h : Zh) (a0 : Nat) (x1 : Int32) : Zc l yX12_putChain mX12_putChain 0 h [(.ref a0, 12), (.int x1, 0)] ((gX12_putChain h a0 x1).map zoI) := by
  refine zc_of2 (ls := [some (.ref a0, 12), some (.int x1, 0), none, none]) (j := 2) (by decide +kernel) rfl rfl (zEn_ca (zEn_ci rfl)) (Nat.le_of_ble_eq_true rfl) rfl ?_
  unfold gX12_putChain
  refine zr_aload_n (r := (some a0)) (eX12_putChain 0 rfl) rfl rfl ?_
  refine zr_invV_V (as := []) (cX12_startSum_ok l h a0) rfl rfl ⟨by decide, by decide, by decide⟩ zcd_X12_startSum rfl ⟨zw_1461, zw_1463, zw_42, zw_62⟩ ⟨Nat.le_of_ble_eq_true rfl, Nat.le_of_ble_eq_true rfl⟩ rfl (Nat.le_of_ble_eq_true rfl) (eX12_putChain 1 rfl) (fun h1 => ?_)
  refine zr_iconst (eX12_putChain 2 rfl) zk_iconst_0 ?_
  refine zr_istore_n (ls2 := [some (.ref a0, 12), some (.int x1, 0), some (.int 0, 0), none]) (eX12_putChain 3 rfl) rfl (Nat.le_of_ble_eq_true rfl) rfl ?_
  refine v_jn (fun (k22 : Zh → Option (Int32 × Zh)) => ∀ (h2 : Zh), V l mX12_putChain (zN h) (zS h) 0 zoI 89 [some (.ref a0, 12), some (.int x1, 0), none, none] [] h2 (k22 h2)) ?_ ?_
  · intro h2
    unfold gX12_putChain_J1
    refine zr_aload_n (r := (some a0)) (eX12_putChain 61 rfl) rfl rfl ?_
    refine zr_iload_n (eX12_putChain 62 rfl) rfl rfl ?_
    refine zr_invV_I (as := [(.int x1, 0)]) (cX12_putSum_ok l h2 a0 x1) rfl rfl ⟨by decide, by decide, by decide⟩ zcd_X12_putSum rfl ⟨zw_1481, zw_1483, zw_47, zw_62⟩ ⟨Nat.le_of_ble_eq_true rfl, Nat.le_of_ble_eq_true rfl⟩ rfl (Nat.le_of_ble_eq_true rfl) (eX12_putChain 63 rfl) (fun x21 h3 => ?_)
    exact zr_iret rfl rfl (eX12_putChain 64 rfl)
  intro k22 hk22
  refine v_drop [true, true, true, false] rfl ?_
  refine zlp_ind (fun (k24 : Int32 → Zh → Option (Int32 × Zh)) => ∀ (x23 : Int32) (h4 : Zh), V l mX12_putChain (zN h) (zS h) 0 zoI 6 [some (.ref a0, 12), some (.int x1, 0), some (.int x23, 0), none] [] h4 (k24 x23 h4)) ?_ ?_ 0 h1
  · exact fun _ _ => v_none
  intro k24 hk24 x23 h4
  unfold gX12_putChain_L2
  refine zr_iload_n (eX12_putChain 4 rfl) rfl rfl ?_
  refine zr_aload_n (r := (some a0)) (eX12_putChain 5 rfl) rfl rfl ?_
  refine zr_invV_i (as := []) (cX12_pairMany_ok l h4 a0) rfl rfl ⟨by decide, by decide, by decide⟩ zcd_X12_pairMany rfl ⟨zw_1232, zw_1234, zw_15, zw_62⟩ ⟨Nat.le_of_ble_eq_true rfl, Nat.le_of_ble_eq_true rfl⟩ rfl (Nat.le_of_ble_eq_true rfl) (eX12_putChain 6 rfl) (fun x25 => ?_)
  refine zr_icmp_ge (eX12_putChain 7 rfl) (t := 89) (by decide) ?_ ?_
  · exact v_drop [true, true, false, false] rfl (hk22 h4)
  · refine zr_iconst (eX12_putChain 8 rfl) zk_iconst_1 ?_
    refine zr_iload_n (eX12_putChain 9 rfl) rfl rfl ?_
    refine zr_ishl (eX12_putChain 10 rfl) ?_
    refine zr_iconst (eX12_putChain 11 rfl) zk_iconst_1 ?_
    refine zr_iload_n (eX12_putChain 12 rfl) rfl rfl ?_
    refine zr_iconst (eX12_putChain 13 rfl) zk_iconst_1 ?_
    refine zr_iadd (eX12_putChain 14 rfl) ?_
    refine zr_aload_n (r := (some a0)) (eX12_putChain 15 rfl) rfl rfl ?_
    refine zr_getI zf_RX12_111 ⟨by decide, by decide⟩ (eX12_putChain 16 rfl) ?_
    refine zr_irem (eX12_putChain 17 rfl) ?_
    refine zr_ishl (eX12_putChain 18 rfl) ?_
    refine zr_ior (eX12_putChain 19 rfl) ?_
    refine v_leti (fun x26 => ?_)
    refine zr_istore_n (ls2 := [some (.ref a0, 12), some (.int x1, 0), some (.int x23, 0), some (.int x26, 0)]) (eX12_putChain 20 rfl) rfl (Nat.le_of_ble_eq_true rfl) rfl ?_
    refine zr_aload_n (r := (some a0)) (eX12_putChain 21 rfl) rfl rfl ?_
    refine zr_getR2 zf_RX12_90 (τ2 := 21) rfl (eX12_putChain 22 rfl) ?_
    refine v_letr (fun r27 => ?_)
    refine zr_sipush (eX12_putChain 23 rfl) zk_sipush_256 ?_
    refine zr_iload_n (eX12_putChain 24 rfl) rfl rfl ?_
    refine zr_imul (eX12_putChain 25 rfl) ?_
    refine v_leti (fun x28 => ?_)
    refine v_nn (fun a29 ea29 => ?_)
    subst ea29
    refine zr_dup2 (eX12_putChain 26 rfl) rfl rfl ?_
    refine zr_lald (eX12_putChain 27 rfl) ?_
    refine zr_aload_n (r := (some a0)) (eX12_putChain 28 rfl) rfl rfl ?_
    refine zr_getI zf_RX12_119 ⟨by decide, by decide⟩ (eX12_putChain 29 rfl) ?_
    refine zr_i2l (eX12_putChain 30 rfl) ?_
    refine zr_ladd (eX12_putChain 31 rfl) ?_
    refine zr_last (eX12_putChain 32 rfl) ?_
    refine v_leth (fun h5 => ?_)
    refine zr_aload_n (r := (some a0)) (eX12_putChain 33 rfl) rfl rfl ?_
    refine zr_getR2 zf_RX12_90 (τ2 := 21) rfl (eX12_putChain 34 rfl) ?_
    refine v_letr (fun r30 => ?_)
    refine zr_sipush (eX12_putChain 35 rfl) zk_sipush_256 ?_
    refine zr_iload_n (eX12_putChain 36 rfl) rfl rfl ?_
    refine zr_imul (eX12_putChain 37 rfl) ?_
    refine zr_iload_n (eX12_putChain 38 rfl) rfl rfl ?_
    refine zr_iadd (eX12_putChain 39 rfl) ?_
    refine v_leti (fun x31 => ?_)
    refine v_nn (fun a32 ea32 => ?_)
    subst ea32
    refine zr_dup2 (eX12_putChain 40 rfl) rfl rfl ?_
    refine zr_lald (eX12_putChain 41 rfl) ?_
    refine zr_aload_n (r := (some a0)) (eX12_putChain 42 rfl) rfl rfl ?_
    refine zr_getI zf_RX12_119 ⟨by decide, by decide⟩ (eX12_putChain 43 rfl) ?_
    refine zr_i2l (eX12_putChain 44 rfl) ?_
    refine zr_ladd (eX12_putChain 45 rfl) ?_
    refine zr_last (eX12_putChain 46 rfl) ?_
    refine v_leth (fun h6 => ?_)
    refine zr_aload_n (r := (some a0)) (eX12_putChain 47 rfl) rfl rfl ?_
    refine zr_getR2 zf_RX12_90 (τ2 := 21) rfl (eX12_putChain 48 rfl) ?_
    refine v_letr (fun r33 => ?_)
    refine zr_iload_n (eX12_putChain 49 rfl) rfl rfl ?_
    refine v_nn (fun a34 ea34 => ?_)
    subst ea34
    refine zr_dup2 (eX12_putChain 50 rfl) rfl rfl ?_
    refine zr_lald (eX12_putChain 51 rfl) ?_
    refine zr_iconst (eX12_putChain 52 rfl) zk_iconst_2 ?_
    refine zr_aload_n (r := (some a0)) (eX12_putChain 53 rfl) rfl rfl ?_
    refine zr_getI zf_RX12_122 ⟨by decide, by decide⟩ (eX12_putChain 54 rfl) ?_
    refine zr_imul (eX12_putChain 55 rfl) ?_
    refine zr_i2l (eX12_putChain 56 rfl) ?_
    refine zr_ladd (eX12_putChain 57 rfl) ?_
    refine zr_last (eX12_putChain 58 rfl) ?_
    refine v_leth (fun h7 => ?_)
    refine zr_iinc (ls2 := [some (.ref a0, 12), some (.int x1, 0), some (.int (x23 + 1), 0), some (.int x26, 0)]) (eX12_putChain 59 rfl) rfl (Nat.le_of_ble_eq_true rfl) zk_iconst_1 rfl ?_
    refine zr_goto (eX12_putChain 60 rfl) (t := 6) (by decide) ?_
    exact v_drop [true, true, true, false] rfl (hk24 (x23 + 1) h7)
def gX12_asChain (h : Zh) (a0 : Nat) (x1 : Int32) : Option (Int32 × Zh) :=
  zbi (gX12_noSum x1) (fun x21 => (if (x21 : Int32) = 0 then zbI (gX12_putChain h a0 x1) (fun x22 h1 => zbV (gX12_acted h1 a0) (fun h2 => (some (x22, h2))))
  else (some ((-1), h))))
set_option maxRecDepth 20000 in
theorem cX12_asChain_ok (l : Launch) (h : Zh) (a0 : Nat) (x1 : Int32) : Zc l yX12_asChain mX12_asChain 0 h [(.ref a0, 12), (.int x1, 0)] ((gX12_asChain h a0 x1).map zoI) := by
  refine zc_of2 (ls := [some (.ref a0, 12), some (.int x1, 0), none]) (j := 1) (by decide +kernel) rfl rfl (zEn_ca (zEn_ci rfl)) (Nat.le_of_ble_eq_true rfl) rfl ?_
  unfold gX12_asChain
  refine zr_iload_n (eX12_asChain 0 rfl) rfl rfl ?_
  refine zr_invS_i (as := [(.int x1, 0)]) (cX12_noSum_ok l h x1) rfl zcd_X12_noSum ⟨zw_1457, zw_1458, zw_62⟩ ⟨Nat.le_of_ble_eq_true rfl, Nat.le_of_ble_eq_true rfl⟩ rfl (Nat.le_of_ble_eq_true rfl) (eX12_asChain 1 rfl) (fun x21 => ?_)
  refine zr_if_eq (eX12_asChain 2 rfl) (t := 9) (by decide) ?_ ?_
  · refine zr_aload_n (r := (some a0)) (eX12_asChain 5 rfl) rfl rfl ?_
    refine zr_iload_n (eX12_asChain 6 rfl) rfl rfl ?_
    refine zr_invV_I (as := [(.int x1, 0)]) (cX12_putChain_ok l h a0 x1) rfl rfl ⟨by decide, by decide, by decide⟩ zcd_X12_putChain rfl ⟨zw_1493, zw_1495, zw_48, zw_62⟩ ⟨Nat.le_of_ble_eq_true rfl, Nat.le_of_ble_eq_true rfl⟩ rfl (Nat.le_of_ble_eq_true rfl) (eX12_asChain 7 rfl) (fun x22 h1 => ?_)
    refine zr_istore_n (ls2 := [some (.ref a0, 12), some (.int x1, 0), some (.int x22, 0)]) (eX12_asChain 8 rfl) rfl (Nat.le_of_ble_eq_true rfl) rfl ?_
    refine zr_aload_n (r := (some a0)) (eX12_asChain 9 rfl) rfl rfl ?_
    refine zr_invV_V (as := []) (cX12_acted_ok l h1 a0) rfl rfl ⟨by decide, by decide, by decide⟩ zcd_X12_acted rfl ⟨zw_1208, zw_1210, zw_11, zw_62⟩ ⟨Nat.le_of_ble_eq_true rfl, Nat.le_of_ble_eq_true rfl⟩ rfl (Nat.le_of_ble_eq_true rfl) (eX12_asChain 10 rfl) (fun h2 => ?_)
    refine zr_iload_n (eX12_asChain 11 rfl) rfl rfl ?_
    exact zr_iret rfl rfl (eX12_asChain 12 rfl)
  · refine zr_iconst (eX12_asChain 3 rfl) zk_iconst_m1 ?_
    exact zr_iret rfl rfl (eX12_asChain 4 rfl)
def gX12_join_J1 (a0 : Nat) (x1 : Int32) : Zh → Option (Int32 × Zh) :=
  fun (h3 : Zh) => zbI (gX12_putOrSpent h3 a0 x1) (fun x25 h4 => (some (x25, h4)))
def gX12_join_J2 (a0 : Nat) (x1 : Int32) (x2 : Int32) (x3 : Int32) (x4 : Int32) : Zh → Option (Int32 × Zh) :=
  fun (h2 : Zh) => zjn (gX12_join_J1 a0 x1) (fun (k26 : Zh → Option (Int32 × Zh)) =>
  (if (x4 : Int32) = 1 then zbV (gX12_takeProduct h2 a0 x3 x2 (-1)) (fun h5 => k26 h5)
  else k26 h2))
def gX12_join_J3 (a0 : Nat) (x3 : Int32) (k27 : Zh → Option (Int32 × Zh)) (h6 : Zh) : Int32 → Option (Int32 × Zh) :=
  fun (x28 : Int32) => zbV (gX12_takeSum h6 a0 x3 x28) (fun h7 => k27 h7)
def gX12_join (h : Zh) (a0 : Nat) (x1 : Int32) (x2 : Int32) (x3 : Int32) (x4 : Int32) : Option (Int32 × Zh) :=
  zbi (gX12_noSum x1) (fun x21 => (if (x21 : Int32) = 0 then zbi (gX12_noSum x2) (fun x22 => (if (x22 : Int32) = 0 then zbi (gX12_noSum x3) (fun x23 => (if (x23 : Int32) = 0 then zbi (gX12_in ((x4 : Int32).toInt64) 0 3) (fun x24 => (if (x24 : Int32) = 0 then (some ((-2), h))
  else zbV (gX12_startSum h a0) (fun h1 => zjn (gX12_join_J2 a0 x1 x2 x3 x4) (fun (k27 : Zh → Option (Int32 × Zh)) =>
  (if (2 : Int32) ≤ x4 then zbV (gX12_takeSum h1 a0 x2 1) (fun h6 => zjn (gX12_join_J3 a0 x3 k27 h6) (fun (k29 : Int32 → Option (Int32 × Zh)) =>
  (if (x4 : Int32) = 2 then k29 1
  else k29 (-1))))
  else zbV (gX12_takeProduct h1 a0 x2 x3 1) (fun h8 => k27 h8))))))
  else (some ((-1), h))))
  else (some ((-1), h))))
  else (some ((-1), h))))
set_option maxRecDepth 20000 in
theorem cX12_join_ok (l : Launch) (h : Zh) (a0 : Nat) (x1 : Int32) (x2 : Int32) (x3 : Int32) (x4 : Int32) : Zc l yX12_join mX12_join 0 h [(.ref a0, 12), (.int x1, 0), (.int x2, 0), (.int x3, 0), (.int x4, 0)] ((gX12_join h a0 x1 x2 x3 x4).map zoI) := by
  refine zc_of2 (ls := [some (.ref a0, 12), some (.int x1, 0), some (.int x2, 0), some (.int x3, 0), some (.int x4, 0)]) (j := 0) (by decide +kernel) rfl rfl (zEn_ca (zEn_ci (zEn_ci (zEn_ci (zEn_ci rfl))))) (Nat.le_of_ble_eq_true rfl) rfl ?_
  unfold gX12_join
  refine zr_iload_n (eX12_join 0 rfl) rfl rfl ?_
  refine zr_invS_i (as := [(.int x1, 0)]) (cX12_noSum_ok l h x1) rfl zcd_X12_noSum ⟨zw_1457, zw_1458, zw_62⟩ ⟨Nat.le_of_ble_eq_true rfl, Nat.le_of_ble_eq_true rfl⟩ rfl (Nat.le_of_ble_eq_true rfl) (eX12_join 1 rfl) (fun x21 => ?_)
  refine zr_if_ne (eX12_join 2 rfl) (t := 21) (by decide) ?_ ?_
  · refine zr_iconst (eX12_join 9 rfl) zk_iconst_m1 ?_
    exact zr_iret rfl rfl (eX12_join 10 rfl)
  · refine zr_iload_n (eX12_join 3 rfl) rfl rfl ?_
    refine zr_invS_i (as := [(.int x2, 0)]) (cX12_noSum_ok l h x2) rfl zcd_X12_noSum ⟨zw_1457, zw_1458, zw_62⟩ ⟨Nat.le_of_ble_eq_true rfl, Nat.le_of_ble_eq_true rfl⟩ rfl (Nat.le_of_ble_eq_true rfl) (eX12_join 4 rfl) (fun x22 => ?_)
    refine zr_if_ne (eX12_join 5 rfl) (t := 21) (by decide) ?_ ?_
    · refine zr_iconst (eX12_join 9 rfl) zk_iconst_m1 ?_
      exact zr_iret rfl rfl (eX12_join 10 rfl)
    · refine zr_iload_n (eX12_join 6 rfl) rfl rfl ?_
      refine zr_invS_i (as := [(.int x3, 0)]) (cX12_noSum_ok l h x3) rfl zcd_X12_noSum ⟨zw_1457, zw_1458, zw_62⟩ ⟨Nat.le_of_ble_eq_true rfl, Nat.le_of_ble_eq_true rfl⟩ rfl (Nat.le_of_ble_eq_true rfl) (eX12_join 7 rfl) (fun x23 => ?_)
      refine zr_if_eq (eX12_join 8 rfl) (t := 23) (by decide) ?_ ?_
      · refine zr_iload (eX12_join 11 rfl) rfl ?_
        refine zr_i2l (eX12_join 12 rfl) ?_
        refine zr_lconst (eX12_join 13 rfl) zk_lconst_0 ?_
        refine zr_ldc2 (eX12_join 14 rfl) zw_1384 ?_
        refine zr_invS_i (as := [(.long ((x4 : Int32).toInt64), 0), (.long 0, 0), (.long 3, 0)]) (cX12_in_ok l h ((x4 : Int32).toInt64) 0 3) rfl zcd_X12_in ⟨zw_1203, zw_1204, zw_62⟩ ⟨Nat.le_of_ble_eq_true rfl, Nat.le_of_ble_eq_true rfl⟩ rfl (Nat.le_of_ble_eq_true rfl) (eX12_join 15 rfl) (fun x24 => ?_)
        refine zr_if_ne (eX12_join 16 rfl) (t := 39) (by decide) ?_ ?_
        · refine zr_aload_n (r := (some a0)) (eX12_join 19 rfl) rfl rfl ?_
          refine zr_invV_V (as := []) (cX12_startSum_ok l h a0) rfl rfl ⟨by decide, by decide, by decide⟩ zcd_X12_startSum rfl ⟨zw_1461, zw_1463, zw_42, zw_62⟩ ⟨Nat.le_of_ble_eq_true rfl, Nat.le_of_ble_eq_true rfl⟩ rfl (Nat.le_of_ble_eq_true rfl) (eX12_join 20 rfl) (fun h1 => ?_)
          refine zr_iload (eX12_join 21 rfl) rfl ?_
          refine zr_iconst (eX12_join 22 rfl) zk_iconst_2 ?_
          refine v_jn (fun (k27 : Zh → Option (Int32 × Zh)) => ∀ (h2 : Zh), V l mX12_join (zN h) (zS h) 0 zoI 81 [some (.ref a0, 12), some (.int x1, 0), some (.int x2, 0), some (.int x3, 0), some (.int x4, 0)] [] h2 (k27 h2)) ?_ ?_
          · intro h2
            unfold gX12_join_J2
            refine zr_iload (eX12_join 43 rfl) rfl ?_
            refine zr_iconst (eX12_join 44 rfl) zk_iconst_1 ?_
            refine v_jn (fun (k26 : Zh → Option (Int32 × Zh)) => ∀ (h3 : Zh), V l mX12_join (zN h) (zS h) 0 zoI 94 [some (.ref a0, 12), some (.int x1, 0), none, none, none] [] h3 (k26 h3)) ?_ ?_
            · intro h3
              unfold gX12_join_J1
              refine zr_aload_n (r := (some a0)) (eX12_join 51 rfl) rfl rfl ?_
              refine zr_iload_n (eX12_join 52 rfl) rfl rfl ?_
              refine zr_invV_I (as := [(.int x1, 0)]) (cX12_putOrSpent_ok l h3 a0 x1) rfl rfl ⟨by decide, by decide, by decide⟩ zcd_X12_putOrSpent rfl ⟨zw_1469, zw_1471, zw_44, zw_62⟩ ⟨Nat.le_of_ble_eq_true rfl, Nat.le_of_ble_eq_true rfl⟩ rfl (Nat.le_of_ble_eq_true rfl) (eX12_join 53 rfl) (fun x25 h4 => ?_)
              exact zr_iret rfl rfl (eX12_join 54 rfl)
            intro k26 hk26
            refine zr_icmp_ne (eX12_join 45 rfl) (t := 94) (by decide) ?_ ?_
            · exact v_drop [true, true, false, false, false] rfl (hk26 h2)
            · refine zr_aload_n (r := (some a0)) (eX12_join 46 rfl) rfl rfl ?_
              refine zr_iload_n (eX12_join 47 rfl) rfl rfl ?_
              refine zr_iload_n (eX12_join 48 rfl) rfl rfl ?_
              refine zr_iconst (eX12_join 49 rfl) zk_iconst_m1 ?_
              refine zr_invV_V (as := [(.int x3, 0), (.int x2, 0), (.int (-1), 0)]) (cX12_takeProduct_ok l h2 a0 x3 x2 (-1)) rfl rfl ⟨by decide, by decide, by decide⟩ zcd_X12_takeProduct rfl ⟨zw_1501, zw_1503, zw_49, zw_62⟩ ⟨Nat.le_of_ble_eq_true rfl, Nat.le_of_ble_eq_true rfl⟩ rfl (Nat.le_of_ble_eq_true rfl) (eX12_join 50 rfl) (fun h5 => ?_)
              exact v_drop [true, true, false, false, false] rfl (hk26 h5)
          intro k27 hk27
          refine zr_icmp_ge (eX12_join 23 rfl) (t := 59) (by decide) ?_ ?_
          · refine zr_aload_n (r := (some a0)) (eX12_join 30 rfl) rfl rfl ?_
            refine zr_iload_n (eX12_join 31 rfl) rfl rfl ?_
            refine zr_iconst (eX12_join 32 rfl) zk_iconst_1 ?_
            refine zr_invV_V (as := [(.int x2, 0), (.int 1, 0)]) (cX12_takeSum_ok l h1 a0 x2 1) rfl rfl ⟨by decide, by decide, by decide⟩ zcd_X12_takeSum rfl ⟨zw_1465, zw_1467, zw_43, zw_62⟩ ⟨Nat.le_of_ble_eq_true rfl, Nat.le_of_ble_eq_true rfl⟩ rfl (Nat.le_of_ble_eq_true rfl) (eX12_join 33 rfl) (fun h6 => ?_)
            refine zr_aload_n (r := (some a0)) (eX12_join 34 rfl) rfl rfl ?_
            refine zr_iload_n (eX12_join 35 rfl) rfl rfl ?_
            refine zr_iload (eX12_join 36 rfl) rfl ?_
            refine zr_iconst (eX12_join 37 rfl) zk_iconst_2 ?_
            refine v_jn (fun (k29 : Int32 → Option (Int32 × Zh)) => ∀ (x28 : Int32), V l mX12_join (zN h) (zS h) 0 zoI 78 [some (.ref a0, 12), some (.int x1, 0), some (.int x2, 0), some (.int x3, 0), some (.int x4, 0)] [(.int x28, 0), (.int x3, 0), (.ref a0, 12)] h6 (k29 x28)) ?_ ?_
            · intro x28
              unfold gX12_join_J3
              refine zr_invV_V (as := [(.int x3, 0), (.int x28, 0)]) (cX12_takeSum_ok l h6 a0 x3 x28) rfl rfl ⟨by decide, by decide, by decide⟩ zcd_X12_takeSum rfl ⟨zw_1465, zw_1467, zw_43, zw_62⟩ ⟨Nat.le_of_ble_eq_true rfl, Nat.le_of_ble_eq_true rfl⟩ rfl (Nat.le_of_ble_eq_true rfl) (eX12_join 42 rfl) (fun h7 => ?_)
              exact v_drop [true, true, true, true, true] rfl (hk27 h7)
            intro k29 hk29
            refine zr_icmp_ne (eX12_join 38 rfl) (t := 77) (by decide) ?_ ?_
            · refine zr_iconst (eX12_join 41 rfl) zk_iconst_m1 ?_
              exact v_drop [true, true, true, true, true] rfl (hk29 (-1))
            · refine zr_iconst (eX12_join 39 rfl) zk_iconst_1 ?_
              refine zr_goto (eX12_join 40 rfl) (t := 78) (by decide) ?_
              exact v_drop [true, true, true, true, true] rfl (hk29 1)
          · refine zr_aload_n (r := (some a0)) (eX12_join 24 rfl) rfl rfl ?_
            refine zr_iload_n (eX12_join 25 rfl) rfl rfl ?_
            refine zr_iload_n (eX12_join 26 rfl) rfl rfl ?_
            refine zr_iconst (eX12_join 27 rfl) zk_iconst_1 ?_
            refine zr_invV_V (as := [(.int x2, 0), (.int x3, 0), (.int 1, 0)]) (cX12_takeProduct_ok l h1 a0 x2 x3 1) rfl rfl ⟨by decide, by decide, by decide⟩ zcd_X12_takeProduct rfl ⟨zw_1501, zw_1503, zw_49, zw_62⟩ ⟨Nat.le_of_ble_eq_true rfl, Nat.le_of_ble_eq_true rfl⟩ rfl (Nat.le_of_ble_eq_true rfl) (eX12_join 28 rfl) (fun h8 => ?_)
            refine zr_goto (eX12_join 29 rfl) (t := 81) (by decide) ?_
            exact v_drop [true, true, true, true, true] rfl (hk27 h8)
        · refine zr_bipush (eX12_join 17 rfl) zk_bipush_m2 ?_
          exact zr_iret rfl rfl (eX12_join 18 rfl)
      · refine zr_iconst (eX12_join 9 rfl) zk_iconst_m1 ?_
        exact zr_iret rfl rfl (eX12_join 10 rfl)
def gX12_shifted_J1 (x21 : Int32) (x22 : Int32) (k23 : Int32 → Int32 → Option (Int32)) : Int32 → Option (Int32) :=
  fun (x25 : Int32) => zlt (x21 ||| x25) (fun x26 => k23 x26 (x22 + 1))
def gX12_shifted_L2 (h : Zh) (a0 : Nat) (x1 : Int32) (x2 : Int32) : (Int32 → Int32 → Option (Int32)) → Int32 → Int32 → Option (Int32) :=
  fun (k23 : Int32 → Int32 → Option (Int32)) (x21 : Int32) (x22 : Int32) => (if ((zI h a0 1) : Int32) ≤ x22 then (some x21)
  else zbi (gX12_hasBit x1 x22) (fun x24 => zjn (gX12_shifted_J1 x21 x22 k23) (fun (k27 : Int32 → Option (Int32)) =>
  (if (x24 : Int32) = 0 then k27 0
  else (if ((zI h a0 1) : Int32) = 0 then none else k27 ((1 : Int32) <<< (((x22 + x2) - (x22 + x2) / (zI h a0 1) * (zI h a0 1)) &&& 31)))))))
def gX12_shifted (h : Zh) (a0 : Nat) (x1 : Int32) (x2 : Int32) : Option (Int32) :=
  zlp (fun (_ : Int32) (_ : Int32) => (none : Option (Int32))) (gX12_shifted_L2 h a0 x1 x2) zFU 0 0
set_option maxRecDepth 20000 in
theorem cX12_shifted_ok (l : Launch) (h : Zh) (a0 : Nat) (x1 : Int32) (x2 : Int32) : Zc l yX12_shifted mX12_shifted 0 h [(.ref a0, 12), (.int x1, 0), (.int x2, 0)] ((gX12_shifted h a0 x1 x2).map (zoi h)) := by
  refine zc_of2 (ls := [some (.ref a0, 12), some (.int x1, 0), some (.int x2, 0), none, none]) (j := 2) (by decide +kernel) rfl rfl (zEn_ca (zEn_ci (zEn_ci rfl))) (Nat.le_of_ble_eq_true rfl) rfl ?_
  unfold gX12_shifted
  refine zr_iconst (eX12_shifted 0 rfl) zk_iconst_0 ?_
  refine zr_istore_n (ls2 := [some (.ref a0, 12), some (.int x1, 0), some (.int x2, 0), some (.int 0, 0), none]) (eX12_shifted 1 rfl) rfl (Nat.le_of_ble_eq_true rfl) rfl ?_
  refine zr_iconst (eX12_shifted 2 rfl) zk_iconst_0 ?_
  refine zr_istore (ls2 := [some (.ref a0, 12), some (.int x1, 0), some (.int x2, 0), some (.int 0, 0), some (.int 0, 0)]) (eX12_shifted 3 rfl) (Nat.le_of_ble_eq_true rfl) rfl ?_
  refine v_drop [true, true, true, true, true] rfl ?_
  refine zlp_ind (fun (k23 : Int32 → Int32 → Option (Int32)) => ∀ (x21 : Int32) (x22 : Int32), V l mX12_shifted (zN h) (zS h) 0 (zoi h) 5 [some (.ref a0, 12), some (.int x1, 0), some (.int x2, 0), some (.int x21, 0), some (.int x22, 0)] [] h (k23 x21 x22)) ?_ ?_ 0 0
  · exact fun _ _ => v_none
  intro k23 hk23 x21 x22
  unfold gX12_shifted_L2
  refine zr_iload (eX12_shifted 4 rfl) rfl ?_
  refine zr_aload_n (r := (some a0)) (eX12_shifted 5 rfl) rfl rfl ?_
  refine zr_getI zf_RX12_111 ⟨by decide, by decide⟩ (eX12_shifted 6 rfl) ?_
  refine zr_icmp_ge (eX12_shifted 7 rfl) (t := 47) (by decide) ?_ ?_
  · refine zr_iload_n (eX12_shifted 27 rfl) rfl rfl ?_
    exact zr_iret rfl rfl (eX12_shifted 28 rfl)
  · refine zr_iload_n (eX12_shifted 8 rfl) rfl rfl ?_
    refine zr_iload_n (eX12_shifted 9 rfl) rfl rfl ?_
    refine zr_iload (eX12_shifted 10 rfl) rfl ?_
    refine zr_invS_i (as := [(.int x1, 0), (.int x22, 0)]) (cX12_hasBit_ok l h x1 x22) rfl zcd_X12_hasBit ⟨zw_1248, zw_1249, zw_62⟩ ⟨Nat.le_of_ble_eq_true rfl, Nat.le_of_ble_eq_true rfl⟩ rfl (Nat.le_of_ble_eq_true rfl) (eX12_shifted 11 rfl) (fun x24 => ?_)
    refine v_jn (fun (k27 : Int32 → Option (Int32)) => ∀ (x25 : Int32), V l mX12_shifted (zN h) (zS h) 0 (zoi h) 39 [some (.ref a0, 12), some (.int x1, 0), some (.int x2, 0), none, some (.int x22, 0)] [(.int x25, 0), (.int x21, 0)] h (k27 x25)) ?_ ?_
    · intro x25
      unfold gX12_shifted_J1
      refine zr_ior (eX12_shifted 23 rfl) ?_
      refine v_leti (fun x26 => ?_)
      refine zr_istore_n (ls2 := [some (.ref a0, 12), some (.int x1, 0), some (.int x2, 0), some (.int x26, 0), some (.int x22, 0)]) (eX12_shifted 24 rfl) rfl (Nat.le_of_ble_eq_true rfl) rfl ?_
      refine zr_iinc (ls2 := [some (.ref a0, 12), some (.int x1, 0), some (.int x2, 0), some (.int x26, 0), some (.int (x22 + 1), 0)]) (eX12_shifted 25 rfl) rfl (Nat.le_of_ble_eq_true rfl) zk_iconst_1 rfl ?_
      refine zr_goto (eX12_shifted 26 rfl) (t := 5) (by decide) ?_
      exact v_drop [true, true, true, true, true] rfl (hk23 x26 (x22 + 1))
    intro k27 hk27
    refine zr_if_eq (eX12_shifted 12 rfl) (t := 38) (by decide) ?_ ?_
    · refine zr_iconst (eX12_shifted 22 rfl) zk_iconst_0 ?_
      exact v_drop [true, true, true, false, true] rfl (hk27 0)
    · refine zr_iconst (eX12_shifted 13 rfl) zk_iconst_1 ?_
      refine zr_iload (eX12_shifted 14 rfl) rfl ?_
      refine zr_iload_n (eX12_shifted 15 rfl) rfl rfl ?_
      refine zr_iadd (eX12_shifted 16 rfl) ?_
      refine zr_aload_n (r := (some a0)) (eX12_shifted 17 rfl) rfl rfl ?_
      refine zr_getI zf_RX12_111 ⟨by decide, by decide⟩ (eX12_shifted 18 rfl) ?_
      refine zr_irem (eX12_shifted 19 rfl) ?_
      refine zr_ishl (eX12_shifted 20 rfl) ?_
      refine zr_goto (eX12_shifted 21 rfl) (t := 39) (by decide) ?_
      exact v_drop [true, true, true, false, true] rfl (hk27 ((1 : Int32) <<< (((x22 + x2) - (x22 + x2) / (zI h a0 1) * (zI h a0 1)) &&& 31)))
def gX12_shift_J1 (a0 : Nat) (x1 : Int32) : Zh → Option (Int32 × Zh) :=
  fun (h2 : Zh) => zbI (gX12_putOrSpent h2 a0 x1) (fun x25 h3 => (some (x25, h3)))
def gX12_shift_L2 (a0 : Nat) (x2 : Int32) (x3 : Int32) (k26 : Zh → Option (Int32 × Zh)) : (Int32 → Zh → Option (Int32 × Zh)) → Int32 → Zh → Option (Int32 × Zh) :=
  fun (k28 : Int32 → Zh → Option (Int32 × Zh)) (x27 : Int32) (h4 : Zh) => zlt (zR h4 a0 29) (fun r29 => Option.bind r29 (fun a30 => zg (zin x2 (zL h4 a30)) ((if (((60 * x2) + (zI h4 a30 (zx x2))) : Int32) ≤ x27 then k26 h4
  else zlt (zR h4 a0 30) (fun r31 => Option.bind r31 (fun a32 => zg (zin x27 (zL h4 a32)) (zlt ((zI h4 a32 (zx x27)) >>> ((8 : Int32) &&& 31)) (fun x33 => zlt (zR h4 a0 30) (fun r34 => Option.bind r34 (fun a35 => zg (zin x27 (zL h4 a35)) (zlt ((zI h4 a35 (zx x27)) &&& 255) (fun x36 => zbi (gX12_stateMany h4 a0) (fun x37 => (if ((x33 ||| x36) : Int32) < x37 then zbi (gX12_shifted h4 a0 x33 x3) (fun x38 => zbi (gX12_shifted h4 a0 x36 x3) (fun x39 => zlt ((256 * x38) + x39) (fun x40 => zlt (zR h4 a0 33) (fun r41 => Option.bind r41 (fun a42 => zg (zin x40 (zL h4 a42)) (zlt (zR h4 a0 31) (fun r43 => Option.bind r43 (fun a44 => zg (zin x27 (zL h4 a44)) (zg (zin x40 (zL h4 a42)) (zlt (zsJ h4 a42 (zx x40) ((zJ h4 a42 (zx x40)) + (((zI h4 a44 (zx x27)) : Int32).toInt64))) (fun (h5 : Zh) => zlt (zR h5 a0 34) (fun r45 => Option.bind r45 (fun a46 => zg (zin x40 (zL h5 a46)) (zlt (zR h5 a0 32) (fun r47 => Option.bind r47 (fun a48 => zg (zin x27 (zL h5 a48)) (zg (zin x40 (zL h5 a46)) (zlt (zsJ h5 a46 (zx x40) ((zJ h5 a46 (zx x40)) + (((zI h5 a48 (zx x27)) : Int32).toInt64))) (fun (h6 : Zh) => k28 (x27 + 1) h6)))))))))))))))))))
  else (some ((-3), h4))))))))))))))))
def gX12_shift (h : Zh) (a0 : Nat) (x1 : Int32) (x2 : Int32) (x3 : Int32) : Option (Int32 × Zh) :=
  zbi (gX12_noSum x1) (fun x21 => (if (x21 : Int32) = 0 then zbi (gX12_noSum x2) (fun x22 => (if (x22 : Int32) = 0 then zbi (gX12_in ((x3 : Int32).toInt64) 0 7) (fun x23 => (if (x23 : Int32) = 0 then (some ((-2), h))
  else zbV (gX12_startSum h a0) (fun h1 => zlt (60 * x2) (fun x24 => zjn (gX12_shift_J1 a0 x1) (fun (k26 : Zh → Option (Int32 × Zh)) =>
  zlp (fun (_ : Int32) (_ : Zh) => (none : Option (Int32 × Zh))) (gX12_shift_L2 a0 x2 x3 k26) zFU x24 h1)))))
  else (some ((-1), h))))
  else (some ((-1), h))))
set_option maxRecDepth 20000 in
theorem cX12_shift_ok (l : Launch) (h : Zh) (a0 : Nat) (x1 : Int32) (x2 : Int32) (x3 : Int32) : Zc l yX12_shift mX12_shift 0 h [(.ref a0, 12), (.int x1, 0), (.int x2, 0), (.int x3, 0)] ((gX12_shift h a0 x1 x2 x3).map zoI) := by
  refine zc_of2 (ls := [some (.ref a0, 12), some (.int x1, 0), some (.int x2, 0), some (.int x3, 0), none, none, none, none]) (j := 4) (by decide +kernel) rfl rfl (zEn_ca (zEn_ci (zEn_ci (zEn_ci rfl)))) (Nat.le_of_ble_eq_true rfl) rfl ?_
  unfold gX12_shift
  refine zr_iload_n (eX12_shift 0 rfl) rfl rfl ?_
  refine zr_invS_i (as := [(.int x1, 0)]) (cX12_noSum_ok l h x1) rfl zcd_X12_noSum ⟨zw_1457, zw_1458, zw_62⟩ ⟨Nat.le_of_ble_eq_true rfl, Nat.le_of_ble_eq_true rfl⟩ rfl (Nat.le_of_ble_eq_true rfl) (eX12_shift 1 rfl) (fun x21 => ?_)
  refine zr_if_ne (eX12_shift 2 rfl) (t := 14) (by decide) ?_ ?_
  · refine zr_iconst (eX12_shift 6 rfl) zk_iconst_m1 ?_
    exact zr_iret rfl rfl (eX12_shift 7 rfl)
  · refine zr_iload_n (eX12_shift 3 rfl) rfl rfl ?_
    refine zr_invS_i (as := [(.int x2, 0)]) (cX12_noSum_ok l h x2) rfl zcd_X12_noSum ⟨zw_1457, zw_1458, zw_62⟩ ⟨Nat.le_of_ble_eq_true rfl, Nat.le_of_ble_eq_true rfl⟩ rfl (Nat.le_of_ble_eq_true rfl) (eX12_shift 4 rfl) (fun x22 => ?_)
    refine zr_if_eq (eX12_shift 5 rfl) (t := 16) (by decide) ?_ ?_
    · refine zr_iload_n (eX12_shift 8 rfl) rfl rfl ?_
      refine zr_i2l (eX12_shift 9 rfl) ?_
      refine zr_lconst (eX12_shift 10 rfl) zk_lconst_0 ?_
      refine zr_ldc2 (eX12_shift 11 rfl) zw_1512 ?_
      refine zr_invS_i (as := [(.long ((x3 : Int32).toInt64), 0), (.long 0, 0), (.long 7, 0)]) (cX12_in_ok l h ((x3 : Int32).toInt64) 0 7) rfl zcd_X12_in ⟨zw_1203, zw_1204, zw_62⟩ ⟨Nat.le_of_ble_eq_true rfl, Nat.le_of_ble_eq_true rfl⟩ rfl (Nat.le_of_ble_eq_true rfl) (eX12_shift 12 rfl) (fun x23 => ?_)
      refine zr_if_ne (eX12_shift 13 rfl) (t := 31) (by decide) ?_ ?_
      · refine zr_aload_n (r := (some a0)) (eX12_shift 16 rfl) rfl rfl ?_
        refine zr_invV_V (as := []) (cX12_startSum_ok l h a0) rfl rfl ⟨by decide, by decide, by decide⟩ zcd_X12_startSum rfl ⟨zw_1461, zw_1463, zw_42, zw_62⟩ ⟨Nat.le_of_ble_eq_true rfl, Nat.le_of_ble_eq_true rfl⟩ rfl (Nat.le_of_ble_eq_true rfl) (eX12_shift 17 rfl) (fun h1 => ?_)
        refine zr_bipush (eX12_shift 18 rfl) zk_bipush_60 ?_
        refine zr_iload_n (eX12_shift 19 rfl) rfl rfl ?_
        refine zr_imul (eX12_shift 20 rfl) ?_
        refine v_leti (fun x24 => ?_)
        refine zr_istore (ls2 := [some (.ref a0, 12), some (.int x1, 0), some (.int x2, 0), some (.int x3, 0), some (.int x24, 0), none, none, none]) (eX12_shift 21 rfl) (Nat.le_of_ble_eq_true rfl) rfl ?_
        refine v_jn (fun (k26 : Zh → Option (Int32 × Zh)) => ∀ (h2 : Zh), V l mX12_shift (zN h) (zS h) 0 zoI 160 [some (.ref a0, 12), some (.int x1, 0), none, none, none, none, none, none] [] h2 (k26 h2)) ?_ ?_
        · intro h2
          unfold gX12_shift_J1
          refine zr_aload_n (r := (some a0)) (eX12_shift 92 rfl) rfl rfl ?_
          refine zr_iload_n (eX12_shift 93 rfl) rfl rfl ?_
          refine zr_invV_I (as := [(.int x1, 0)]) (cX12_putOrSpent_ok l h2 a0 x1) rfl rfl ⟨by decide, by decide, by decide⟩ zcd_X12_putOrSpent rfl ⟨zw_1469, zw_1471, zw_44, zw_62⟩ ⟨Nat.le_of_ble_eq_true rfl, Nat.le_of_ble_eq_true rfl⟩ rfl (Nat.le_of_ble_eq_true rfl) (eX12_shift 94 rfl) (fun x25 h3 => ?_)
          exact zr_iret rfl rfl (eX12_shift 95 rfl)
        intro k26 hk26
        refine v_drop [true, true, true, true, true, false, false, false] rfl ?_
        refine zlp_ind (fun (k28 : Int32 → Zh → Option (Int32 × Zh)) => ∀ (x27 : Int32) (h4 : Zh), V l mX12_shift (zN h) (zS h) 0 zoI 41 [some (.ref a0, 12), some (.int x1, 0), some (.int x2, 0), some (.int x3, 0), some (.int x27, 0), none, none, none] [] h4 (k28 x27 h4)) ?_ ?_ x24 h1
        · exact fun _ _ => v_none
        intro k28 hk28 x27 h4
        unfold gX12_shift_L2
        refine zr_iload (eX12_shift 22 rfl) rfl ?_
        refine zr_bipush (eX12_shift 23 rfl) zk_bipush_60 ?_
        refine zr_iload_n (eX12_shift 24 rfl) rfl rfl ?_
        refine zr_imul (eX12_shift 25 rfl) ?_
        refine zr_aload_n (r := (some a0)) (eX12_shift 26 rfl) rfl rfl ?_
        refine zr_getR2 zf_RX12_77 (τ2 := 20) rfl (eX12_shift 27 rfl) ?_
        refine v_letr (fun r29 => ?_)
        refine zr_iload_n (eX12_shift 28 rfl) rfl rfl ?_
        refine v_nn (fun a30 ea30 => ?_)
        subst ea30
        refine zr_iald (eX12_shift 29 rfl) ?_
        refine zr_iadd (eX12_shift 30 rfl) ?_
        refine zr_icmp_ge (eX12_shift 31 rfl) (t := 160) (by decide) ?_ ?_
        · exact v_drop [true, true, false, false, false, false, false, false] rfl (hk26 h4)
        · refine zr_aload_n (r := (some a0)) (eX12_shift 32 rfl) rfl rfl ?_
          refine zr_getR2 zf_RX12_80 (τ2 := 20) rfl (eX12_shift 33 rfl) ?_
          refine v_letr (fun r31 => ?_)
          refine zr_iload (eX12_shift 34 rfl) rfl ?_
          refine v_nn (fun a32 ea32 => ?_)
          subst ea32
          refine zr_iald (eX12_shift 35 rfl) ?_
          refine zr_bipush (eX12_shift 36 rfl) zk_bipush_8 ?_
          refine zr_ishr (eX12_shift 37 rfl) ?_
          refine v_leti (fun x33 => ?_)
          refine zr_istore (ls2 := [some (.ref a0, 12), some (.int x1, 0), some (.int x2, 0), some (.int x3, 0), some (.int x27, 0), some (.int x33, 0), none, none]) (eX12_shift 38 rfl) (Nat.le_of_ble_eq_true rfl) rfl ?_
          refine zr_aload_n (r := (some a0)) (eX12_shift 39 rfl) rfl rfl ?_
          refine zr_getR2 zf_RX12_80 (τ2 := 20) rfl (eX12_shift 40 rfl) ?_
          refine v_letr (fun r34 => ?_)
          refine zr_iload (eX12_shift 41 rfl) rfl ?_
          refine v_nn (fun a35 ea35 => ?_)
          subst ea35
          refine zr_iald (eX12_shift 42 rfl) ?_
          refine zr_sipush (eX12_shift 43 rfl) zk_sipush_255 ?_
          refine zr_iand (eX12_shift 44 rfl) ?_
          refine v_leti (fun x36 => ?_)
          refine zr_istore (ls2 := [some (.ref a0, 12), some (.int x1, 0), some (.int x2, 0), some (.int x3, 0), some (.int x27, 0), some (.int x33, 0), some (.int x36, 0), none]) (eX12_shift 45 rfl) (Nat.le_of_ble_eq_true rfl) rfl ?_
          refine zr_iload (eX12_shift 46 rfl) rfl ?_
          refine zr_iload (eX12_shift 47 rfl) rfl ?_
          refine zr_ior (eX12_shift 48 rfl) ?_
          refine zr_aload_n (r := (some a0)) (eX12_shift 49 rfl) rfl rfl ?_
          refine zr_invV_i (as := []) (cX12_stateMany_ok l h4 a0) rfl rfl ⟨by decide, by decide, by decide⟩ zcd_X12_stateMany rfl ⟨zw_1212, zw_1214, zw_12, zw_62⟩ ⟨Nat.le_of_ble_eq_true rfl, Nat.le_of_ble_eq_true rfl⟩ rfl (Nat.le_of_ble_eq_true rfl) (eX12_shift 50 rfl) (fun x37 => ?_)
          refine zr_icmp_lt (eX12_shift 51 rfl) (t := 97) (by decide) ?_ ?_
          · refine zr_sipush (eX12_shift 54 rfl) zk_sipush_256 ?_
            refine zr_aload_n (r := (some a0)) (eX12_shift 55 rfl) rfl rfl ?_
            refine zr_iload (eX12_shift 56 rfl) rfl ?_
            refine zr_iload_n (eX12_shift 57 rfl) rfl rfl ?_
            refine zr_invV_i (as := [(.int x33, 0), (.int x3, 0)]) (cX12_shifted_ok l h4 a0 x33 x3) rfl rfl ⟨by decide, by decide, by decide⟩ zcd_X12_shifted rfl ⟨zw_1513, zw_1515, zw_50, zw_62⟩ ⟨Nat.le_of_ble_eq_true rfl, Nat.le_of_ble_eq_true rfl⟩ rfl (Nat.le_of_ble_eq_true rfl) (eX12_shift 58 rfl) (fun x38 => ?_)
            refine zr_imul (eX12_shift 59 rfl) ?_
            refine zr_aload_n (r := (some a0)) (eX12_shift 60 rfl) rfl rfl ?_
            refine zr_iload (eX12_shift 61 rfl) rfl ?_
            refine zr_iload_n (eX12_shift 62 rfl) rfl rfl ?_
            refine zr_invV_i (as := [(.int x36, 0), (.int x3, 0)]) (cX12_shifted_ok l h4 a0 x36 x3) rfl rfl ⟨by decide, by decide, by decide⟩ zcd_X12_shifted rfl ⟨zw_1513, zw_1515, zw_50, zw_62⟩ ⟨Nat.le_of_ble_eq_true rfl, Nat.le_of_ble_eq_true rfl⟩ rfl (Nat.le_of_ble_eq_true rfl) (eX12_shift 63 rfl) (fun x39 => ?_)
            refine zr_iadd (eX12_shift 64 rfl) ?_
            refine v_leti (fun x40 => ?_)
            refine zr_istore (ls2 := [some (.ref a0, 12), some (.int x1, 0), some (.int x2, 0), some (.int x3, 0), some (.int x27, 0), some (.int x33, 0), some (.int x36, 0), some (.int x40, 0)]) (eX12_shift 65 rfl) (Nat.le_of_ble_eq_true rfl) rfl ?_
            refine zr_aload_n (r := (some a0)) (eX12_shift 66 rfl) rfl rfl ?_
            refine zr_getR2 zf_RX12_90 (τ2 := 21) rfl (eX12_shift 67 rfl) ?_
            refine v_letr (fun r41 => ?_)
            refine zr_iload (eX12_shift 68 rfl) rfl ?_
            refine v_nn (fun a42 ea42 => ?_)
            subst ea42
            refine zr_dup2 (eX12_shift 69 rfl) rfl rfl ?_
            refine zr_lald (eX12_shift 70 rfl) ?_
            refine zr_aload_n (r := (some a0)) (eX12_shift 71 rfl) rfl rfl ?_
            refine zr_getR2 zf_RX12_83 (τ2 := 20) rfl (eX12_shift 72 rfl) ?_
            refine v_letr (fun r43 => ?_)
            refine zr_iload (eX12_shift 73 rfl) rfl ?_
            refine v_nn (fun a44 ea44 => ?_)
            subst ea44
            refine zr_iald (eX12_shift 74 rfl) ?_
            refine zr_i2l (eX12_shift 75 rfl) ?_
            refine zr_ladd (eX12_shift 76 rfl) ?_
            refine zr_last (eX12_shift 77 rfl) ?_
            refine v_leth (fun h5 => ?_)
            refine zr_aload_n (r := (some a0)) (eX12_shift 78 rfl) rfl rfl ?_
            refine zr_getR2 zf_RX12_93 (τ2 := 21) rfl (eX12_shift 79 rfl) ?_
            refine v_letr (fun r45 => ?_)
            refine zr_iload (eX12_shift 80 rfl) rfl ?_
            refine v_nn (fun a46 ea46 => ?_)
            subst ea46
            refine zr_dup2 (eX12_shift 81 rfl) rfl rfl ?_
            refine zr_lald (eX12_shift 82 rfl) ?_
            refine zr_aload_n (r := (some a0)) (eX12_shift 83 rfl) rfl rfl ?_
            refine zr_getR2 zf_RX12_86 (τ2 := 20) rfl (eX12_shift 84 rfl) ?_
            refine v_letr (fun r47 => ?_)
            refine zr_iload (eX12_shift 85 rfl) rfl ?_
            refine v_nn (fun a48 ea48 => ?_)
            subst ea48
            refine zr_iald (eX12_shift 86 rfl) ?_
            refine zr_i2l (eX12_shift 87 rfl) ?_
            refine zr_ladd (eX12_shift 88 rfl) ?_
            refine zr_last (eX12_shift 89 rfl) ?_
            refine v_leth (fun h6 => ?_)
            refine zr_iinc (ls2 := [some (.ref a0, 12), some (.int x1, 0), some (.int x2, 0), some (.int x3, 0), some (.int (x27 + 1), 0), some (.int x33, 0), some (.int x36, 0), some (.int x40, 0)]) (eX12_shift 90 rfl) rfl (Nat.le_of_ble_eq_true rfl) zk_iconst_1 rfl ?_
            refine zr_goto (eX12_shift 91 rfl) (t := 41) (by decide) ?_
            exact v_drop [true, true, true, true, true, false, false, false] rfl (hk28 (x27 + 1) h6)
          · refine zr_bipush (eX12_shift 52 rfl) zk_bipush_m3 ?_
            exact zr_iret rfl rfl (eX12_shift 53 rfl)
      · refine zr_bipush (eX12_shift 14 rfl) zk_bipush_m2 ?_
        exact zr_iret rfl rfl (eX12_shift 15 rfl)
    · refine zr_iconst (eX12_shift 6 rfl) zk_iconst_m1 ?_
      exact zr_iret rfl rfl (eX12_shift 7 rfl)
def gX12_word_J1 : Option (Int64) :=
  zbj (gX12_lost ) (fun x22 => (some x22))
def gX12_word (h : Zh) (a0 : Nat) (x1 : Int32) (x2 : Int32) (x3 : Int32) : Option (Int64) :=
  zbi (gX12_noSum x1) (fun x21 => zjn gX12_word_J1 (fun (k23 : Option (Int64)) =>
  (if (x21 : Int32) = 0 then zlt (zR h a0 29) (fun r24 => Option.bind r24 (fun a25 => zg (zin x1 (zL h a25)) (zbi (gX12_in ((x2 : Int32).toInt64) 0 ((((zI h a25 (zx x1)) : Int32).toInt64) - 1)) (fun x26 => (if (x26 : Int32) = 0 then k23
  else zlt ((60 * x1) + x2) (fun x27 => (if (x3 : Int32) = 0 then zlt (zR h a0 30) (fun r28 => Option.bind r28 (fun a29 => zg (zin x27 (zL h a29)) ((some ((((zI h a29 (zx x27)) >>> ((8 : Int32) &&& 31)) : Int32).toInt64)))))
  else (if (x3 : Int32) = 1 then zlt (zR h a0 30) (fun r30 => Option.bind r30 (fun a31 => zg (zin x27 (zL h a31)) ((some ((((zI h a31 (zx x27)) &&& 255) : Int32).toInt64)))))
  else (if (x3 : Int32) = 2 then zlt (zR h a0 31) (fun r32 => Option.bind r32 (fun a33 => zg (zin x27 (zL h a33)) ((some (((zI h a33 (zx x27)) : Int32).toInt64)))))
  else (if (x3 : Int32) = 3 then zlt (zR h a0 32) (fun r34 => Option.bind r34 (fun a35 => zg (zin x27 (zL h a35)) ((some (((zI h a35 (zx x27)) : Int32).toInt64)))))
  else zbj (gX12_lost ) (fun x36 => (some x36))))))))))))
  else k23)))
set_option maxRecDepth 20000 in
theorem cX12_word_ok (l : Launch) (h : Zh) (a0 : Nat) (x1 : Int32) (x2 : Int32) (x3 : Int32) : Zc l yX12_word mX12_word 0 h [(.ref a0, 12), (.int x1, 0), (.int x2, 0), (.int x3, 0)] ((gX12_word h a0 x1 x2 x3).map (zoj h)) := by
  refine zc_of2 (ls := [some (.ref a0, 12), some (.int x1, 0), some (.int x2, 0), some (.int x3, 0), none]) (j := 1) (by decide +kernel) rfl rfl (zEn_ca (zEn_ci (zEn_ci (zEn_ci rfl)))) (Nat.le_of_ble_eq_true rfl) rfl ?_
  unfold gX12_word
  refine zr_iload_n (eX12_word 0 rfl) rfl rfl ?_
  refine zr_invS_i (as := [(.int x1, 0)]) (cX12_noSum_ok l h x1) rfl zcd_X12_noSum ⟨zw_1457, zw_1458, zw_62⟩ ⟨Nat.le_of_ble_eq_true rfl, Nat.le_of_ble_eq_true rfl⟩ rfl (Nat.le_of_ble_eq_true rfl) (eX12_word 1 rfl) (fun x21 => ?_)
  refine v_jn (fun (k23 : Option (Int64)) => V l mX12_word (zN h) (zS h) 0 (zoj h) 25 [none, none, none, none, none] [] h k23) ?_ ?_
  · skip
    unfold gX12_word_J1
    refine zr_invS_j (as := []) (cX12_lost_ok l h ) rfl zcd_X12_lost ⟨zw_1224, zw_1225, zw_62⟩ ⟨Nat.le_of_ble_eq_true rfl, Nat.le_of_ble_eq_true rfl⟩ rfl (Nat.le_of_ble_eq_true rfl) (eX12_word 15 rfl) (fun x22 => ?_)
    exact zr_lret rfl rfl (eX12_word 16 rfl)
  intro k23 hk23
  refine zr_if_ne (eX12_word 2 rfl) (t := 25) (by decide) ?_ ?_
  · exact v_drop [false, false, false, false, false] rfl (hk23)
  · refine zr_iload_n (eX12_word 3 rfl) rfl rfl ?_
    refine zr_i2l (eX12_word 4 rfl) ?_
    refine zr_lconst (eX12_word 5 rfl) zk_lconst_0 ?_
    refine zr_aload_n (r := (some a0)) (eX12_word 6 rfl) rfl rfl ?_
    refine zr_getR2 zf_RX12_77 (τ2 := 20) rfl (eX12_word 7 rfl) ?_
    refine v_letr (fun r24 => ?_)
    refine zr_iload_n (eX12_word 8 rfl) rfl rfl ?_
    refine v_nn (fun a25 ea25 => ?_)
    subst ea25
    refine zr_iald (eX12_word 9 rfl) ?_
    refine zr_i2l (eX12_word 10 rfl) ?_
    refine zr_lconst (eX12_word 11 rfl) zk_lconst_1 ?_
    refine zr_lsub (eX12_word 12 rfl) ?_
    refine zr_invS_i (as := [(.long ((x2 : Int32).toInt64), 0), (.long 0, 0), (.long ((((zI h a25 (zx x1)) : Int32).toInt64) - 1), 0)]) (cX12_in_ok l h ((x2 : Int32).toInt64) 0 ((((zI h a25 (zx x1)) : Int32).toInt64) - 1)) rfl zcd_X12_in ⟨zw_1203, zw_1204, zw_62⟩ ⟨Nat.le_of_ble_eq_true rfl, Nat.le_of_ble_eq_true rfl⟩ rfl (Nat.le_of_ble_eq_true rfl) (eX12_word 13 rfl) (fun x26 => ?_)
    refine zr_if_ne (eX12_word 14 rfl) (t := 29) (by decide) ?_ ?_
    · refine zr_bipush (eX12_word 17 rfl) zk_bipush_60 ?_
      refine zr_iload_n (eX12_word 18 rfl) rfl rfl ?_
      refine zr_imul (eX12_word 19 rfl) ?_
      refine zr_iload_n (eX12_word 20 rfl) rfl rfl ?_
      refine zr_iadd (eX12_word 21 rfl) ?_
      refine v_leti (fun x27 => ?_)
      refine zr_istore (ls2 := [some (.ref a0, 12), some (.int x1, 0), some (.int x2, 0), some (.int x3, 0), some (.int x27, 0)]) (eX12_word 22 rfl) (Nat.le_of_ble_eq_true rfl) rfl ?_
      refine zr_iload_n (eX12_word 23 rfl) rfl rfl ?_
      refine zr_tab (c := 0) (t := 68) (off := 30) (eX12_word 24 rfl) (by decide) (by decide) ?_ (fun q0 => ?_)
      · refine zr_aload_n (r := (some a0)) (eX12_word 25 rfl) rfl rfl ?_
        refine zr_getR2 zf_RX12_80 (τ2 := 20) rfl (eX12_word 26 rfl) ?_
        refine v_letr (fun r28 => ?_)
        refine zr_iload (eX12_word 27 rfl) rfl ?_
        refine v_nn (fun a29 ea29 => ?_)
        subst ea29
        refine zr_iald (eX12_word 28 rfl) ?_
        refine zr_bipush (eX12_word 29 rfl) zk_bipush_8 ?_
        refine zr_ishr (eX12_word 30 rfl) ?_
        refine zr_i2l (eX12_word 31 rfl) ?_
        exact zr_lret rfl rfl (eX12_word 32 rfl)
      refine zr_tab (c := 1) (t := 80) (off := 42) (eX12_word 24 rfl) (by decide) (by decide) ?_ (fun q1 => ?_)
      · refine zr_aload_n (r := (some a0)) (eX12_word 33 rfl) rfl rfl ?_
        refine zr_getR2 zf_RX12_80 (τ2 := 20) rfl (eX12_word 34 rfl) ?_
        refine v_letr (fun r30 => ?_)
        refine zr_iload (eX12_word 35 rfl) rfl ?_
        refine v_nn (fun a31 ea31 => ?_)
        subst ea31
        refine zr_iald (eX12_word 36 rfl) ?_
        refine zr_sipush (eX12_word 37 rfl) zk_sipush_255 ?_
        refine zr_iand (eX12_word 38 rfl) ?_
        refine zr_i2l (eX12_word 39 rfl) ?_
        exact zr_lret rfl rfl (eX12_word 40 rfl)
      refine zr_tab (c := 2) (t := 93) (off := 55) (eX12_word 24 rfl) (by decide) (by decide) ?_ (fun q2 => ?_)
      · refine zr_aload_n (r := (some a0)) (eX12_word 41 rfl) rfl rfl ?_
        refine zr_getR2 zf_RX12_83 (τ2 := 20) rfl (eX12_word 42 rfl) ?_
        refine v_letr (fun r32 => ?_)
        refine zr_iload (eX12_word 43 rfl) rfl ?_
        refine v_nn (fun a33 ea33 => ?_)
        subst ea33
        refine zr_iald (eX12_word 44 rfl) ?_
        refine zr_i2l (eX12_word 45 rfl) ?_
        exact zr_lret rfl rfl (eX12_word 46 rfl)
      refine zr_tab (c := 3) (t := 102) (off := 64) (eX12_word 24 rfl) (by decide) (by decide) ?_ (fun q3 => ?_)
      · refine zr_aload_n (r := (some a0)) (eX12_word 47 rfl) rfl rfl ?_
        refine zr_getR2 zf_RX12_86 (τ2 := 20) rfl (eX12_word 48 rfl) ?_
        refine v_letr (fun r34 => ?_)
        refine zr_iload (eX12_word 49 rfl) rfl ?_
        refine v_nn (fun a35 ea35 => ?_)
        subst ea35
        refine zr_iald (eX12_word 50 rfl) ?_
        refine zr_i2l (eX12_word 51 rfl) ?_
        exact zr_lret rfl rfl (eX12_word 52 rfl)
      have q0' := zne (c := 0) (n := 0) (by decide) q0
      have q1' := zne (c := 1) (n := 1) (by decide) q1
      have q2' := zne (c := 2) (n := 2) (by decide) q2
      have q3' := zne (c := 3) (n := 3) (by decide) q3
      refine zr_tabD (t := 111) (eX12_word 24 rfl) (by omega) (by decide) ?_
      refine zr_invS_j (as := []) (cX12_lost_ok l h ) rfl zcd_X12_lost ⟨zw_1224, zw_1225, zw_62⟩ ⟨Nat.le_of_ble_eq_true rfl, Nat.le_of_ble_eq_true rfl⟩ rfl (Nat.le_of_ble_eq_true rfl) (eX12_word 53 rfl) (fun x36 => ?_)
      exact zr_lret rfl rfl (eX12_word 54 rfl)
    · exact v_drop [false, false, false, false, false] rfl (hk23)
def gX12_words (h : Zh) (a0 : Nat) (x1 : Int32) : Option (Int32) :=
  zbi (gX12_noSum x1) (fun x21 => (if (x21 : Int32) = 0 then zlt (zR h a0 29) (fun r22 => Option.bind r22 (fun a23 => zg (zin x1 (zL h a23)) ((some (zI h a23 (zx x1))))))
  else (some (-1))))
set_option maxRecDepth 20000 in
theorem cX12_words_ok (l : Launch) (h : Zh) (a0 : Nat) (x1 : Int32) : Zc l yX12_words mX12_words 0 h [(.ref a0, 12), (.int x1, 0)] ((gX12_words h a0 x1).map (zoi h)) := by
  refine zc_of2 (ls := [some (.ref a0, 12), some (.int x1, 0)]) (j := 0) (by decide +kernel) rfl rfl (zEn_ca (zEn_ci rfl)) (Nat.le_of_ble_eq_true rfl) rfl ?_
  unfold gX12_words
  refine zr_iload_n (eX12_words 0 rfl) rfl rfl ?_
  refine zr_invS_i (as := [(.int x1, 0)]) (cX12_noSum_ok l h x1) rfl zcd_X12_noSum ⟨zw_1457, zw_1458, zw_62⟩ ⟨Nat.le_of_ble_eq_true rfl, Nat.le_of_ble_eq_true rfl⟩ rfl (Nat.le_of_ble_eq_true rfl) (eX12_words 1 rfl) (fun x21 => ?_)
  refine zr_if_eq (eX12_words 2 rfl) (t := 11) (by decide) ?_ ?_
  · refine zr_aload_n (r := (some a0)) (eX12_words 5 rfl) rfl rfl ?_
    refine zr_getR2 zf_RX12_77 (τ2 := 20) rfl (eX12_words 6 rfl) ?_
    refine v_letr (fun r22 => ?_)
    refine zr_iload_n (eX12_words 7 rfl) rfl rfl ?_
    refine v_nn (fun a23 ea23 => ?_)
    subst ea23
    refine zr_iald (eX12_words 8 rfl) ?_
    exact zr_iret rfl rfl (eX12_words 9 rfl)
  · refine zr_iconst (eX12_words 3 rfl) zk_iconst_m1 ?_
    refine zr_goto (eX12_words 4 rfl) (t := 17) (by decide) ?_
    exact zr_iret rfl rfl (eX12_words 9 rfl)
def gX12_bracketOf (h : Zh) (a0 : Nat) (x1 : Int32) (x2 : Int32) : Option (Int32 × Zh) :=
  zbV (gX12_startSum h a0) (fun h1 => zbV (gX12_takeProduct h1 a0 x1 x2 1) (fun h2 => zbV (gX12_takeProduct h2 a0 x2 x1 (-1)) (fun h3 => zbi (gX12_madeWords h3 a0) (fun x21 => (some (x21, h3))))))
set_option maxRecDepth 20000 in
theorem cX12_bracketOf_ok (l : Launch) (h : Zh) (a0 : Nat) (x1 : Int32) (x2 : Int32) : Zc l yX12_bracketOf mX12_bracketOf 0 h [(.ref a0, 12), (.int x1, 0), (.int x2, 0)] ((gX12_bracketOf h a0 x1 x2).map zoI) := by
  refine zc_of2 (ls := [some (.ref a0, 12), some (.int x1, 0), some (.int x2, 0)]) (j := 0) (by decide +kernel) rfl rfl (zEn_ca (zEn_ci (zEn_ci rfl))) (Nat.le_of_ble_eq_true rfl) rfl ?_
  unfold gX12_bracketOf
  refine zr_aload_n (r := (some a0)) (eX12_bracketOf 0 rfl) rfl rfl ?_
  refine zr_invV_V (as := []) (cX12_startSum_ok l h a0) rfl rfl ⟨by decide, by decide, by decide⟩ zcd_X12_startSum rfl ⟨zw_1461, zw_1463, zw_42, zw_62⟩ ⟨Nat.le_of_ble_eq_true rfl, Nat.le_of_ble_eq_true rfl⟩ rfl (Nat.le_of_ble_eq_true rfl) (eX12_bracketOf 1 rfl) (fun h1 => ?_)
  refine zr_aload_n (r := (some a0)) (eX12_bracketOf 2 rfl) rfl rfl ?_
  refine zr_iload_n (eX12_bracketOf 3 rfl) rfl rfl ?_
  refine zr_iload_n (eX12_bracketOf 4 rfl) rfl rfl ?_
  refine zr_iconst (eX12_bracketOf 5 rfl) zk_iconst_1 ?_
  refine zr_invV_V (as := [(.int x1, 0), (.int x2, 0), (.int 1, 0)]) (cX12_takeProduct_ok l h1 a0 x1 x2 1) rfl rfl ⟨by decide, by decide, by decide⟩ zcd_X12_takeProduct rfl ⟨zw_1501, zw_1503, zw_49, zw_62⟩ ⟨Nat.le_of_ble_eq_true rfl, Nat.le_of_ble_eq_true rfl⟩ rfl (Nat.le_of_ble_eq_true rfl) (eX12_bracketOf 6 rfl) (fun h2 => ?_)
  refine zr_aload_n (r := (some a0)) (eX12_bracketOf 7 rfl) rfl rfl ?_
  refine zr_iload_n (eX12_bracketOf 8 rfl) rfl rfl ?_
  refine zr_iload_n (eX12_bracketOf 9 rfl) rfl rfl ?_
  refine zr_iconst (eX12_bracketOf 10 rfl) zk_iconst_m1 ?_
  refine zr_invV_V (as := [(.int x2, 0), (.int x1, 0), (.int (-1), 0)]) (cX12_takeProduct_ok l h2 a0 x2 x1 (-1)) rfl rfl ⟨by decide, by decide, by decide⟩ zcd_X12_takeProduct rfl ⟨zw_1501, zw_1503, zw_49, zw_62⟩ ⟨Nat.le_of_ble_eq_true rfl, Nat.le_of_ble_eq_true rfl⟩ rfl (Nat.le_of_ble_eq_true rfl) (eX12_bracketOf 11 rfl) (fun h3 => ?_)
  refine zr_aload_n (r := (some a0)) (eX12_bracketOf 12 rfl) rfl rfl ?_
  refine zr_invV_i (as := []) (cX12_madeWords_ok l h3 a0) rfl rfl ⟨by decide, by decide, by decide⟩ zcd_X12_madeWords rfl ⟨zw_1477, zw_1479, zw_46, zw_62⟩ ⟨Nat.le_of_ble_eq_true rfl, Nat.le_of_ble_eq_true rfl⟩ rfl (Nat.le_of_ble_eq_true rfl) (eX12_bracketOf 13 rfl) (fun x21 => ?_)
  exact zr_iret rfl rfl (eX12_bracketOf 14 rfl)
def gX12_bracket_J1 (h : Zh) : Option (Int32 × Zh) :=
  (some ((-1), h))
def gX12_bracket (h : Zh) (a0 : Nat) (x1 : Int32) (x2 : Int32) : Option (Int32 × Zh) :=
  zbi (gX12_noSum x1) (fun x21 => zjn (gX12_bracket_J1 h) (fun (k22 : Option (Int32 × Zh)) =>
  (if (x21 : Int32) = 0 then zbi (gX12_noSum x2) (fun x23 => (if (x23 : Int32) = 0 then zbI (gX12_bracketOf h a0 x1 x2) (fun x24 h1 => (some (x24, h1)))
  else k22))
  else k22)))
set_option maxRecDepth 20000 in
theorem cX12_bracket_ok (l : Launch) (h : Zh) (a0 : Nat) (x1 : Int32) (x2 : Int32) : Zc l yX12_bracket mX12_bracket 0 h [(.ref a0, 12), (.int x1, 0), (.int x2, 0)] ((gX12_bracket h a0 x1 x2).map zoI) := by
  refine zc_of2 (ls := [some (.ref a0, 12), some (.int x1, 0), some (.int x2, 0)]) (j := 0) (by decide +kernel) rfl rfl (zEn_ca (zEn_ci (zEn_ci rfl))) (Nat.le_of_ble_eq_true rfl) rfl ?_
  unfold gX12_bracket
  refine zr_iload_n (eX12_bracket 0 rfl) rfl rfl ?_
  refine zr_invS_i (as := [(.int x1, 0)]) (cX12_noSum_ok l h x1) rfl zcd_X12_noSum ⟨zw_1457, zw_1458, zw_62⟩ ⟨Nat.le_of_ble_eq_true rfl, Nat.le_of_ble_eq_true rfl⟩ rfl (Nat.le_of_ble_eq_true rfl) (eX12_bracket 1 rfl) (fun x21 => ?_)
  refine v_jn (fun (k22 : Option (Int32 × Zh)) => V l mX12_bracket (zN h) (zS h) 0 zoI 14 [none, none, none] [] h k22) ?_ ?_
  · skip
    unfold gX12_bracket_J1
    refine zr_iconst (eX12_bracket 6 rfl) zk_iconst_m1 ?_
    refine zr_goto (eX12_bracket 7 rfl) (t := 24) (by decide) ?_
    exact zr_iret rfl rfl (eX12_bracket 12 rfl)
  intro k22 hk22
  refine zr_if_ne (eX12_bracket 2 rfl) (t := 14) (by decide) ?_ ?_
  · exact v_drop [false, false, false] rfl (hk22)
  · refine zr_iload_n (eX12_bracket 3 rfl) rfl rfl ?_
    refine zr_invS_i (as := [(.int x2, 0)]) (cX12_noSum_ok l h x2) rfl zcd_X12_noSum ⟨zw_1457, zw_1458, zw_62⟩ ⟨Nat.le_of_ble_eq_true rfl, Nat.le_of_ble_eq_true rfl⟩ rfl (Nat.le_of_ble_eq_true rfl) (eX12_bracket 4 rfl) (fun x23 => ?_)
    refine zr_if_eq (eX12_bracket 5 rfl) (t := 18) (by decide) ?_ ?_
    · refine zr_aload_n (r := (some a0)) (eX12_bracket 8 rfl) rfl rfl ?_
      refine zr_iload_n (eX12_bracket 9 rfl) rfl rfl ?_
      refine zr_iload_n (eX12_bracket 10 rfl) rfl rfl ?_
      refine zr_invV_I (as := [(.int x1, 0), (.int x2, 0)]) (cX12_bracketOf_ok l h a0 x1 x2) rfl rfl ⟨by decide, by decide, by decide⟩ zcd_X12_bracketOf rfl ⟨zw_1529, zw_1531, zw_51, zw_62⟩ ⟨Nat.le_of_ble_eq_true rfl, Nat.le_of_ble_eq_true rfl⟩ rfl (Nat.le_of_ble_eq_true rfl) (eX12_bracket 11 rfl) (fun x24 h1 => ?_)
      exact zr_iret rfl rfl (eX12_bracket 12 rfl)
    · exact v_drop [false, false, false] rfl (hk22)
def gX12_kept (h : Zh) (a0 : Nat) (x1 : Int32) : Option (Int32 × Zh) :=
  zbi (gX12_noSum x1) (fun x21 => (if (x21 : Int32) = 0 then zbI (gX12_putChain h a0 4) (fun x22 h1 => zbI (gX12_bracketOf h1 a0 x1 4) (fun x23 h2 => (if (x23 : Int32) = 0 then (some (1, h2))
  else (some (0, h2)))))
  else (some ((-1), h))))
set_option maxRecDepth 20000 in
theorem cX12_kept_ok (l : Launch) (h : Zh) (a0 : Nat) (x1 : Int32) : Zc l yX12_kept mX12_kept 0 h [(.ref a0, 12), (.int x1, 0)] ((gX12_kept h a0 x1).map zoI) := by
  refine zc_of2 (ls := [some (.ref a0, 12), some (.int x1, 0)]) (j := 0) (by decide +kernel) rfl rfl (zEn_ca (zEn_ci rfl)) (Nat.le_of_ble_eq_true rfl) rfl ?_
  unfold gX12_kept
  refine zr_iload_n (eX12_kept 0 rfl) rfl rfl ?_
  refine zr_invS_i (as := [(.int x1, 0)]) (cX12_noSum_ok l h x1) rfl zcd_X12_noSum ⟨zw_1457, zw_1458, zw_62⟩ ⟨Nat.le_of_ble_eq_true rfl, Nat.le_of_ble_eq_true rfl⟩ rfl (Nat.le_of_ble_eq_true rfl) (eX12_kept 1 rfl) (fun x21 => ?_)
  refine zr_if_eq (eX12_kept 2 rfl) (t := 9) (by decide) ?_ ?_
  · refine zr_aload_n (r := (some a0)) (eX12_kept 5 rfl) rfl rfl ?_
    refine zr_iconst (eX12_kept 6 rfl) zk_iconst_4 ?_
    refine zr_invV_I (as := [(.int 4, 0)]) (cX12_putChain_ok l h a0 4) rfl rfl ⟨by decide, by decide, by decide⟩ zcd_X12_putChain rfl ⟨zw_1493, zw_1495, zw_48, zw_62⟩ ⟨Nat.le_of_ble_eq_true rfl, Nat.le_of_ble_eq_true rfl⟩ rfl (Nat.le_of_ble_eq_true rfl) (eX12_kept 7 rfl) (fun x22 h1 => ?_)
    refine zr_pop (eX12_kept 8 rfl) rfl ?_
    refine zr_aload_n (r := (some a0)) (eX12_kept 9 rfl) rfl rfl ?_
    refine zr_iload_n (eX12_kept 10 rfl) rfl rfl ?_
    refine zr_iconst (eX12_kept 11 rfl) zk_iconst_4 ?_
    refine zr_invV_I (as := [(.int x1, 0), (.int 4, 0)]) (cX12_bracketOf_ok l h1 a0 x1 4) rfl rfl ⟨by decide, by decide, by decide⟩ zcd_X12_bracketOf rfl ⟨zw_1529, zw_1531, zw_51, zw_62⟩ ⟨Nat.le_of_ble_eq_true rfl, Nat.le_of_ble_eq_true rfl⟩ rfl (Nat.le_of_ble_eq_true rfl) (eX12_kept 12 rfl) (fun x23 h2 => ?_)
    refine zr_if_ne (eX12_kept 13 rfl) (t := 28) (by decide) ?_ ?_
    · refine zr_iconst (eX12_kept 16 rfl) zk_iconst_0 ?_
      exact zr_iret rfl rfl (eX12_kept 17 rfl)
    · refine zr_iconst (eX12_kept 14 rfl) zk_iconst_1 ?_
      refine zr_goto (eX12_kept 15 rfl) (t := 29) (by decide) ?_
      exact zr_iret rfl rfl (eX12_kept 17 rfl)
  · refine zr_iconst (eX12_kept 3 rfl) zk_iconst_m1 ?_
    exact zr_iret rfl rfl (eX12_kept 4 rfl)
def gX12_takeSnap_J1 (x31 : Int32) (k32 : Int32 → Zh → Option (Zh)) : Zh → Option (Zh) :=
  fun (h7 : Zh) => k32 (x31 + 1) h7
def gX12_takeSnap_L2 (a0 : Nat) (x21 : Int32) (x31 : Int32) (k37 : Zh → Option (Zh)) : (Int32 → Zh → Option (Zh)) → Int32 → Zh → Option (Zh) :=
  fun (k39 : Int32 → Zh → Option (Zh)) (x38 : Int32) (h8 : Zh) => (if (60 : Int32) ≤ x38 then k37 h8
  else zlt (((x21 + 8) + (180 * x31)) + (3 * x38)) (fun x40 => zlt (zR h8 a0 30) (fun r41 => zlt (zR h8 a0 35) (fun r42 => Option.bind r42 (fun a43 => zg (zin x40 (zL h8 a43)) (Option.bind r41 (fun a44 => zg (zin ((60 * x31) + x38) (zL h8 a44)) (zlt (zsI h8 a44 (zx ((60 * x31) + x38)) (zI h8 a43 (zx x40))) (fun (h9 : Zh) => zlt (zR h9 a0 31) (fun r45 => zlt (zR h9 a0 35) (fun r46 => Option.bind r46 (fun a47 => zg (zin (x40 + 1) (zL h9 a47)) (Option.bind r45 (fun a48 => zg (zin ((60 * x31) + x38) (zL h9 a48)) (zlt (zsI h9 a48 (zx ((60 * x31) + x38)) (zI h9 a47 (zx (x40 + 1)))) (fun (h10 : Zh) => zlt (zR h10 a0 32) (fun r49 => zlt (zR h10 a0 35) (fun r50 => Option.bind r50 (fun a51 => zg (zin (x40 + 2) (zL h10 a51)) (Option.bind r49 (fun a52 => zg (zin ((60 * x31) + x38) (zL h10 a52)) (zlt (zsI h10 a52 (zx ((60 * x31) + x38)) (zI h10 a51 (zx (x40 + 2)))) (fun (h11 : Zh) => k39 (x38 + 1) h11)))))))))))))))))))))))
def gX12_takeSnap_L3 (a0 : Nat) (x21 : Int32) : (Int32 → Zh → Option (Zh)) → Int32 → Zh → Option (Zh) :=
  fun (k32 : Int32 → Zh → Option (Zh)) (x31 : Int32) (h5 : Zh) => (if (4 : Int32) ≤ x31 then some h5
  else zlt (zR h5 a0 29) (fun r33 => zlt (zR h5 a0 35) (fun r34 => Option.bind r34 (fun a35 => zg (zin ((x21 + 4) + x31) (zL h5 a35)) (Option.bind r33 (fun a36 => zg (zin x31 (zL h5 a36)) (zlt (zsI h5 a36 (zx x31) (zI h5 a35 (zx ((x21 + 4) + x31)))) (fun (h6 : Zh) => zjn (gX12_takeSnap_J1 x31 k32) (fun (k37 : Zh → Option (Zh)) =>
  zlp (fun (_ : Int32) (_ : Zh) => (none : Option (Zh))) (gX12_takeSnap_L2 a0 x21 x31 k37) zFU 0 h6)))))))))
def gX12_takeSnap_J4 (a0 : Nat) (x21 : Int32) (h1 : Zh) : Int32 → Option (Zh) :=
  fun (x26 : Int32) => zg (zbl x26) (zlt (zsI h1 a0 2 x26) (fun (h2 : Zh) => zlt (zR h2 a0 35) (fun r27 => Option.bind r27 (fun a28 => zg (zin (x21 + 2) (zL h2 a28)) (zlt (zsI h2 a0 3 (zI h2 a28 (zx (x21 + 2)))) (fun (h3 : Zh) => zlt (zR h3 a0 35) (fun r29 => Option.bind r29 (fun a30 => zg (zin (x21 + 3) (zL h3 a30)) (zlt (zsI h3 a0 4 (zI h3 a30 (zx (x21 + 3)))) (fun (h4 : Zh) => zlp (fun (_ : Int32) (_ : Zh) => (none : Option (Zh))) (gX12_takeSnap_L3 a0 x21) zFU 0 h4))))))))))
def gX12_takeSnap (h : Zh) (a0 : Nat) : Option (Zh) :=
  zlt (728 * (zI h a0 37)) (fun x21 => zlt (zR h a0 35) (fun r22 => Option.bind r22 (fun a23 => zg (zin x21 (zL h a23)) (zlt (zsI h a0 1 (zI h a23 (zx x21))) (fun (h1 : Zh) => zlt (zR h1 a0 35) (fun r24 => Option.bind r24 (fun a25 => zg (zin (x21 + 1) (zL h1 a25)) (zjn (gX12_takeSnap_J4 a0 x21 h1) (fun (k53 : Int32 → Option (Zh)) =>
  (if ((zI h1 a25 (zx (x21 + 1))) : Int32) = 1 then k53 1
  else k53 0))))))))))
set_option maxRecDepth 20000 in
theorem cX12_takeSnap_ok (l : Launch) (h : Zh) (a0 : Nat) : Zc l yX12_takeSnap mX12_takeSnap 0 h [(.ref a0, 12)] ((gX12_takeSnap h a0).map zoV) := by
  refine zc_of2 (ls := [some (.ref a0, 12), none, none, none, none]) (j := 4) (by decide +kernel) rfl rfl (zEn_ca rfl) (Nat.le_of_ble_eq_true rfl) rfl ?_
  unfold gX12_takeSnap
  refine zr_sipush (eX12_takeSnap 0 rfl) zk_sipush_728 ?_
  refine zr_aload_n (r := (some a0)) (eX12_takeSnap 1 rfl) rfl rfl ?_
  refine zr_getI zf_RX12_348 ⟨by decide, by decide⟩ (eX12_takeSnap 2 rfl) ?_
  refine zr_imul (eX12_takeSnap 3 rfl) ?_
  refine v_leti (fun x21 => ?_)
  refine zr_istore_n (ls2 := [some (.ref a0, 12), some (.int x21, 0), none, none, none]) (eX12_takeSnap 4 rfl) rfl (Nat.le_of_ble_eq_true rfl) rfl ?_
  refine zr_aload_n (r := (some a0)) (eX12_takeSnap 5 rfl) rfl rfl ?_
  refine zr_aload_n (r := (some a0)) (eX12_takeSnap 6 rfl) rfl rfl ?_
  refine zr_getR2 zf_RX12_96 (τ2 := 20) rfl (eX12_takeSnap 7 rfl) ?_
  refine v_letr (fun r22 => ?_)
  refine zr_iload_n (eX12_takeSnap 8 rfl) rfl rfl ?_
  refine v_nn (fun a23 ea23 => ?_)
  subst ea23
  refine zr_iald (eX12_takeSnap 9 rfl) ?_
  refine zr_putI zf_RX12_111 rfl (Or.inl rfl) (eX12_takeSnap 10 rfl) ?_
  refine v_leth (fun h1 => ?_)
  refine zr_aload_n (r := (some a0)) (eX12_takeSnap 11 rfl) rfl rfl ?_
  refine zr_aload_n (r := (some a0)) (eX12_takeSnap 12 rfl) rfl rfl ?_
  refine zr_getR2 zf_RX12_96 (τ2 := 20) rfl (eX12_takeSnap 13 rfl) ?_
  refine v_letr (fun r24 => ?_)
  refine zr_iload_n (eX12_takeSnap 14 rfl) rfl rfl ?_
  refine zr_iconst (eX12_takeSnap 15 rfl) zk_iconst_1 ?_
  refine zr_iadd (eX12_takeSnap 16 rfl) ?_
  refine v_nn (fun a25 ea25 => ?_)
  subst ea25
  refine zr_iald (eX12_takeSnap 17 rfl) ?_
  refine zr_iconst (eX12_takeSnap 18 rfl) zk_iconst_1 ?_
  refine v_jn (fun (k53 : Int32 → Option (Zh)) => ∀ (x26 : Int32), V l mX12_takeSnap (zN h) (zS h) 0 zoV 37 [some (.ref a0, 12), some (.int x21, 0), none, none, none] [(.int x26, 0), (.ref a0, 12)] h1 (k53 x26)) ?_ ?_
  · intro x26
    unfold gX12_takeSnap_J4
    refine v_g (fun hb => ?_)
    refine zr_putZ zf_RX12_115 rfl (zbl_of hb) (Or.inl rfl) (eX12_takeSnap 23 rfl) ?_
    refine v_leth (fun h2 => ?_)
    refine zr_aload_n (r := (some a0)) (eX12_takeSnap 24 rfl) rfl rfl ?_
    refine zr_aload_n (r := (some a0)) (eX12_takeSnap 25 rfl) rfl rfl ?_
    refine zr_getR2 zf_RX12_96 (τ2 := 20) rfl (eX12_takeSnap 26 rfl) ?_
    refine v_letr (fun r27 => ?_)
    refine zr_iload_n (eX12_takeSnap 27 rfl) rfl rfl ?_
    refine zr_iconst (eX12_takeSnap 28 rfl) zk_iconst_2 ?_
    refine zr_iadd (eX12_takeSnap 29 rfl) ?_
    refine v_nn (fun a28 ea28 => ?_)
    subst ea28
    refine zr_iald (eX12_takeSnap 30 rfl) ?_
    refine zr_putI zf_RX12_119 rfl (Or.inl rfl) (eX12_takeSnap 31 rfl) ?_
    refine v_leth (fun h3 => ?_)
    refine zr_aload_n (r := (some a0)) (eX12_takeSnap 32 rfl) rfl rfl ?_
    refine zr_aload_n (r := (some a0)) (eX12_takeSnap 33 rfl) rfl rfl ?_
    refine zr_getR2 zf_RX12_96 (τ2 := 20) rfl (eX12_takeSnap 34 rfl) ?_
    refine v_letr (fun r29 => ?_)
    refine zr_iload_n (eX12_takeSnap 35 rfl) rfl rfl ?_
    refine zr_iconst (eX12_takeSnap 36 rfl) zk_iconst_3 ?_
    refine zr_iadd (eX12_takeSnap 37 rfl) ?_
    refine v_nn (fun a30 ea30 => ?_)
    subst ea30
    refine zr_iald (eX12_takeSnap 38 rfl) ?_
    refine zr_putI zf_RX12_122 rfl (Or.inl rfl) (eX12_takeSnap 39 rfl) ?_
    refine v_leth (fun h4 => ?_)
    refine zr_iconst (eX12_takeSnap 40 rfl) zk_iconst_0 ?_
    refine zr_istore_n (ls2 := [some (.ref a0, 12), some (.int x21, 0), some (.int 0, 0), none, none]) (eX12_takeSnap 41 rfl) rfl (Nat.le_of_ble_eq_true rfl) rfl ?_
    refine v_drop [true, true, true, false, false] rfl ?_
    refine zlp_ind (fun (k32 : Int32 → Zh → Option (Zh)) => ∀ (x31 : Int32) (h5 : Zh), V l mX12_takeSnap (zN h) (zS h) 0 zoV 66 [some (.ref a0, 12), some (.int x21, 0), some (.int x31, 0), none, none] [] h5 (k32 x31 h5)) ?_ ?_ 0 h4
    · exact fun _ _ => v_none
    intro k32 hk32 x31 h5
    unfold gX12_takeSnap_L3
    refine zr_iload_n (eX12_takeSnap 42 rfl) rfl rfl ?_
    refine zr_iconst (eX12_takeSnap 43 rfl) zk_iconst_4 ?_
    refine zr_icmp_ge (eX12_takeSnap 44 rfl) (t := 181) (by decide) ?_ ?_
    · exact zr_vret rfl rfl (eX12_takeSnap 118 rfl)
    · refine zr_aload_n (r := (some a0)) (eX12_takeSnap 45 rfl) rfl rfl ?_
      refine zr_getR2 zf_RX12_77 (τ2 := 20) rfl (eX12_takeSnap 46 rfl) ?_
      refine v_letr (fun r33 => ?_)
      refine zr_iload_n (eX12_takeSnap 47 rfl) rfl rfl ?_
      refine zr_aload_n (r := (some a0)) (eX12_takeSnap 48 rfl) rfl rfl ?_
      refine zr_getR2 zf_RX12_96 (τ2 := 20) rfl (eX12_takeSnap 49 rfl) ?_
      refine v_letr (fun r34 => ?_)
      refine zr_iload_n (eX12_takeSnap 50 rfl) rfl rfl ?_
      refine zr_iconst (eX12_takeSnap 51 rfl) zk_iconst_4 ?_
      refine zr_iadd (eX12_takeSnap 52 rfl) ?_
      refine zr_iload_n (eX12_takeSnap 53 rfl) rfl rfl ?_
      refine zr_iadd (eX12_takeSnap 54 rfl) ?_
      refine v_nn (fun a35 ea35 => ?_)
      subst ea35
      refine zr_iald (eX12_takeSnap 55 rfl) ?_
      refine v_nn (fun a36 ea36 => ?_)
      subst ea36
      refine zr_iast (eX12_takeSnap 56 rfl) ?_
      refine v_leth (fun h6 => ?_)
      refine zr_iconst (eX12_takeSnap 57 rfl) zk_iconst_0 ?_
      refine zr_istore_n (ls2 := [some (.ref a0, 12), some (.int x21, 0), some (.int x31, 0), some (.int 0, 0), none]) (eX12_takeSnap 58 rfl) rfl (Nat.le_of_ble_eq_true rfl) rfl ?_
      refine v_jn (fun (k37 : Zh → Option (Zh)) => ∀ (h7 : Zh), V l mX12_takeSnap (zN h) (zS h) 0 zoV 175 [some (.ref a0, 12), some (.int x21, 0), some (.int x31, 0), none, none] [] h7 (k37 h7)) ?_ ?_
      · intro h7
        unfold gX12_takeSnap_J1
        refine zr_iinc (ls2 := [some (.ref a0, 12), some (.int x21, 0), some (.int (x31 + 1), 0), none, none]) (eX12_takeSnap 116 rfl) rfl (Nat.le_of_ble_eq_true rfl) zk_iconst_1 rfl ?_
        refine zr_goto (eX12_takeSnap 117 rfl) (t := 66) (by decide) ?_
        exact v_drop [true, true, true, false, false] rfl (hk32 (x31 + 1) h7)
      intro k37 hk37
      refine v_drop [true, true, true, true, false] rfl ?_
      refine zlp_ind (fun (k39 : Int32 → Zh → Option (Zh)) => ∀ (x38 : Int32) (h8 : Zh), V l mX12_takeSnap (zN h) (zS h) 0 zoV 89 [some (.ref a0, 12), some (.int x21, 0), some (.int x31, 0), some (.int x38, 0), none] [] h8 (k39 x38 h8)) ?_ ?_ 0 h6
      · exact fun _ _ => v_none
      intro k39 hk39 x38 h8
      unfold gX12_takeSnap_L2
      refine zr_iload_n (eX12_takeSnap 59 rfl) rfl rfl ?_
      refine zr_bipush (eX12_takeSnap 60 rfl) zk_bipush_60 ?_
      refine zr_icmp_ge (eX12_takeSnap 61 rfl) (t := 175) (by decide) ?_ ?_
      · exact v_drop [true, true, true, false, false] rfl (hk37 h8)
      · refine zr_iload_n (eX12_takeSnap 62 rfl) rfl rfl ?_
        refine zr_bipush (eX12_takeSnap 63 rfl) zk_bipush_8 ?_
        refine zr_iadd (eX12_takeSnap 64 rfl) ?_
        refine zr_sipush (eX12_takeSnap 65 rfl) zk_sipush_180 ?_
        refine zr_iload_n (eX12_takeSnap 66 rfl) rfl rfl ?_
        refine zr_imul (eX12_takeSnap 67 rfl) ?_
        refine zr_iadd (eX12_takeSnap 68 rfl) ?_
        refine zr_iconst (eX12_takeSnap 69 rfl) zk_iconst_3 ?_
        refine zr_iload_n (eX12_takeSnap 70 rfl) rfl rfl ?_
        refine zr_imul (eX12_takeSnap 71 rfl) ?_
        refine zr_iadd (eX12_takeSnap 72 rfl) ?_
        refine v_leti (fun x40 => ?_)
        refine zr_istore (ls2 := [some (.ref a0, 12), some (.int x21, 0), some (.int x31, 0), some (.int x38, 0), some (.int x40, 0)]) (eX12_takeSnap 73 rfl) (Nat.le_of_ble_eq_true rfl) rfl ?_
        refine zr_aload_n (r := (some a0)) (eX12_takeSnap 74 rfl) rfl rfl ?_
        refine zr_getR2 zf_RX12_80 (τ2 := 20) rfl (eX12_takeSnap 75 rfl) ?_
        refine v_letr (fun r41 => ?_)
        refine zr_bipush (eX12_takeSnap 76 rfl) zk_bipush_60 ?_
        refine zr_iload_n (eX12_takeSnap 77 rfl) rfl rfl ?_
        refine zr_imul (eX12_takeSnap 78 rfl) ?_
        refine zr_iload_n (eX12_takeSnap 79 rfl) rfl rfl ?_
        refine zr_iadd (eX12_takeSnap 80 rfl) ?_
        refine zr_aload_n (r := (some a0)) (eX12_takeSnap 81 rfl) rfl rfl ?_
        refine zr_getR2 zf_RX12_96 (τ2 := 20) rfl (eX12_takeSnap 82 rfl) ?_
        refine v_letr (fun r42 => ?_)
        refine zr_iload (eX12_takeSnap 83 rfl) rfl ?_
        refine v_nn (fun a43 ea43 => ?_)
        subst ea43
        refine zr_iald (eX12_takeSnap 84 rfl) ?_
        refine v_nn (fun a44 ea44 => ?_)
        subst ea44
        refine zr_iast (eX12_takeSnap 85 rfl) ?_
        refine v_leth (fun h9 => ?_)
        refine zr_aload_n (r := (some a0)) (eX12_takeSnap 86 rfl) rfl rfl ?_
        refine zr_getR2 zf_RX12_83 (τ2 := 20) rfl (eX12_takeSnap 87 rfl) ?_
        refine v_letr (fun r45 => ?_)
        refine zr_bipush (eX12_takeSnap 88 rfl) zk_bipush_60 ?_
        refine zr_iload_n (eX12_takeSnap 89 rfl) rfl rfl ?_
        refine zr_imul (eX12_takeSnap 90 rfl) ?_
        refine zr_iload_n (eX12_takeSnap 91 rfl) rfl rfl ?_
        refine zr_iadd (eX12_takeSnap 92 rfl) ?_
        refine zr_aload_n (r := (some a0)) (eX12_takeSnap 93 rfl) rfl rfl ?_
        refine zr_getR2 zf_RX12_96 (τ2 := 20) rfl (eX12_takeSnap 94 rfl) ?_
        refine v_letr (fun r46 => ?_)
        refine zr_iload (eX12_takeSnap 95 rfl) rfl ?_
        refine zr_iconst (eX12_takeSnap 96 rfl) zk_iconst_1 ?_
        refine zr_iadd (eX12_takeSnap 97 rfl) ?_
        refine v_nn (fun a47 ea47 => ?_)
        subst ea47
        refine zr_iald (eX12_takeSnap 98 rfl) ?_
        refine v_nn (fun a48 ea48 => ?_)
        subst ea48
        refine zr_iast (eX12_takeSnap 99 rfl) ?_
        refine v_leth (fun h10 => ?_)
        refine zr_aload_n (r := (some a0)) (eX12_takeSnap 100 rfl) rfl rfl ?_
        refine zr_getR2 zf_RX12_86 (τ2 := 20) rfl (eX12_takeSnap 101 rfl) ?_
        refine v_letr (fun r49 => ?_)
        refine zr_bipush (eX12_takeSnap 102 rfl) zk_bipush_60 ?_
        refine zr_iload_n (eX12_takeSnap 103 rfl) rfl rfl ?_
        refine zr_imul (eX12_takeSnap 104 rfl) ?_
        refine zr_iload_n (eX12_takeSnap 105 rfl) rfl rfl ?_
        refine zr_iadd (eX12_takeSnap 106 rfl) ?_
        refine zr_aload_n (r := (some a0)) (eX12_takeSnap 107 rfl) rfl rfl ?_
        refine zr_getR2 zf_RX12_96 (τ2 := 20) rfl (eX12_takeSnap 108 rfl) ?_
        refine v_letr (fun r50 => ?_)
        refine zr_iload (eX12_takeSnap 109 rfl) rfl ?_
        refine zr_iconst (eX12_takeSnap 110 rfl) zk_iconst_2 ?_
        refine zr_iadd (eX12_takeSnap 111 rfl) ?_
        refine v_nn (fun a51 ea51 => ?_)
        subst ea51
        refine zr_iald (eX12_takeSnap 112 rfl) ?_
        refine v_nn (fun a52 ea52 => ?_)
        subst ea52
        refine zr_iast (eX12_takeSnap 113 rfl) ?_
        refine v_leth (fun h11 => ?_)
        refine zr_iinc (ls2 := [some (.ref a0, 12), some (.int x21, 0), some (.int x31, 0), some (.int (x38 + 1), 0), some (.int x40, 0)]) (eX12_takeSnap 114 rfl) rfl (Nat.le_of_ble_eq_true rfl) zk_iconst_1 rfl ?_
        refine zr_goto (eX12_takeSnap 115 rfl) (t := 89) (by decide) ?_
        exact v_drop [true, true, true, true, false] rfl (hk39 (x38 + 1) h11)
  intro k53 hk53
  refine zr_icmp_ne (eX12_takeSnap 19 rfl) (t := 36) (by decide) ?_ ?_
  · refine zr_iconst (eX12_takeSnap 22 rfl) zk_iconst_0 ?_
    exact v_drop [true, true, false, false, false] rfl (hk53 0)
  · refine zr_iconst (eX12_takeSnap 20 rfl) zk_iconst_1 ?_
    refine zr_goto (eX12_takeSnap 21 rfl) (t := 37) (by decide) ?_
    exact v_drop [true, true, false, false, false] rfl (hk53 1)
def gX12_undo (h : Zh) (a0 : Nat) : Option (Int32 × Zh) :=
  (if ((zI h a0 37) : Int32) = 0 then (some ((-3), h))
  else zlt (zsI h a0 37 ((zI h a0 37) - 1)) (fun (h1 : Zh) => zbV (gX12_takeSnap h1 a0) (fun h2 => (some ((zI h2 a0 37), h2)))))
set_option maxRecDepth 20000 in
theorem cX12_undo_ok (l : Launch) (h : Zh) (a0 : Nat) : Zc l yX12_undo mX12_undo 0 h [(.ref a0, 12)] ((gX12_undo h a0).map zoI) := by
  refine zc_of2 (ls := [some (.ref a0, 12)]) (j := 0) (by decide +kernel) rfl rfl (zEn_ca rfl) (Nat.le_of_ble_eq_true rfl) rfl ?_
  unfold gX12_undo
  refine zr_aload_n (r := (some a0)) (eX12_undo 0 rfl) rfl rfl ?_
  refine zr_getI zf_RX12_348 ⟨by decide, by decide⟩ (eX12_undo 1 rfl) ?_
  refine zr_if_ne (eX12_undo 2 rfl) (t := 10) (by decide) ?_ ?_
  · refine zr_aload_n (r := (some a0)) (eX12_undo 5 rfl) rfl rfl ?_
    refine zr_dup (eX12_undo 6 rfl) rfl ?_
    refine zr_getI zf_RX12_348 ⟨by decide, by decide⟩ (eX12_undo 7 rfl) ?_
    refine zr_iconst (eX12_undo 8 rfl) zk_iconst_1 ?_
    refine zr_isub (eX12_undo 9 rfl) ?_
    refine zr_putI zf_RX12_348 rfl (Or.inl rfl) (eX12_undo 10 rfl) ?_
    refine v_leth (fun h1 => ?_)
    refine zr_aload_n (r := (some a0)) (eX12_undo 11 rfl) rfl rfl ?_
    refine zr_invV_V (as := []) (cX12_takeSnap_ok l h1 a0) rfl rfl ⟨by decide, by decide, by decide⟩ zcd_X12_takeSnap rfl ⟨zw_1541, zw_1543, zw_52, zw_62⟩ ⟨Nat.le_of_ble_eq_true rfl, Nat.le_of_ble_eq_true rfl⟩ rfl (Nat.le_of_ble_eq_true rfl) (eX12_undo 12 rfl) (fun h2 => ?_)
    refine zr_aload_n (r := (some a0)) (eX12_undo 13 rfl) rfl rfl ?_
    refine zr_getI zf_RX12_348 ⟨by decide, by decide⟩ (eX12_undo 14 rfl) ?_
    exact zr_iret rfl rfl (eX12_undo 15 rfl)
  · refine zr_bipush (eX12_undo 3 rfl) zk_bipush_m3 ?_
    exact zr_iret rfl rfl (eX12_undo 4 rfl)
def gX12_redo (h : Zh) (a0 : Nat) : Option (Int32 × Zh) :=
  (if (((zI h a0 37) + 1) : Int32) = (zI h a0 36) then (some ((-3), h))
  else zlt (zsI h a0 37 ((zI h a0 37) + 1)) (fun (h1 : Zh) => zbV (gX12_takeSnap h1 a0) (fun h2 => (some ((zI h2 a0 37), h2)))))
set_option maxRecDepth 20000 in
theorem cX12_redo_ok (l : Launch) (h : Zh) (a0 : Nat) : Zc l yX12_redo mX12_redo 0 h [(.ref a0, 12)] ((gX12_redo h a0).map zoI) := by
  refine zc_of2 (ls := [some (.ref a0, 12)]) (j := 0) (by decide +kernel) rfl rfl (zEn_ca rfl) (Nat.le_of_ble_eq_true rfl) rfl ?_
  unfold gX12_redo
  refine zr_aload_n (r := (some a0)) (eX12_redo 0 rfl) rfl rfl ?_
  refine zr_getI zf_RX12_348 ⟨by decide, by decide⟩ (eX12_redo 1 rfl) ?_
  refine zr_iconst (eX12_redo 2 rfl) zk_iconst_1 ?_
  refine zr_iadd (eX12_redo 3 rfl) ?_
  refine zr_aload_n (r := (some a0)) (eX12_redo 4 rfl) rfl rfl ?_
  refine zr_getI zf_RX12_351 ⟨by decide, by decide⟩ (eX12_redo 5 rfl) ?_
  refine zr_icmp_ne (eX12_redo 6 rfl) (t := 16) (by decide) ?_ ?_
  · refine zr_aload_n (r := (some a0)) (eX12_redo 9 rfl) rfl rfl ?_
    refine zr_dup (eX12_redo 10 rfl) rfl ?_
    refine zr_getI zf_RX12_348 ⟨by decide, by decide⟩ (eX12_redo 11 rfl) ?_
    refine zr_iconst (eX12_redo 12 rfl) zk_iconst_1 ?_
    refine zr_iadd (eX12_redo 13 rfl) ?_
    refine zr_putI zf_RX12_348 rfl (Or.inl rfl) (eX12_redo 14 rfl) ?_
    refine v_leth (fun h1 => ?_)
    refine zr_aload_n (r := (some a0)) (eX12_redo 15 rfl) rfl rfl ?_
    refine zr_invV_V (as := []) (cX12_takeSnap_ok l h1 a0) rfl rfl ⟨by decide, by decide, by decide⟩ zcd_X12_takeSnap rfl ⟨zw_1541, zw_1543, zw_52, zw_62⟩ ⟨Nat.le_of_ble_eq_true rfl, Nat.le_of_ble_eq_true rfl⟩ rfl (Nat.le_of_ble_eq_true rfl) (eX12_redo 16 rfl) (fun h2 => ?_)
    refine zr_aload_n (r := (some a0)) (eX12_redo 17 rfl) rfl rfl ?_
    refine zr_getI zf_RX12_348 ⟨by decide, by decide⟩ (eX12_redo 18 rfl) ?_
    exact zr_iret rfl rfl (eX12_redo 19 rfl)
  · refine zr_bipush (eX12_redo 7 rfl) zk_bipush_m3 ?_
    exact zr_iret rfl rfl (eX12_redo 8 rfl)
def gX12_sheet_J1 (h : Zh) (a0 : Nat) : Option (Int32 × Zh) :=
  zbI (gX12_refused h a0 (-2)) (fun x23 h1 => (some (x23, h1)))
def gX12_sheet_J2 (a0 : Nat) : Zh → Option (Int32 × Zh) :=
  fun (h4 : Zh) => zbI (gX12_refused h4 a0 1) (fun x29 h5 => (some (x29, h5)))
def gX12_sheet_L3 (a0 : Nat) (x1 : Int32) (x3 : Int32) (k30 : Zh → Option (Int32 × Zh)) : (Int32 → Zh → Option (Int32 × Zh)) → Int32 → Zh → Option (Int32 × Zh) :=
  fun (k32 : Int32 → Zh → Option (Int32 × Zh)) (x31 : Int32) (h6 : Zh) => (if (x3 : Int32) ≤ x31 then k30 h6
  else zlt (zR h6 a0 40) (fun r33 => Option.bind r33 (fun a34 => zg (zin ((60 * x1) + x31) (zL h6 a34)) (zlt (zsI h6 a34 (zx ((60 * x1) + x31)) 0) (fun (h7 : Zh) => k32 (x31 + 1) h7)))))
def gX12_sheet (h : Zh) (a0 : Nat) (x1 : Int32) (x2 : Int32) (x3 : Int32) : Option (Int32 × Zh) :=
  zbi (gX12_noSheet x1) (fun x21 => (if (x21 : Int32) = 0 then zbi (gX12_in ((x2 : Int32).toInt64) 0 2) (fun x22 => zjn (gX12_sheet_J1 h a0) (fun (k24 : Option (Int32 × Zh)) =>
  (if (x22 : Int32) = 0 then k24
  else (if (x3 : Int32) ≤ 60 then (if (0 : Int32) ≤ x3 then zlt (zR h a0 38) (fun r25 => Option.bind r25 (fun a26 => zg (zin x1 (zL h a26)) (zlt (zsI h a26 (zx x1) x3) (fun (h2 : Zh) => zlt (zR h2 a0 39) (fun r27 => Option.bind r27 (fun a28 => zg (zin x1 (zL h2 a28)) (zlt (zsI h2 a28 (zx x1) x2) (fun (h3 : Zh) => zjn (gX12_sheet_J2 a0) (fun (k30 : Zh → Option (Int32 × Zh)) =>
  zlp (fun (_ : Int32) (_ : Zh) => (none : Option (Int32 × Zh))) (gX12_sheet_L3 a0 x1 x3 k30) zFU 0 h3)))))))))
  else zbI (gX12_failed h a0 4) (fun x35 h8 => (some (x35, h8))))
  else k24))))
  else zbI (gX12_refused h a0 (-1)) (fun x36 h9 => (some (x36, h9)))))
set_option maxRecDepth 20000 in
theorem cX12_sheet_ok (l : Launch) (h : Zh) (a0 : Nat) (x1 : Int32) (x2 : Int32) (x3 : Int32) : Zc l yX12_sheet mX12_sheet 0 h [(.ref a0, 12), (.int x1, 0), (.int x2, 0), (.int x3, 0)] ((gX12_sheet h a0 x1 x2 x3).map zoI) := by
  refine zc_of2 (ls := [some (.ref a0, 12), some (.int x1, 0), some (.int x2, 0), some (.int x3, 0), none]) (j := 1) (by decide +kernel) rfl rfl (zEn_ca (zEn_ci (zEn_ci (zEn_ci rfl)))) (Nat.le_of_ble_eq_true rfl) rfl ?_
  unfold gX12_sheet
  refine zr_iload_n (eX12_sheet 0 rfl) rfl rfl ?_
  refine zr_invS_i (as := [(.int x1, 0)]) (cX12_noSheet_ok l h x1) rfl zcd_X12_noSheet ⟨zw_1381, zw_1382, zw_62⟩ ⟨Nat.le_of_ble_eq_true rfl, Nat.le_of_ble_eq_true rfl⟩ rfl (Nat.le_of_ble_eq_true rfl) (eX12_sheet 1 rfl) (fun x21 => ?_)
  refine zr_if_eq (eX12_sheet 2 rfl) (t := 13) (by decide) ?_ ?_
  · refine zr_iload_n (eX12_sheet 7 rfl) rfl rfl ?_
    refine zr_i2l (eX12_sheet 8 rfl) ?_
    refine zr_lconst (eX12_sheet 9 rfl) zk_lconst_0 ?_
    refine zr_ldc2 (eX12_sheet 10 rfl) zw_1201 ?_
    refine zr_invS_i (as := [(.long ((x2 : Int32).toInt64), 0), (.long 0, 0), (.long 2, 0)]) (cX12_in_ok l h ((x2 : Int32).toInt64) 0 2) rfl zcd_X12_in ⟨zw_1203, zw_1204, zw_62⟩ ⟨Nat.le_of_ble_eq_true rfl, Nat.le_of_ble_eq_true rfl⟩ rfl (Nat.le_of_ble_eq_true rfl) (eX12_sheet 11 rfl) (fun x22 => ?_)
    refine v_jn (fun (k24 : Option (Int32 × Zh)) => V l mX12_sheet (zN h) (zS h) 0 zoI 31 [some (.ref a0, 12), none, none, none, none] [] h k24) ?_ ?_
    · skip
      unfold gX12_sheet_J1
      refine zr_aload_n (r := (some a0)) (eX12_sheet 16 rfl) rfl rfl ?_
      refine zr_bipush (eX12_sheet 17 rfl) zk_bipush_m2 ?_
      refine zr_invV_I (as := [(.int (-2), 0)]) (cX12_refused_ok l h a0 (-2)) rfl rfl ⟨by decide, by decide, by decide⟩ zcd_X12_refused rfl ⟨zw_1385, zw_1387, zw_33, zw_62⟩ ⟨Nat.le_of_ble_eq_true rfl, Nat.le_of_ble_eq_true rfl⟩ rfl (Nat.le_of_ble_eq_true rfl) (eX12_sheet 18 rfl) (fun x23 h1 => ?_)
      exact zr_iret rfl rfl (eX12_sheet 19 rfl)
    intro k24 hk24
    refine zr_if_eq (eX12_sheet 12 rfl) (t := 31) (by decide) ?_ ?_
    · exact v_drop [true, false, false, false, false] rfl (hk24)
    · refine zr_iload_n (eX12_sheet 13 rfl) rfl rfl ?_
      refine zr_bipush (eX12_sheet 14 rfl) zk_bipush_60 ?_
      refine zr_icmp_le (eX12_sheet 15 rfl) (t := 38) (by decide) ?_ ?_
      · refine zr_iload_n (eX12_sheet 20 rfl) rfl rfl ?_
        refine zr_if_ge (eX12_sheet 21 rfl) (t := 48) (by decide) ?_ ?_
        · refine zr_aload_n (r := (some a0)) (eX12_sheet 26 rfl) rfl rfl ?_
          refine zr_getR2 zf_RX12_99 (τ2 := 20) rfl (eX12_sheet 27 rfl) ?_
          refine v_letr (fun r25 => ?_)
          refine zr_iload_n (eX12_sheet 28 rfl) rfl rfl ?_
          refine zr_iload_n (eX12_sheet 29 rfl) rfl rfl ?_
          refine v_nn (fun a26 ea26 => ?_)
          subst ea26
          refine zr_iast (eX12_sheet 30 rfl) ?_
          refine v_leth (fun h2 => ?_)
          refine zr_aload_n (r := (some a0)) (eX12_sheet 31 rfl) rfl rfl ?_
          refine zr_getR2 zf_RX12_102 (τ2 := 20) rfl (eX12_sheet 32 rfl) ?_
          refine v_letr (fun r27 => ?_)
          refine zr_iload_n (eX12_sheet 33 rfl) rfl rfl ?_
          refine zr_iload_n (eX12_sheet 34 rfl) rfl rfl ?_
          refine v_nn (fun a28 ea28 => ?_)
          subst ea28
          refine zr_iast (eX12_sheet 35 rfl) ?_
          refine v_leth (fun h3 => ?_)
          refine zr_iconst (eX12_sheet 36 rfl) zk_iconst_0 ?_
          refine zr_istore (ls2 := [some (.ref a0, 12), some (.int x1, 0), some (.int x2, 0), some (.int x3, 0), some (.int 0, 0)]) (eX12_sheet 37 rfl) (Nat.le_of_ble_eq_true rfl) rfl ?_
          refine v_jn (fun (k30 : Zh → Option (Int32 × Zh)) => ∀ (h4 : Zh), V l mX12_sheet (zN h) (zS h) 0 zoI 90 [some (.ref a0, 12), none, none, none, none] [] h4 (k30 h4)) ?_ ?_
          · intro h4
            unfold gX12_sheet_J2
            refine zr_aload_n (r := (some a0)) (eX12_sheet 52 rfl) rfl rfl ?_
            refine zr_iconst (eX12_sheet 53 rfl) zk_iconst_1 ?_
            refine zr_invV_I (as := [(.int 1, 0)]) (cX12_refused_ok l h4 a0 1) rfl rfl ⟨by decide, by decide, by decide⟩ zcd_X12_refused rfl ⟨zw_1385, zw_1387, zw_33, zw_62⟩ ⟨Nat.le_of_ble_eq_true rfl, Nat.le_of_ble_eq_true rfl⟩ rfl (Nat.le_of_ble_eq_true rfl) (eX12_sheet 54 rfl) (fun x29 h5 => ?_)
            exact zr_iret rfl rfl (eX12_sheet 55 rfl)
          intro k30 hk30
          refine v_drop [true, true, false, true, true] rfl ?_
          refine zlp_ind (fun (k32 : Int32 → Zh → Option (Int32 × Zh)) => ∀ (x31 : Int32) (h6 : Zh), V l mX12_sheet (zN h) (zS h) 0 zoI 65 [some (.ref a0, 12), some (.int x1, 0), none, some (.int x3, 0), some (.int x31, 0)] [] h6 (k32 x31 h6)) ?_ ?_ 0 h3
          · exact fun _ _ => v_none
          intro k32 hk32 x31 h6
          unfold gX12_sheet_L3
          refine zr_iload (eX12_sheet 38 rfl) rfl ?_
          refine zr_iload_n (eX12_sheet 39 rfl) rfl rfl ?_
          refine zr_icmp_ge (eX12_sheet 40 rfl) (t := 90) (by decide) ?_ ?_
          · exact v_drop [true, false, false, false, false] rfl (hk30 h6)
          · refine zr_aload_n (r := (some a0)) (eX12_sheet 41 rfl) rfl rfl ?_
            refine zr_getR2 zf_RX12_105 (τ2 := 20) rfl (eX12_sheet 42 rfl) ?_
            refine v_letr (fun r33 => ?_)
            refine zr_bipush (eX12_sheet 43 rfl) zk_bipush_60 ?_
            refine zr_iload_n (eX12_sheet 44 rfl) rfl rfl ?_
            refine zr_imul (eX12_sheet 45 rfl) ?_
            refine zr_iload (eX12_sheet 46 rfl) rfl ?_
            refine zr_iadd (eX12_sheet 47 rfl) ?_
            refine zr_iconst (eX12_sheet 48 rfl) zk_iconst_0 ?_
            refine v_nn (fun a34 ea34 => ?_)
            subst ea34
            refine zr_iast (eX12_sheet 49 rfl) ?_
            refine v_leth (fun h7 => ?_)
            refine zr_iinc (ls2 := [some (.ref a0, 12), some (.int x1, 0), none, some (.int x3, 0), some (.int (x31 + 1), 0)]) (eX12_sheet 50 rfl) rfl (Nat.le_of_ble_eq_true rfl) zk_iconst_1 rfl ?_
            refine zr_goto (eX12_sheet 51 rfl) (t := 65) (by decide) ?_
            exact v_drop [true, true, false, true, true] rfl (hk32 (x31 + 1) h7)
        · refine zr_aload_n (r := (some a0)) (eX12_sheet 22 rfl) rfl rfl ?_
          refine zr_iconst (eX12_sheet 23 rfl) zk_iconst_4 ?_
          refine zr_invV_I (as := [(.int 4, 0)]) (cX12_failed_ok l h a0 4) rfl rfl ⟨by decide, by decide, by decide⟩ zcd_X12_failed rfl ⟨zw_1389, zw_1391, zw_34, zw_62⟩ ⟨Nat.le_of_ble_eq_true rfl, Nat.le_of_ble_eq_true rfl⟩ rfl (Nat.le_of_ble_eq_true rfl) (eX12_sheet 24 rfl) (fun x35 h8 => ?_)
          exact zr_iret rfl rfl (eX12_sheet 25 rfl)
      · exact v_drop [true, false, false, false, false] rfl (hk24)
  · refine zr_aload_n (r := (some a0)) (eX12_sheet 3 rfl) rfl rfl ?_
    refine zr_iconst (eX12_sheet 4 rfl) zk_iconst_m1 ?_
    refine zr_invV_I (as := [(.int (-1), 0)]) (cX12_refused_ok l h a0 (-1)) rfl rfl ⟨by decide, by decide, by decide⟩ zcd_X12_refused rfl ⟨zw_1385, zw_1387, zw_33, zw_62⟩ ⟨Nat.le_of_ble_eq_true rfl, Nat.le_of_ble_eq_true rfl⟩ rfl (Nat.le_of_ble_eq_true rfl) (eX12_sheet 5 rfl) (fun x36 h9 => ?_)
    exact zr_iret rfl rfl (eX12_sheet 6 rfl)
def gX12_lose_J1 (h : Zh) (a0 : Nat) (x1 : Int32) : Int32 → Option (Int32 × Zh) :=
  fun (x24 : Int32) => zlt (zR h a0 38) (fun r25 => Option.bind r25 (fun a26 => zg (zin x1 (zL h a26)) (zlt (zsI h a26 (zx x1) (-1)) (fun (h1 : Zh) => (some (x24, h1))))))
def gX12_lose (h : Zh) (a0 : Nat) (x1 : Int32) : Option (Int32 × Zh) :=
  zbi (gX12_noSheet x1) (fun x21 => (if (x21 : Int32) = 0 then zlt (zR h a0 38) (fun r22 => Option.bind r22 (fun a23 => zg (zin x1 (zL h a23)) (zjn (gX12_lose_J1 h a0 x1) (fun (k27 : Int32 → Option (Int32 × Zh)) =>
  (if (0 : Int32) ≤ (zI h a23 (zx x1)) then k27 1
  else k27 0)))))
  else (some ((-1), h))))
set_option maxRecDepth 20000 in
theorem cX12_lose_ok (l : Launch) (h : Zh) (a0 : Nat) (x1 : Int32) : Zc l yX12_lose mX12_lose 0 h [(.ref a0, 12), (.int x1, 0)] ((gX12_lose h a0 x1).map zoI) := by
  refine zc_of2 (ls := [some (.ref a0, 12), some (.int x1, 0), none]) (j := 1) (by decide +kernel) rfl rfl (zEn_ca (zEn_ci rfl)) (Nat.le_of_ble_eq_true rfl) rfl ?_
  unfold gX12_lose
  refine zr_iload_n (eX12_lose 0 rfl) rfl rfl ?_
  refine zr_invS_i (as := [(.int x1, 0)]) (cX12_noSheet_ok l h x1) rfl zcd_X12_noSheet ⟨zw_1381, zw_1382, zw_62⟩ ⟨Nat.le_of_ble_eq_true rfl, Nat.le_of_ble_eq_true rfl⟩ rfl (Nat.le_of_ble_eq_true rfl) (eX12_lose 1 rfl) (fun x21 => ?_)
  refine zr_if_eq (eX12_lose 2 rfl) (t := 9) (by decide) ?_ ?_
  · refine zr_aload_n (r := (some a0)) (eX12_lose 5 rfl) rfl rfl ?_
    refine zr_getR2 zf_RX12_99 (τ2 := 20) rfl (eX12_lose 6 rfl) ?_
    refine v_letr (fun r22 => ?_)
    refine zr_iload_n (eX12_lose 7 rfl) rfl rfl ?_
    refine v_nn (fun a23 ea23 => ?_)
    subst ea23
    refine zr_iald (eX12_lose 8 rfl) ?_
    refine v_jn (fun (k27 : Int32 → Option (Int32 × Zh)) => ∀ (x24 : Int32), V l mX12_lose (zN h) (zS h) 0 zoI 23 [some (.ref a0, 12), some (.int x1, 0), none] [(.int x24, 0)] h (k27 x24)) ?_ ?_
    · intro x24
      unfold gX12_lose_J1
      refine zr_istore_n (ls2 := [some (.ref a0, 12), some (.int x1, 0), some (.int x24, 0)]) (eX12_lose 13 rfl) rfl (Nat.le_of_ble_eq_true rfl) rfl ?_
      refine zr_aload_n (r := (some a0)) (eX12_lose 14 rfl) rfl rfl ?_
      refine zr_getR2 zf_RX12_99 (τ2 := 20) rfl (eX12_lose 15 rfl) ?_
      refine v_letr (fun r25 => ?_)
      refine zr_iload_n (eX12_lose 16 rfl) rfl rfl ?_
      refine zr_iconst (eX12_lose 17 rfl) zk_iconst_m1 ?_
      refine v_nn (fun a26 ea26 => ?_)
      subst ea26
      refine zr_iast (eX12_lose 18 rfl) ?_
      refine v_leth (fun h1 => ?_)
      refine zr_iload_n (eX12_lose 19 rfl) rfl rfl ?_
      exact zr_iret rfl rfl (eX12_lose 20 rfl)
    intro k27 hk27
    refine zr_if_ge (eX12_lose 9 rfl) (t := 22) (by decide) ?_ ?_
    · refine zr_iconst (eX12_lose 12 rfl) zk_iconst_1 ?_
      exact v_drop [true, true, false] rfl (hk27 1)
    · refine zr_iconst (eX12_lose 10 rfl) zk_iconst_0 ?_
      refine zr_goto (eX12_lose 11 rfl) (t := 23) (by decide) ?_
      exact v_drop [true, true, false] rfl (hk27 0)
  · refine zr_iconst (eX12_lose 3 rfl) zk_iconst_m1 ?_
    exact zr_iret rfl rfl (eX12_lose 4 rfl)
def gX12_noCell (h : Zh) (a0 : Nat) (x1 : Int32) (x2 : Int32) : Option (Int32) :=
  zlt (zR h a0 38) (fun r21 => Option.bind r21 (fun a22 => zg (zin x1 (zL h a22)) ((if (0 : Int32) ≤ (zI h a22 (zx x1)) then zlt (zR h a0 38) (fun r23 => Option.bind r23 (fun a24 => zg (zin x1 (zL h a24)) (zbi (gX12_in ((x2 : Int32).toInt64) 0 ((((zI h a24 (zx x1)) : Int32).toInt64) - 1)) (fun x25 => (if (x25 : Int32) = 0 then (some 3)
  else (some 0))))))
  else (some 1)))))
set_option maxRecDepth 20000 in
theorem cX12_noCell_ok (l : Launch) (h : Zh) (a0 : Nat) (x1 : Int32) (x2 : Int32) : Zc l yX12_noCell mX12_noCell 0 h [(.ref a0, 12), (.int x1, 0), (.int x2, 0)] ((gX12_noCell h a0 x1 x2).map (zoi h)) := by
  refine zc_of2 (ls := [some (.ref a0, 12), some (.int x1, 0), some (.int x2, 0)]) (j := 0) (by decide +kernel) rfl rfl (zEn_ca (zEn_ci (zEn_ci rfl))) (Nat.le_of_ble_eq_true rfl) rfl ?_
  unfold gX12_noCell
  refine zr_aload_n (r := (some a0)) (eX12_noCell 0 rfl) rfl rfl ?_
  refine zr_getR2 zf_RX12_99 (τ2 := 20) rfl (eX12_noCell 1 rfl) ?_
  refine v_letr (fun r21 => ?_)
  refine zr_iload_n (eX12_noCell 2 rfl) rfl rfl ?_
  refine v_nn (fun a22 ea22 => ?_)
  subst ea22
  refine zr_iald (eX12_noCell 3 rfl) ?_
  refine zr_if_ge (eX12_noCell 4 rfl) (t := 13) (by decide) ?_ ?_
  · refine zr_iload_n (eX12_noCell 7 rfl) rfl rfl ?_
    refine zr_i2l (eX12_noCell 8 rfl) ?_
    refine zr_lconst (eX12_noCell 9 rfl) zk_lconst_0 ?_
    refine zr_aload_n (r := (some a0)) (eX12_noCell 10 rfl) rfl rfl ?_
    refine zr_getR2 zf_RX12_99 (τ2 := 20) rfl (eX12_noCell 11 rfl) ?_
    refine v_letr (fun r23 => ?_)
    refine zr_iload_n (eX12_noCell 12 rfl) rfl rfl ?_
    refine v_nn (fun a24 ea24 => ?_)
    subst ea24
    refine zr_iald (eX12_noCell 13 rfl) ?_
    refine zr_i2l (eX12_noCell 14 rfl) ?_
    refine zr_lconst (eX12_noCell 15 rfl) zk_lconst_1 ?_
    refine zr_lsub (eX12_noCell 16 rfl) ?_
    refine zr_invS_i (as := [(.long ((x2 : Int32).toInt64), 0), (.long 0, 0), (.long ((((zI h a24 (zx x1)) : Int32).toInt64) - 1), 0)]) (cX12_in_ok l h ((x2 : Int32).toInt64) 0 ((((zI h a24 (zx x1)) : Int32).toInt64) - 1)) rfl zcd_X12_in ⟨zw_1203, zw_1204, zw_62⟩ ⟨Nat.le_of_ble_eq_true rfl, Nat.le_of_ble_eq_true rfl⟩ rfl (Nat.le_of_ble_eq_true rfl) (eX12_noCell 17 rfl) (fun x25 => ?_)
    refine zr_if_eq (eX12_noCell 18 rfl) (t := 35) (by decide) ?_ ?_
    · refine zr_iconst (eX12_noCell 21 rfl) zk_iconst_3 ?_
      exact zr_iret rfl rfl (eX12_noCell 22 rfl)
    · refine zr_iconst (eX12_noCell 19 rfl) zk_iconst_0 ?_
      refine zr_goto (eX12_noCell 20 rfl) (t := 36) (by decide) ?_
      exact zr_iret rfl rfl (eX12_noCell 22 rfl)
  · refine zr_iconst (eX12_noCell 5 rfl) zk_iconst_1 ?_
    refine zr_goto (eX12_noCell 6 rfl) (t := 36) (by decide) ?_
    exact zr_iret rfl rfl (eX12_noCell 22 rfl)
def gX12_put_J1 (h : Zh) (a0 : Nat) (x1 : Int32) (x2 : Int32) (r23 : Option Nat) : Int32 → Option (Int32 × Zh) :=
  fun (x26 : Int32) => Option.bind r23 (fun a27 => zg (zin ((60 * x1) + x2) (zL h a27)) (zlt (zsI h a27 (zx ((60 * x1) + x2)) x26) (fun (h1 : Zh) => zbI (gX12_refused h1 a0 1) (fun x28 h2 => (some (x28, h2))))))
def gX12_put (h : Zh) (a0 : Nat) (x1 : Int32) (x2 : Int32) (x3 : Int32) : Option (Int32 × Zh) :=
  zbi (gX12_noSheet x1) (fun x21 => (if (x21 : Int32) = 0 then zbi (gX12_noCell h a0 x1 x2) (fun x22 => (if (x22 : Int32) ≤ 0 then zlt (zR h a0 40) (fun r23 => zlt (zR h a0 39) (fun r24 => Option.bind r24 (fun a25 => zg (zin x1 (zL h a25)) (zjn (gX12_put_J1 h a0 x1 x2 r23) (fun (k29 : Int32 → Option (Int32 × Zh)) =>
  (if ((zI h a25 (zx x1)) : Int32) = 0 then k29 ((x3 : Int32).toInt8.toInt32)
  else zlt (zR h a0 39) (fun r30 => Option.bind r30 (fun a31 => zg (zin x1 (zL h a31)) ((if ((zI h a31 (zx x1)) : Int32) = 1 then k29 ((x3 : Int32).toInt16.toInt32)
  else k29 x3))))))))))
  else zbi (gX12_noCell h a0 x1 x2) (fun x32 => zbI (gX12_failed h a0 x32) (fun x33 h3 => (some (x33, h3))))))
  else zbI (gX12_refused h a0 (-1)) (fun x34 h4 => (some (x34, h4)))))
set_option maxRecDepth 20000 in
theorem cX12_put_ok (l : Launch) (h : Zh) (a0 : Nat) (x1 : Int32) (x2 : Int32) (x3 : Int32) : Zc l yX12_put mX12_put 0 h [(.ref a0, 12), (.int x1, 0), (.int x2, 0), (.int x3, 0)] ((gX12_put h a0 x1 x2 x3).map zoI) := by
  refine zc_of2 (ls := [some (.ref a0, 12), some (.int x1, 0), some (.int x2, 0), some (.int x3, 0)]) (j := 0) (by decide +kernel) rfl rfl (zEn_ca (zEn_ci (zEn_ci (zEn_ci rfl)))) (Nat.le_of_ble_eq_true rfl) rfl ?_
  unfold gX12_put
  refine zr_iload_n (eX12_put 0 rfl) rfl rfl ?_
  refine zr_invS_i (as := [(.int x1, 0)]) (cX12_noSheet_ok l h x1) rfl zcd_X12_noSheet ⟨zw_1381, zw_1382, zw_62⟩ ⟨Nat.le_of_ble_eq_true rfl, Nat.le_of_ble_eq_true rfl⟩ rfl (Nat.le_of_ble_eq_true rfl) (eX12_put 1 rfl) (fun x21 => ?_)
  refine zr_if_eq (eX12_put 2 rfl) (t := 13) (by decide) ?_ ?_
  · refine zr_aload_n (r := (some a0)) (eX12_put 7 rfl) rfl rfl ?_
    refine zr_iload_n (eX12_put 8 rfl) rfl rfl ?_
    refine zr_iload_n (eX12_put 9 rfl) rfl rfl ?_
    refine zr_invV_i (as := [(.int x1, 0), (.int x2, 0)]) (cX12_noCell_ok l h a0 x1 x2) rfl rfl ⟨by decide, by decide, by decide⟩ zcd_X12_noCell rfl ⟨zw_1561, zw_1563, zw_53, zw_62⟩ ⟨Nat.le_of_ble_eq_true rfl, Nat.le_of_ble_eq_true rfl⟩ rfl (Nat.le_of_ble_eq_true rfl) (eX12_put 10 rfl) (fun x22 => ?_)
    refine zr_if_le (eX12_put 11 rfl) (t := 33) (by decide) ?_ ?_
    · refine zr_aload_n (r := (some a0)) (eX12_put 19 rfl) rfl rfl ?_
      refine zr_getR2 zf_RX12_105 (τ2 := 20) rfl (eX12_put 20 rfl) ?_
      refine v_letr (fun r23 => ?_)
      refine zr_bipush (eX12_put 21 rfl) zk_bipush_60 ?_
      refine zr_iload_n (eX12_put 22 rfl) rfl rfl ?_
      refine zr_imul (eX12_put 23 rfl) ?_
      refine zr_iload_n (eX12_put 24 rfl) rfl rfl ?_
      refine zr_iadd (eX12_put 25 rfl) ?_
      refine zr_aload_n (r := (some a0)) (eX12_put 26 rfl) rfl rfl ?_
      refine zr_getR2 zf_RX12_102 (τ2 := 20) rfl (eX12_put 27 rfl) ?_
      refine v_letr (fun r24 => ?_)
      refine zr_iload_n (eX12_put 28 rfl) rfl rfl ?_
      refine v_nn (fun a25 ea25 => ?_)
      subst ea25
      refine zr_iald (eX12_put 29 rfl) ?_
      refine v_jn (fun (k29 : Int32 → Option (Int32 × Zh)) => ∀ (x26 : Int32), V l mX12_put (zN h) (zS h) 0 zoI 73 [some (.ref a0, 12), none, none, none] [(.int x26, 0), (.int ((60 * x1) + x2), 0), (va_rf r23, 20)] h (k29 x26)) ?_ ?_
      · intro x26
        unfold gX12_put_J1
        refine v_nn (fun a27 ea27 => ?_)
        subst ea27
        refine zr_iast (eX12_put 44 rfl) ?_
        refine v_leth (fun h1 => ?_)
        refine zr_aload_n (r := (some a0)) (eX12_put 45 rfl) rfl rfl ?_
        refine zr_iconst (eX12_put 46 rfl) zk_iconst_1 ?_
        refine zr_invV_I (as := [(.int 1, 0)]) (cX12_refused_ok l h1 a0 1) rfl rfl ⟨by decide, by decide, by decide⟩ zcd_X12_refused rfl ⟨zw_1385, zw_1387, zw_33, zw_62⟩ ⟨Nat.le_of_ble_eq_true rfl, Nat.le_of_ble_eq_true rfl⟩ rfl (Nat.le_of_ble_eq_true rfl) (eX12_put 47 rfl) (fun x28 h2 => ?_)
        exact zr_iret rfl rfl (eX12_put 48 rfl)
      intro k29 hk29
      refine zr_if_ne (eX12_put 30 rfl) (t := 57) (by decide) ?_ ?_
      · refine zr_aload_n (r := (some a0)) (eX12_put 34 rfl) rfl rfl ?_
        refine zr_getR2 zf_RX12_102 (τ2 := 20) rfl (eX12_put 35 rfl) ?_
        refine v_letr (fun r30 => ?_)
        refine zr_iload_n (eX12_put 36 rfl) rfl rfl ?_
        refine v_nn (fun a31 ea31 => ?_)
        subst ea31
        refine zr_iald (eX12_put 37 rfl) ?_
        refine zr_iconst (eX12_put 38 rfl) zk_iconst_1 ?_
        refine zr_icmp_ne (eX12_put 39 rfl) (t := 72) (by decide) ?_ ?_
        · refine zr_iload_n (eX12_put 43 rfl) rfl rfl ?_
          exact v_drop [true, false, false, false] rfl (hk29 x3)
        · refine zr_iload_n (eX12_put 40 rfl) rfl rfl ?_
          refine zr_i2s (eX12_put 41 rfl) ?_
          refine zr_goto (eX12_put 42 rfl) (t := 73) (by decide) ?_
          exact v_drop [true, false, false, false] rfl (hk29 ((x3 : Int32).toInt16.toInt32))
      · refine zr_iload_n (eX12_put 31 rfl) rfl rfl ?_
        refine zr_i2b (eX12_put 32 rfl) ?_
        refine zr_goto (eX12_put 33 rfl) (t := 73) (by decide) ?_
        exact v_drop [true, false, false, false] rfl (hk29 ((x3 : Int32).toInt8.toInt32))
    · refine zr_aload_n (r := (some a0)) (eX12_put 12 rfl) rfl rfl ?_
      refine zr_aload_n (r := (some a0)) (eX12_put 13 rfl) rfl rfl ?_
      refine zr_iload_n (eX12_put 14 rfl) rfl rfl ?_
      refine zr_iload_n (eX12_put 15 rfl) rfl rfl ?_
      refine zr_invV_i (as := [(.int x1, 0), (.int x2, 0)]) (cX12_noCell_ok l h a0 x1 x2) rfl rfl ⟨by decide, by decide, by decide⟩ zcd_X12_noCell rfl ⟨zw_1561, zw_1563, zw_53, zw_62⟩ ⟨Nat.le_of_ble_eq_true rfl, Nat.le_of_ble_eq_true rfl⟩ rfl (Nat.le_of_ble_eq_true rfl) (eX12_put 16 rfl) (fun x32 => ?_)
      refine zr_invV_I (as := [(.int x32, 0)]) (cX12_failed_ok l h a0 x32) rfl rfl ⟨by decide, by decide, by decide⟩ zcd_X12_failed rfl ⟨zw_1389, zw_1391, zw_34, zw_62⟩ ⟨Nat.le_of_ble_eq_true rfl, Nat.le_of_ble_eq_true rfl⟩ rfl (Nat.le_of_ble_eq_true rfl) (eX12_put 17 rfl) (fun x33 h3 => ?_)
      exact zr_iret rfl rfl (eX12_put 18 rfl)
  · refine zr_aload_n (r := (some a0)) (eX12_put 3 rfl) rfl rfl ?_
    refine zr_iconst (eX12_put 4 rfl) zk_iconst_m1 ?_
    refine zr_invV_I (as := [(.int (-1), 0)]) (cX12_refused_ok l h a0 (-1)) rfl rfl ⟨by decide, by decide, by decide⟩ zcd_X12_refused rfl ⟨zw_1385, zw_1387, zw_33, zw_62⟩ ⟨Nat.le_of_ble_eq_true rfl, Nat.le_of_ble_eq_true rfl⟩ rfl (Nat.le_of_ble_eq_true rfl) (eX12_put 5 rfl) (fun x34 h4 => ?_)
    exact zr_iret rfl rfl (eX12_put 6 rfl)
def gX12_cell_J1 (h1 : Zh) : Option (Int64 × Zh) :=
  zbj (gX12_lost ) (fun x22 => (some (x22, h1)))
def gX12_cell_J2 (a0 : Nat) (x1 : Int32) (x2 : Int32) (h1 : Zh) : Option (Int64 × Zh) :=
  zbi (gX12_noCell h1 a0 x1 x2) (fun x27 => (if (x27 : Int32) ≤ 0 then zlt (zR h1 a0 40) (fun r28 => Option.bind r28 (fun a29 => zg (zin ((60 * x1) + x2) (zL h1 a29)) ((some ((((zI h1 a29 (zx ((60 * x1) + x2))) : Int32).toInt64), h1)))))
  else zbi (gX12_noCell h1 a0 x1 x2) (fun x30 => zbJ (gX12_failedLong h1 a0 x30) (fun x31 h2 => (some (x31, h2))))))
def gX12_cell (h : Zh) (a0 : Nat) (x1 : Int32) (x2 : Int32) (x3 : Int32) : Option (Int64 × Zh) :=
  zlt (zsI h a0 0 0) (fun (h1 : Zh) => zbi (gX12_noSheet x1) (fun x21 => zjn (gX12_cell_J1 h1) (fun (k23 : Option (Int64 × Zh)) =>
  (if (x21 : Int32) = 0 then zbi (gX12_in ((x3 : Int32).toInt64) 0 2) (fun x24 => (if (x24 : Int32) = 0 then k23
  else zlt (zR h1 a0 38) (fun r25 => Option.bind r25 (fun a26 => zg (zin x1 (zL h1 a26)) (zjn (gX12_cell_J2 a0 x1 x2 h1) (fun (k32 : Option (Int64 × Zh)) =>
  (if ((zI h1 a26 (zx x1)) : Int32) < 0 then k32
  else zlt (zR h1 a0 39) (fun r33 => Option.bind r33 (fun a34 => zg (zin x1 (zL h1 a34)) ((if ((zI h1 a34 (zx x1)) : Int32) = x3 then k32
  else zbJ (gX12_failedLong h1 a0 2) (fun x35 h3 => (some (x35, h3))))))))))))))
  else k23))))
set_option maxRecDepth 20000 in
theorem cX12_cell_ok (l : Launch) (h : Zh) (a0 : Nat) (x1 : Int32) (x2 : Int32) (x3 : Int32) : Zc l yX12_cell mX12_cell 0 h [(.ref a0, 12), (.int x1, 0), (.int x2, 0), (.int x3, 0)] ((gX12_cell h a0 x1 x2 x3).map zoJ) := by
  refine zc_of2 (ls := [some (.ref a0, 12), some (.int x1, 0), some (.int x2, 0), some (.int x3, 0)]) (j := 0) (by decide +kernel) rfl rfl (zEn_ca (zEn_ci (zEn_ci (zEn_ci rfl)))) (Nat.le_of_ble_eq_true rfl) rfl ?_
  unfold gX12_cell
  refine zr_aload_n (r := (some a0)) (eX12_cell 0 rfl) rfl rfl ?_
  refine zr_iconst (eX12_cell 1 rfl) zk_iconst_0 ?_
  refine zr_putI zf_RX12_134 rfl (Or.inl rfl) (eX12_cell 2 rfl) ?_
  refine v_leth (fun h1 => ?_)
  refine zr_iload_n (eX12_cell 3 rfl) rfl rfl ?_
  refine zr_invS_i (as := [(.int x1, 0)]) (cX12_noSheet_ok l h1 x1) rfl zcd_X12_noSheet ⟨zw_1381, zw_1382, zw_62⟩ ⟨Nat.le_of_ble_eq_true rfl, Nat.le_of_ble_eq_true rfl⟩ rfl (Nat.le_of_ble_eq_true rfl) (eX12_cell 4 rfl) (fun x21 => ?_)
  refine v_jn (fun (k23 : Option (Int64 × Zh)) => V l mX12_cell (zN h) (zS h) 0 zoJ 24 [none, none, none, none] [] h1 k23) ?_ ?_
  · skip
    unfold gX12_cell_J1
    refine zr_invS_j (as := []) (cX12_lost_ok l h1 ) rfl zcd_X12_lost ⟨zw_1224, zw_1225, zw_62⟩ ⟨Nat.le_of_ble_eq_true rfl, Nat.le_of_ble_eq_true rfl⟩ rfl (Nat.le_of_ble_eq_true rfl) (eX12_cell 12 rfl) (fun x22 => ?_)
    exact zr_lret rfl rfl (eX12_cell 13 rfl)
  intro k23 hk23
  refine zr_if_ne (eX12_cell 5 rfl) (t := 24) (by decide) ?_ ?_
  · exact v_drop [false, false, false, false] rfl (hk23)
  · refine zr_iload_n (eX12_cell 6 rfl) rfl rfl ?_
    refine zr_i2l (eX12_cell 7 rfl) ?_
    refine zr_lconst (eX12_cell 8 rfl) zk_lconst_0 ?_
    refine zr_ldc2 (eX12_cell 9 rfl) zw_1201 ?_
    refine zr_invS_i (as := [(.long ((x3 : Int32).toInt64), 0), (.long 0, 0), (.long 2, 0)]) (cX12_in_ok l h1 ((x3 : Int32).toInt64) 0 2) rfl zcd_X12_in ⟨zw_1203, zw_1204, zw_62⟩ ⟨Nat.le_of_ble_eq_true rfl, Nat.le_of_ble_eq_true rfl⟩ rfl (Nat.le_of_ble_eq_true rfl) (eX12_cell 10 rfl) (fun x24 => ?_)
    refine zr_if_ne (eX12_cell 11 rfl) (t := 28) (by decide) ?_ ?_
    · refine zr_aload_n (r := (some a0)) (eX12_cell 14 rfl) rfl rfl ?_
      refine zr_getR2 zf_RX12_99 (τ2 := 20) rfl (eX12_cell 15 rfl) ?_
      refine v_letr (fun r25 => ?_)
      refine zr_iload_n (eX12_cell 16 rfl) rfl rfl ?_
      refine v_nn (fun a26 ea26 => ?_)
      subst ea26
      refine zr_iald (eX12_cell 17 rfl) ?_
      refine v_jn (fun (k32 : Option (Int64 × Zh)) => V l mX12_cell (zN h) (zS h) 0 zoJ 53 [some (.ref a0, 12), some (.int x1, 0), some (.int x2, 0), none] [] h1 k32) ?_ ?_
      · skip
        unfold gX12_cell_J2
        refine zr_aload_n (r := (some a0)) (eX12_cell 29 rfl) rfl rfl ?_
        refine zr_iload_n (eX12_cell 30 rfl) rfl rfl ?_
        refine zr_iload_n (eX12_cell 31 rfl) rfl rfl ?_
        refine zr_invV_i (as := [(.int x1, 0), (.int x2, 0)]) (cX12_noCell_ok l h1 a0 x1 x2) rfl rfl ⟨by decide, by decide, by decide⟩ zcd_X12_noCell rfl ⟨zw_1561, zw_1563, zw_53, zw_62⟩ ⟨Nat.le_of_ble_eq_true rfl, Nat.le_of_ble_eq_true rfl⟩ rfl (Nat.le_of_ble_eq_true rfl) (eX12_cell 32 rfl) (fun x27 => ?_)
        refine zr_if_le (eX12_cell 33 rfl) (t := 75) (by decide) ?_ ?_
        · refine zr_aload_n (r := (some a0)) (eX12_cell 41 rfl) rfl rfl ?_
          refine zr_getR2 zf_RX12_105 (τ2 := 20) rfl (eX12_cell 42 rfl) ?_
          refine v_letr (fun r28 => ?_)
          refine zr_bipush (eX12_cell 43 rfl) zk_bipush_60 ?_
          refine zr_iload_n (eX12_cell 44 rfl) rfl rfl ?_
          refine zr_imul (eX12_cell 45 rfl) ?_
          refine zr_iload_n (eX12_cell 46 rfl) rfl rfl ?_
          refine zr_iadd (eX12_cell 47 rfl) ?_
          refine v_nn (fun a29 ea29 => ?_)
          subst ea29
          refine zr_iald (eX12_cell 48 rfl) ?_
          refine zr_i2l (eX12_cell 49 rfl) ?_
          exact zr_lret rfl rfl (eX12_cell 50 rfl)
        · refine zr_aload_n (r := (some a0)) (eX12_cell 34 rfl) rfl rfl ?_
          refine zr_aload_n (r := (some a0)) (eX12_cell 35 rfl) rfl rfl ?_
          refine zr_iload_n (eX12_cell 36 rfl) rfl rfl ?_
          refine zr_iload_n (eX12_cell 37 rfl) rfl rfl ?_
          refine zr_invV_i (as := [(.int x1, 0), (.int x2, 0)]) (cX12_noCell_ok l h1 a0 x1 x2) rfl rfl ⟨by decide, by decide, by decide⟩ zcd_X12_noCell rfl ⟨zw_1561, zw_1563, zw_53, zw_62⟩ ⟨Nat.le_of_ble_eq_true rfl, Nat.le_of_ble_eq_true rfl⟩ rfl (Nat.le_of_ble_eq_true rfl) (eX12_cell 38 rfl) (fun x30 => ?_)
          refine zr_invV_J (as := [(.int x30, 0)]) (cX12_failedLong_ok l h1 a0 x30) rfl rfl ⟨by decide, by decide, by decide⟩ zcd_X12_failedLong rfl ⟨zw_1569, zw_1571, zw_54, zw_62⟩ ⟨Nat.le_of_ble_eq_true rfl, Nat.le_of_ble_eq_true rfl⟩ rfl (Nat.le_of_ble_eq_true rfl) (eX12_cell 39 rfl) (fun x31 h2 => ?_)
          refine zr_goto (eX12_cell 40 rfl) (t := 87) (by decide) ?_
          exact zr_lret rfl rfl (eX12_cell 50 rfl)
      intro k32 hk32
      refine zr_if_lt (eX12_cell 18 rfl) (t := 53) (by decide) ?_ ?_
      · exact v_drop [true, true, true, false] rfl (hk32)
      · refine zr_aload_n (r := (some a0)) (eX12_cell 19 rfl) rfl rfl ?_
        refine zr_getR2 zf_RX12_102 (τ2 := 20) rfl (eX12_cell 20 rfl) ?_
        refine v_letr (fun r33 => ?_)
        refine zr_iload_n (eX12_cell 21 rfl) rfl rfl ?_
        refine v_nn (fun a34 ea34 => ?_)
        subst ea34
        refine zr_iald (eX12_cell 22 rfl) ?_
        refine zr_iload_n (eX12_cell 23 rfl) rfl rfl ?_
        refine zr_icmp_eq (eX12_cell 24 rfl) (t := 53) (by decide) ?_ ?_
        · exact v_drop [true, true, true, false] rfl (hk32)
        · refine zr_aload_n (r := (some a0)) (eX12_cell 25 rfl) rfl rfl ?_
          refine zr_iconst (eX12_cell 26 rfl) zk_iconst_2 ?_
          refine zr_invV_J (as := [(.int 2, 0)]) (cX12_failedLong_ok l h1 a0 2) rfl rfl ⟨by decide, by decide, by decide⟩ zcd_X12_failedLong rfl ⟨zw_1569, zw_1571, zw_54, zw_62⟩ ⟨Nat.le_of_ble_eq_true rfl, Nat.le_of_ble_eq_true rfl⟩ rfl (Nat.le_of_ble_eq_true rfl) (eX12_cell 27 rfl) (fun x35 h3 => ?_)
          exact zr_lret rfl rfl (eX12_cell 28 rfl)
    · exact v_drop [false, false, false, false] rfl (hk23)
def gX12_copy_J1 (h : Zh) (a0 : Nat) : Option (Int32 × Zh) :=
  zbI (gX12_refused h a0 (-1)) (fun x22 h1 => (some (x22, h1)))
def gX12_copy_J2 (h : Zh) (a0 : Nat) : Option (Int32 × Zh) :=
  zbI (gX12_failed h a0 1) (fun x27 h2 => (some (x27, h2)))
def gX12_copy_J3 (h : Zh) (a0 : Nat) : Option (Int32 × Zh) :=
  zbI (gX12_failed h a0 3) (fun x38 h3 => (some (x38, h3)))
def gX12_copy_J4 (a0 : Nat) (x5 : Int32) : Zh → Option (Int32 × Zh) :=
  fun (h5 : Zh) => zbI (gX12_refused h5 a0 x5) (fun x43 h6 => (some (x43, h6)))
def gX12_copy_L5 (a0 : Nat) (x3 : Int32) (x4 : Int32) (x5 : Int32) (k44 : Zh → Option (Int32 × Zh)) : (Int32 → Zh → Option (Int32 × Zh)) → Int32 → Zh → Option (Int32 × Zh) :=
  fun (k46 : Int32 → Zh → Option (Int32 × Zh)) (x45 : Int32) (h7 : Zh) => (if (x5 : Int32) ≤ x45 then k44 h7
  else zlt (zR h7 a0 40) (fun r47 => zlt (zR h7 a0 41) (fun r48 => Option.bind r48 (fun a49 => zg (zin x45 (zL h7 a49)) (Option.bind r47 (fun a50 => zg (zin (((60 * x3) + x4) + x45) (zL h7 a50)) (zlt (zsI h7 a50 (zx (((60 * x3) + x4) + x45)) (zI h7 a49 (zx x45))) (fun (h8 : Zh) => k46 (x45 + 1) h8))))))))
def gX12_copy_J6 (a0 : Nat) (x3 : Int32) (x4 : Int32) (x5 : Int32) : Zh → Option (Int32 × Zh) :=
  fun (h4 : Zh) => zjn (gX12_copy_J4 a0 x5) (fun (k44 : Zh → Option (Int32 × Zh)) =>
  zlp (fun (_ : Int32) (_ : Zh) => (none : Option (Int32 × Zh))) (gX12_copy_L5 a0 x3 x4 x5 k44) zFU 0 h4)
def gX12_copy_L7 (a0 : Nat) (x1 : Int32) (x2 : Int32) (x5 : Int32) (k51 : Zh → Option (Int32 × Zh)) : (Int32 → Zh → Option (Int32 × Zh)) → Int32 → Zh → Option (Int32 × Zh) :=
  fun (k53 : Int32 → Zh → Option (Int32 × Zh)) (x52 : Int32) (h9 : Zh) => (if (x5 : Int32) ≤ x52 then k51 h9
  else zlt (zR h9 a0 41) (fun r54 => zlt (zR h9 a0 40) (fun r55 => Option.bind r55 (fun a56 => zg (zin (((60 * x1) + x2) + x52) (zL h9 a56)) (Option.bind r54 (fun a57 => zg (zin x52 (zL h9 a57)) (zlt (zsI h9 a57 (zx x52) (zI h9 a56 (zx (((60 * x1) + x2) + x52)))) (fun (h10 : Zh) => k53 (x52 + 1) h10))))))))
def gX12_copy (h : Zh) (a0 : Nat) (x1 : Int32) (x2 : Int32) (x3 : Int32) (x4 : Int32) (x5 : Int32) : Option (Int32 × Zh) :=
  zbi (gX12_noSheet x1) (fun x21 => zjn (gX12_copy_J1 h a0) (fun (k23 : Option (Int32 × Zh)) =>
  (if (x21 : Int32) = 0 then zbi (gX12_noSheet x3) (fun x24 => (if (x24 : Int32) = 0 then zlt (zR h a0 38) (fun r25 => Option.bind r25 (fun a26 => zg (zin x1 (zL h a26)) (zjn (gX12_copy_J2 h a0) (fun (k28 : Option (Int32 × Zh)) =>
  (if ((zI h a26 (zx x1)) : Int32) < 0 then k28
  else zlt (zR h a0 38) (fun r29 => Option.bind r29 (fun a30 => zg (zin x3 (zL h a30)) ((if (0 : Int32) ≤ (zI h a30 (zx x3)) then zlt (zR h a0 39) (fun r31 => Option.bind r31 (fun a32 => zg (zin x1 (zL h a32)) (zlt (zR h a0 39) (fun r33 => Option.bind r33 (fun a34 => zg (zin x3 (zL h a34)) ((if ((zI h a32 (zx x1)) : Int32) = (zI h a34 (zx x3)) then zlt (zR h a0 38) (fun r35 => Option.bind r35 (fun a36 => zg (zin x1 (zL h a36)) (zbi (gX12_isBeyond x2 ((x5 : Int32).toInt64) (zI h a36 (zx x1))) (fun x37 => zjn (gX12_copy_J3 h a0) (fun (k39 : Option (Int32 × Zh)) =>
  (if (x37 : Int32) = 0 then zlt (zR h a0 38) (fun r40 => Option.bind r40 (fun a41 => zg (zin x3 (zL h a41)) (zbi (gX12_isBeyond x4 ((x5 : Int32).toInt64) (zI h a41 (zx x3))) (fun x42 => (if (x42 : Int32) = 0 then zjn (gX12_copy_J6 a0 x3 x4 x5) (fun (k51 : Zh → Option (Int32 × Zh)) =>
  zlp (fun (_ : Int32) (_ : Zh) => (none : Option (Int32 × Zh))) (gX12_copy_L7 a0 x1 x2 x5 k51) zFU 0 h)
  else k39)))))
  else k39))))))
  else zbI (gX12_failed h a0 2) (fun x58 h11 => (some (x58, h11))))))))))
  else k28)))))))))
  else k23))
  else k23)))
set_option maxRecDepth 20000 in
theorem cX12_copy_ok (l : Launch) (h : Zh) (a0 : Nat) (x1 : Int32) (x2 : Int32) (x3 : Int32) (x4 : Int32) (x5 : Int32) : Zc l yX12_copy mX12_copy 0 h [(.ref a0, 12), (.int x1, 0), (.int x2, 0), (.int x3, 0), (.int x4, 0), (.int x5, 0)] ((gX12_copy h a0 x1 x2 x3 x4 x5).map zoI) := by
  refine zc_of2 (ls := [some (.ref a0, 12), some (.int x1, 0), some (.int x2, 0), some (.int x3, 0), some (.int x4, 0), some (.int x5, 0), none]) (j := 1) (by decide +kernel) rfl rfl (zEn_ca (zEn_ci (zEn_ci (zEn_ci (zEn_ci (zEn_ci rfl)))))) (Nat.le_of_ble_eq_true rfl) rfl ?_
  unfold gX12_copy
  refine zr_iload_n (eX12_copy 0 rfl) rfl rfl ?_
  refine zr_invS_i (as := [(.int x1, 0)]) (cX12_noSheet_ok l h x1) rfl zcd_X12_noSheet ⟨zw_1381, zw_1382, zw_62⟩ ⟨Nat.le_of_ble_eq_true rfl, Nat.le_of_ble_eq_true rfl⟩ rfl (Nat.le_of_ble_eq_true rfl) (eX12_copy 1 rfl) (fun x21 => ?_)
  refine v_jn (fun (k23 : Option (Int32 × Zh)) => V l mX12_copy (zN h) (zS h) 0 zoI 14 [some (.ref a0, 12), none, none, none, none, none, none] [] h k23) ?_ ?_
  · skip
    unfold gX12_copy_J1
    refine zr_aload_n (r := (some a0)) (eX12_copy 6 rfl) rfl rfl ?_
    refine zr_iconst (eX12_copy 7 rfl) zk_iconst_m1 ?_
    refine zr_invV_I (as := [(.int (-1), 0)]) (cX12_refused_ok l h a0 (-1)) rfl rfl ⟨by decide, by decide, by decide⟩ zcd_X12_refused rfl ⟨zw_1385, zw_1387, zw_33, zw_62⟩ ⟨Nat.le_of_ble_eq_true rfl, Nat.le_of_ble_eq_true rfl⟩ rfl (Nat.le_of_ble_eq_true rfl) (eX12_copy 8 rfl) (fun x22 h1 => ?_)
    exact zr_iret rfl rfl (eX12_copy 9 rfl)
  intro k23 hk23
  refine zr_if_ne (eX12_copy 2 rfl) (t := 14) (by decide) ?_ ?_
  · exact v_drop [true, false, false, false, false, false, false] rfl (hk23)
  · refine zr_iload_n (eX12_copy 3 rfl) rfl rfl ?_
    refine zr_invS_i (as := [(.int x3, 0)]) (cX12_noSheet_ok l h x3) rfl zcd_X12_noSheet ⟨zw_1381, zw_1382, zw_62⟩ ⟨Nat.le_of_ble_eq_true rfl, Nat.le_of_ble_eq_true rfl⟩ rfl (Nat.le_of_ble_eq_true rfl) (eX12_copy 4 rfl) (fun x24 => ?_)
    refine zr_if_eq (eX12_copy 5 rfl) (t := 20) (by decide) ?_ ?_
    · refine zr_aload_n (r := (some a0)) (eX12_copy 10 rfl) rfl rfl ?_
      refine zr_getR2 zf_RX12_99 (τ2 := 20) rfl (eX12_copy 11 rfl) ?_
      refine v_letr (fun r25 => ?_)
      refine zr_iload_n (eX12_copy 12 rfl) rfl rfl ?_
      refine v_nn (fun a26 ea26 => ?_)
      subst ea26
      refine zr_iald (eX12_copy 13 rfl) ?_
      refine v_jn (fun (k28 : Option (Int32 × Zh)) => V l mX12_copy (zN h) (zS h) 0 zoI 38 [some (.ref a0, 12), none, none, none, none, none, none] [] h k28) ?_ ?_
      · skip
        unfold gX12_copy_J2
        refine zr_aload_n (r := (some a0)) (eX12_copy 20 rfl) rfl rfl ?_
        refine zr_iconst (eX12_copy 21 rfl) zk_iconst_1 ?_
        refine zr_invV_I (as := [(.int 1, 0)]) (cX12_failed_ok l h a0 1) rfl rfl ⟨by decide, by decide, by decide⟩ zcd_X12_failed rfl ⟨zw_1389, zw_1391, zw_34, zw_62⟩ ⟨Nat.le_of_ble_eq_true rfl, Nat.le_of_ble_eq_true rfl⟩ rfl (Nat.le_of_ble_eq_true rfl) (eX12_copy 22 rfl) (fun x27 h2 => ?_)
        exact zr_iret rfl rfl (eX12_copy 23 rfl)
      intro k28 hk28
      refine zr_if_lt (eX12_copy 14 rfl) (t := 38) (by decide) ?_ ?_
      · exact v_drop [true, false, false, false, false, false, false] rfl (hk28)
      · refine zr_aload_n (r := (some a0)) (eX12_copy 15 rfl) rfl rfl ?_
        refine zr_getR2 zf_RX12_99 (τ2 := 20) rfl (eX12_copy 16 rfl) ?_
        refine v_letr (fun r29 => ?_)
        refine zr_iload_n (eX12_copy 17 rfl) rfl rfl ?_
        refine v_nn (fun a30 ea30 => ?_)
        subst ea30
        refine zr_iald (eX12_copy 18 rfl) ?_
        refine zr_if_ge (eX12_copy 19 rfl) (t := 44) (by decide) ?_ ?_
        · refine zr_aload_n (r := (some a0)) (eX12_copy 24 rfl) rfl rfl ?_
          refine zr_getR2 zf_RX12_102 (τ2 := 20) rfl (eX12_copy 25 rfl) ?_
          refine v_letr (fun r31 => ?_)
          refine zr_iload_n (eX12_copy 26 rfl) rfl rfl ?_
          refine v_nn (fun a32 ea32 => ?_)
          subst ea32
          refine zr_iald (eX12_copy 27 rfl) ?_
          refine zr_aload_n (r := (some a0)) (eX12_copy 28 rfl) rfl rfl ?_
          refine zr_getR2 zf_RX12_102 (τ2 := 20) rfl (eX12_copy 29 rfl) ?_
          refine v_letr (fun r33 => ?_)
          refine zr_iload_n (eX12_copy 30 rfl) rfl rfl ?_
          refine v_nn (fun a34 ea34 => ?_)
          subst ea34
          refine zr_iald (eX12_copy 31 rfl) ?_
          refine zr_icmp_eq (eX12_copy 32 rfl) (t := 65) (by decide) ?_ ?_
          · refine zr_iload_n (eX12_copy 37 rfl) rfl rfl ?_
            refine zr_iload (eX12_copy 38 rfl) rfl ?_
            refine zr_i2l (eX12_copy 39 rfl) ?_
            refine zr_aload_n (r := (some a0)) (eX12_copy 40 rfl) rfl rfl ?_
            refine zr_getR2 zf_RX12_99 (τ2 := 20) rfl (eX12_copy 41 rfl) ?_
            refine v_letr (fun r35 => ?_)
            refine zr_iload_n (eX12_copy 42 rfl) rfl rfl ?_
            refine v_nn (fun a36 ea36 => ?_)
            subst ea36
            refine zr_iald (eX12_copy 43 rfl) ?_
            refine zr_invS_i (as := [(.int x2, 0), (.long ((x5 : Int32).toInt64), 0), (.int (zI h a36 (zx x1)), 0)]) (cX12_isBeyond_ok l h x2 ((x5 : Int32).toInt64) (zI h a36 (zx x1))) rfl zcd_X12_isBeyond ⟨zw_1393, zw_1394, zw_62⟩ ⟨Nat.le_of_ble_eq_true rfl, Nat.le_of_ble_eq_true rfl⟩ rfl (Nat.le_of_ble_eq_true rfl) (eX12_copy 44 rfl) (fun x37 => ?_)
            refine v_jn (fun (k39 : Option (Int32 × Zh)) => V l mX12_copy (zN h) (zS h) 0 zoI 98 [some (.ref a0, 12), none, none, none, none, none, none] [] h k39) ?_ ?_
            · skip
              unfold gX12_copy_J3
              refine zr_aload_n (r := (some a0)) (eX12_copy 55 rfl) rfl rfl ?_
              refine zr_iconst (eX12_copy 56 rfl) zk_iconst_3 ?_
              refine zr_invV_I (as := [(.int 3, 0)]) (cX12_failed_ok l h a0 3) rfl rfl ⟨by decide, by decide, by decide⟩ zcd_X12_failed rfl ⟨zw_1389, zw_1391, zw_34, zw_62⟩ ⟨Nat.le_of_ble_eq_true rfl, Nat.le_of_ble_eq_true rfl⟩ rfl (Nat.le_of_ble_eq_true rfl) (eX12_copy 57 rfl) (fun x38 h3 => ?_)
              exact zr_iret rfl rfl (eX12_copy 58 rfl)
            intro k39 hk39
            refine zr_if_ne (eX12_copy 45 rfl) (t := 98) (by decide) ?_ ?_
            · exact v_drop [true, false, false, false, false, false, false] rfl (hk39)
            · refine zr_iload (eX12_copy 46 rfl) rfl ?_
              refine zr_iload (eX12_copy 47 rfl) rfl ?_
              refine zr_i2l (eX12_copy 48 rfl) ?_
              refine zr_aload_n (r := (some a0)) (eX12_copy 49 rfl) rfl rfl ?_
              refine zr_getR2 zf_RX12_99 (τ2 := 20) rfl (eX12_copy 50 rfl) ?_
              refine v_letr (fun r40 => ?_)
              refine zr_iload_n (eX12_copy 51 rfl) rfl rfl ?_
              refine v_nn (fun a41 ea41 => ?_)
              subst ea41
              refine zr_iald (eX12_copy 52 rfl) ?_
              refine zr_invS_i (as := [(.int x4, 0), (.long ((x5 : Int32).toInt64), 0), (.int (zI h a41 (zx x3)), 0)]) (cX12_isBeyond_ok l h x4 ((x5 : Int32).toInt64) (zI h a41 (zx x3))) rfl zcd_X12_isBeyond ⟨zw_1393, zw_1394, zw_62⟩ ⟨Nat.le_of_ble_eq_true rfl, Nat.le_of_ble_eq_true rfl⟩ rfl (Nat.le_of_ble_eq_true rfl) (eX12_copy 53 rfl) (fun x42 => ?_)
              refine zr_if_eq (eX12_copy 54 rfl) (t := 104) (by decide) ?_ ?_
              · refine zr_iconst (eX12_copy 59 rfl) zk_iconst_0 ?_
                refine zr_istore (ls2 := [some (.ref a0, 12), some (.int x1, 0), some (.int x2, 0), some (.int x3, 0), some (.int x4, 0), some (.int x5, 0), some (.int 0, 0)]) (eX12_copy 60 rfl) (Nat.le_of_ble_eq_true rfl) rfl ?_
                refine v_jn (fun (k51 : Zh → Option (Int32 × Zh)) => ∀ (h4 : Zh), V l mX12_copy (zN h) (zS h) 0 zoI 141 [some (.ref a0, 12), none, none, some (.int x3, 0), some (.int x4, 0), some (.int x5, 0), none] [] h4 (k51 h4)) ?_ ?_
                · intro h4
                  unfold gX12_copy_J6
                  refine zr_iconst (eX12_copy 80 rfl) zk_iconst_0 ?_
                  refine zr_istore (ls2 := [some (.ref a0, 12), none, none, some (.int x3, 0), some (.int x4, 0), some (.int x5, 0), some (.int 0, 0)]) (eX12_copy 81 rfl) (Nat.le_of_ble_eq_true rfl) rfl ?_
                  refine v_jn (fun (k44 : Zh → Option (Int32 × Zh)) => ∀ (h5 : Zh), V l mX12_copy (zN h) (zS h) 0 zoI 179 [some (.ref a0, 12), none, none, none, none, some (.int x5, 0), none] [] h5 (k44 h5)) ?_ ?_
                  · intro h5
                    unfold gX12_copy_J4
                    refine zr_aload_n (r := (some a0)) (eX12_copy 101 rfl) rfl rfl ?_
                    refine zr_iload (eX12_copy 102 rfl) rfl ?_
                    refine zr_invV_I (as := [(.int x5, 0)]) (cX12_refused_ok l h5 a0 x5) rfl rfl ⟨by decide, by decide, by decide⟩ zcd_X12_refused rfl ⟨zw_1385, zw_1387, zw_33, zw_62⟩ ⟨Nat.le_of_ble_eq_true rfl, Nat.le_of_ble_eq_true rfl⟩ rfl (Nat.le_of_ble_eq_true rfl) (eX12_copy 103 rfl) (fun x43 h6 => ?_)
                    exact zr_iret rfl rfl (eX12_copy 104 rfl)
                  intro k44 hk44
                  refine v_drop [true, false, false, true, true, true, true] rfl ?_
                  refine zlp_ind (fun (k46 : Int32 → Zh → Option (Int32 × Zh)) => ∀ (x45 : Int32) (h7 : Zh), V l mX12_copy (zN h) (zS h) 0 zoI 144 [some (.ref a0, 12), none, none, some (.int x3, 0), some (.int x4, 0), some (.int x5, 0), some (.int x45, 0)] [] h7 (k46 x45 h7)) ?_ ?_ 0 h4
                  · exact fun _ _ => v_none
                  intro k46 hk46 x45 h7
                  unfold gX12_copy_L5
                  refine zr_iload (eX12_copy 82 rfl) rfl ?_
                  refine zr_iload (eX12_copy 83 rfl) rfl ?_
                  refine zr_icmp_ge (eX12_copy 84 rfl) (t := 179) (by decide) ?_ ?_
                  · exact v_drop [true, false, false, false, false, true, false] rfl (hk44 h7)
                  · refine zr_aload_n (r := (some a0)) (eX12_copy 85 rfl) rfl rfl ?_
                    refine zr_getR2 zf_RX12_105 (τ2 := 20) rfl (eX12_copy 86 rfl) ?_
                    refine v_letr (fun r47 => ?_)
                    refine zr_bipush (eX12_copy 87 rfl) zk_bipush_60 ?_
                    refine zr_iload_n (eX12_copy 88 rfl) rfl rfl ?_
                    refine zr_imul (eX12_copy 89 rfl) ?_
                    refine zr_iload (eX12_copy 90 rfl) rfl ?_
                    refine zr_iadd (eX12_copy 91 rfl) ?_
                    refine zr_iload (eX12_copy 92 rfl) rfl ?_
                    refine zr_iadd (eX12_copy 93 rfl) ?_
                    refine zr_aload_n (r := (some a0)) (eX12_copy 94 rfl) rfl rfl ?_
                    refine zr_getR2 zf_RX12_108 (τ2 := 20) rfl (eX12_copy 95 rfl) ?_
                    refine v_letr (fun r48 => ?_)
                    refine zr_iload (eX12_copy 96 rfl) rfl ?_
                    refine v_nn (fun a49 ea49 => ?_)
                    subst ea49
                    refine zr_iald (eX12_copy 97 rfl) ?_
                    refine v_nn (fun a50 ea50 => ?_)
                    subst ea50
                    refine zr_iast (eX12_copy 98 rfl) ?_
                    refine v_leth (fun h8 => ?_)
                    refine zr_iinc (ls2 := [some (.ref a0, 12), none, none, some (.int x3, 0), some (.int x4, 0), some (.int x5, 0), some (.int (x45 + 1), 0)]) (eX12_copy 99 rfl) rfl (Nat.le_of_ble_eq_true rfl) zk_iconst_1 rfl ?_
                    refine zr_goto (eX12_copy 100 rfl) (t := 144) (by decide) ?_
                    exact v_drop [true, false, false, true, true, true, true] rfl (hk46 (x45 + 1) h8)
                intro k51 hk51
                refine v_drop [true, true, true, true, true, true, true] rfl ?_
                refine zlp_ind (fun (k53 : Int32 → Zh → Option (Int32 × Zh)) => ∀ (x52 : Int32) (h9 : Zh), V l mX12_copy (zN h) (zS h) 0 zoI 107 [some (.ref a0, 12), some (.int x1, 0), some (.int x2, 0), some (.int x3, 0), some (.int x4, 0), some (.int x5, 0), some (.int x52, 0)] [] h9 (k53 x52 h9)) ?_ ?_ 0 h
                · exact fun _ _ => v_none
                intro k53 hk53 x52 h9
                unfold gX12_copy_L7
                refine zr_iload (eX12_copy 61 rfl) rfl ?_
                refine zr_iload (eX12_copy 62 rfl) rfl ?_
                refine zr_icmp_ge (eX12_copy 63 rfl) (t := 141) (by decide) ?_ ?_
                · exact v_drop [true, false, false, true, true, true, false] rfl (hk51 h9)
                · refine zr_aload_n (r := (some a0)) (eX12_copy 64 rfl) rfl rfl ?_
                  refine zr_getR2 zf_RX12_108 (τ2 := 20) rfl (eX12_copy 65 rfl) ?_
                  refine v_letr (fun r54 => ?_)
                  refine zr_iload (eX12_copy 66 rfl) rfl ?_
                  refine zr_aload_n (r := (some a0)) (eX12_copy 67 rfl) rfl rfl ?_
                  refine zr_getR2 zf_RX12_105 (τ2 := 20) rfl (eX12_copy 68 rfl) ?_
                  refine v_letr (fun r55 => ?_)
                  refine zr_bipush (eX12_copy 69 rfl) zk_bipush_60 ?_
                  refine zr_iload_n (eX12_copy 70 rfl) rfl rfl ?_
                  refine zr_imul (eX12_copy 71 rfl) ?_
                  refine zr_iload_n (eX12_copy 72 rfl) rfl rfl ?_
                  refine zr_iadd (eX12_copy 73 rfl) ?_
                  refine zr_iload (eX12_copy 74 rfl) rfl ?_
                  refine zr_iadd (eX12_copy 75 rfl) ?_
                  refine v_nn (fun a56 ea56 => ?_)
                  subst ea56
                  refine zr_iald (eX12_copy 76 rfl) ?_
                  refine v_nn (fun a57 ea57 => ?_)
                  subst ea57
                  refine zr_iast (eX12_copy 77 rfl) ?_
                  refine v_leth (fun h10 => ?_)
                  refine zr_iinc (ls2 := [some (.ref a0, 12), some (.int x1, 0), some (.int x2, 0), some (.int x3, 0), some (.int x4, 0), some (.int x5, 0), some (.int (x52 + 1), 0)]) (eX12_copy 78 rfl) rfl (Nat.le_of_ble_eq_true rfl) zk_iconst_1 rfl ?_
                  refine zr_goto (eX12_copy 79 rfl) (t := 107) (by decide) ?_
                  exact v_drop [true, true, true, true, true, true, true] rfl (hk53 (x52 + 1) h10)
              · exact v_drop [true, false, false, false, false, false, false] rfl (hk39)
          · refine zr_aload_n (r := (some a0)) (eX12_copy 33 rfl) rfl rfl ?_
            refine zr_iconst (eX12_copy 34 rfl) zk_iconst_2 ?_
            refine zr_invV_I (as := [(.int 2, 0)]) (cX12_failed_ok l h a0 2) rfl rfl ⟨by decide, by decide, by decide⟩ zcd_X12_failed rfl ⟨zw_1389, zw_1391, zw_34, zw_62⟩ ⟨Nat.le_of_ble_eq_true rfl, Nat.le_of_ble_eq_true rfl⟩ rfl (Nat.le_of_ble_eq_true rfl) (eX12_copy 35 rfl) (fun x58 h11 => ?_)
            exact zr_iret rfl rfl (eX12_copy 36 rfl)
        · exact v_drop [true, false, false, false, false, false, false] rfl (hk28)
    · exact v_drop [true, false, false, false, false, false, false] rfl (hk23)
def gX12_traced (h : Zh) (a0 : Nat) (x1 : Int32) : Option (Zh) :=
  zlt (zsI h a0 42 ((31 * (zI h a0 42)) + x1)) (fun (h1 : Zh) => some h1)
set_option maxRecDepth 20000 in
theorem cX12_traced_ok (l : Launch) (h : Zh) (a0 : Nat) (x1 : Int32) : Zc l yX12_traced mX12_traced 0 h [(.ref a0, 12), (.int x1, 0)] ((gX12_traced h a0 x1).map zoV) := by
  refine zc_of2 (ls := [some (.ref a0, 12), some (.int x1, 0)]) (j := 0) (by decide +kernel) rfl rfl (zEn_ca (zEn_ci rfl)) (Nat.le_of_ble_eq_true rfl) rfl ?_
  unfold gX12_traced
  refine zr_aload_n (r := (some a0)) (eX12_traced 0 rfl) rfl rfl ?_
  refine zr_bipush (eX12_traced 1 rfl) zk_bipush_31 ?_
  refine zr_aload_n (r := (some a0)) (eX12_traced 2 rfl) rfl rfl ?_
  refine zr_getI zf_RX12_364 ⟨by decide, by decide⟩ (eX12_traced 3 rfl) ?_
  refine zr_imul (eX12_traced 4 rfl) ?_
  refine zr_iload_n (eX12_traced 5 rfl) rfl rfl ?_
  refine zr_iadd (eX12_traced 6 rfl) ?_
  refine zr_putI zf_RX12_364 rfl (Or.inl rfl) (eX12_traced 7 rfl) ?_
  refine v_leth (fun h1 => ?_)
  exact zr_vret rfl rfl (eX12_traced 8 rfl)
def gX12_tell_J1 (a0 : Nat) (x1 : Int32) (x24 : Int32) : Zh → Option (Int32 × Zh) :=
  fun (h4 : Zh) => (if (x24 : Int32) = 0 then zlt (zR h4 a0 21) (fun r29 => Option.bind r29 (fun a30 => zg (zin x1 (zL h4 a30)) ((some ((zI h4 a30 (zx x1)), h4)))))
  else (if (x24 : Int32) = 1 then zlt (zR h4 a0 21) (fun r27 => Option.bind r27 (fun a28 => zg (zin x1 (zL h4 a28)) ((some (((zI h4 a28 (zx x1)) + 100), h4)))))
  else zlt (zR h4 a0 21) (fun r25 => Option.bind r25 (fun a26 => zg (zin x1 (zL h4 a26)) ((some (((2 * (zI h4 a26 (zx x1))) + 100), h4)))))))
def gX12_tell_J2 (a0 : Nat) (x1 : Int32) (x24 : Int32) : Zh → Option (Int32 × Zh) :=
  fun (h2 : Zh) => zbV (gX12_traced h2 a0 1) (fun h3 => zjn (gX12_tell_J1 a0 x1 x24) (fun (k31 : Zh → Option (Int32 × Zh)) =>
  (if (x24 : Int32) = 2 then zbV (gX12_traced h3 a0 1) (fun h5 => k31 h5)
  else k31 h3)))
def gX12_tell_J3 (a0 : Nat) (x1 : Int32) (x24 : Int32) : Zh → Option (Int32 × Zh) :=
  fun (h1 : Zh) => zjn (gX12_tell_J2 a0 x1 x24) (fun (k32 : Zh → Option (Int32 × Zh)) =>
  (if (x24 : Int32) ≤ 0 then k32 h1
  else zbV (gX12_traced h1 a0 2) (fun h6 => k32 h6)))
def gX12_tell (h : Zh) (a0 : Nat) (x1 : Int32) : Option (Int32 × Zh) :=
  zbi (gX12_noWeights h a0 x1) (fun x21 => (if (x21 : Int32) = 0 then zlt (zR h a0 20) (fun r22 => Option.bind r22 (fun a23 => zg (zin x1 (zL h a23)) (zlt (zI h a23 (zx x1)) (fun x24 => zjn (gX12_tell_J3 a0 x1 x24) (fun (k33 : Zh → Option (Int32 × Zh)) =>
  (if (x24 : Int32) = 2 then zbV (gX12_traced h a0 3) (fun h7 => k33 h7)
  else k33 h))))))
  else (some ((-1), h))))
set_option maxRecDepth 20000 in
theorem cX12_tell_ok (l : Launch) (h : Zh) (a0 : Nat) (x1 : Int32) : Zc l yX12_tell mX12_tell 0 h [(.ref a0, 12), (.int x1, 0)] ((gX12_tell h a0 x1).map zoI) := by
  refine zc_of2 (ls := [some (.ref a0, 12), some (.int x1, 0), none]) (j := 1) (by decide +kernel) rfl rfl (zEn_ca (zEn_ci rfl)) (Nat.le_of_ble_eq_true rfl) rfl ?_
  unfold gX12_tell
  refine zr_aload_n (r := (some a0)) (eX12_tell 0 rfl) rfl rfl ?_
  refine zr_iload_n (eX12_tell 1 rfl) rfl rfl ?_
  refine zr_invV_i (as := [(.int x1, 0)]) (cX12_noWeights_ok l h a0 x1) rfl rfl ⟨by decide, by decide, by decide⟩ zcd_X12_noWeights rfl ⟨zw_1400, zw_1402, zw_35, zw_62⟩ ⟨Nat.le_of_ble_eq_true rfl, Nat.le_of_ble_eq_true rfl⟩ rfl (Nat.le_of_ble_eq_true rfl) (eX12_tell 2 rfl) (fun x21 => ?_)
  refine zr_if_eq (eX12_tell 3 rfl) (t := 10) (by decide) ?_ ?_
  · refine zr_aload_n (r := (some a0)) (eX12_tell 6 rfl) rfl rfl ?_
    refine zr_getR2 zf_RX12_50 (τ2 := 20) rfl (eX12_tell 7 rfl) ?_
    refine v_letr (fun r22 => ?_)
    refine zr_iload_n (eX12_tell 8 rfl) rfl rfl ?_
    refine v_nn (fun a23 ea23 => ?_)
    subst ea23
    refine zr_iald (eX12_tell 9 rfl) ?_
    refine v_leti (fun x24 => ?_)
    refine zr_istore_n (ls2 := [some (.ref a0, 12), some (.int x1, 0), some (.int x24, 0)]) (eX12_tell 10 rfl) rfl (Nat.le_of_ble_eq_true rfl) rfl ?_
    refine zr_iload_n (eX12_tell 11 rfl) rfl rfl ?_
    refine zr_iconst (eX12_tell 12 rfl) zk_iconst_2 ?_
    refine v_jn (fun (k33 : Zh → Option (Int32 × Zh)) => ∀ (h1 : Zh), V l mX12_tell (zN h) (zS h) 0 zoI 27 [some (.ref a0, 12), some (.int x1, 0), some (.int x24, 0)] [] h1 (k33 h1)) ?_ ?_
    · intro h1
      unfold gX12_tell_J3
      refine zr_iload_n (eX12_tell 17 rfl) rfl rfl ?_
      refine v_jn (fun (k32 : Zh → Option (Int32 × Zh)) => ∀ (h2 : Zh), V l mX12_tell (zN h) (zS h) 0 zoI 36 [some (.ref a0, 12), some (.int x1, 0), some (.int x24, 0)] [] h2 (k32 h2)) ?_ ?_
      · intro h2
        unfold gX12_tell_J2
        refine zr_aload_n (r := (some a0)) (eX12_tell 22 rfl) rfl rfl ?_
        refine zr_iconst (eX12_tell 23 rfl) zk_iconst_1 ?_
        refine zr_invV_V (as := [(.int 1, 0)]) (cX12_traced_ok l h2 a0 1) rfl rfl ⟨by decide, by decide, by decide⟩ zcd_X12_traced rfl ⟨zw_1581, zw_1583, zw_55, zw_62⟩ ⟨Nat.le_of_ble_eq_true rfl, Nat.le_of_ble_eq_true rfl⟩ rfl (Nat.le_of_ble_eq_true rfl) (eX12_tell 24 rfl) (fun h3 => ?_)
        refine zr_iload_n (eX12_tell 25 rfl) rfl rfl ?_
        refine zr_iconst (eX12_tell 26 rfl) zk_iconst_2 ?_
        refine v_jn (fun (k31 : Zh → Option (Int32 × Zh)) => ∀ (h4 : Zh), V l mX12_tell (zN h) (zS h) 0 zoI 51 [some (.ref a0, 12), some (.int x1, 0), some (.int x24, 0)] [] h4 (k31 h4)) ?_ ?_
        · intro h4
          unfold gX12_tell_J1
          refine zr_iload_n (eX12_tell 31 rfl) rfl rfl ?_
          refine zr_if_ne (eX12_tell 32 rfl) (t := 64) (by decide) ?_ ?_
          · refine zr_iload_n (eX12_tell 38 rfl) rfl rfl ?_
            refine zr_iconst (eX12_tell 39 rfl) zk_iconst_1 ?_
            refine zr_icmp_ne (eX12_tell 40 rfl) (t := 81) (by decide) ?_ ?_
            · refine zr_iconst (eX12_tell 48 rfl) zk_iconst_2 ?_
              refine zr_aload_n (r := (some a0)) (eX12_tell 49 rfl) rfl rfl ?_
              refine zr_getR2 zf_RX12_53 (τ2 := 20) rfl (eX12_tell 50 rfl) ?_
              refine v_letr (fun r25 => ?_)
              refine zr_iload_n (eX12_tell 51 rfl) rfl rfl ?_
              refine v_nn (fun a26 ea26 => ?_)
              subst ea26
              refine zr_iald (eX12_tell 52 rfl) ?_
              refine zr_imul (eX12_tell 53 rfl) ?_
              refine zr_bipush (eX12_tell 54 rfl) zk_bipush_100 ?_
              refine zr_iadd (eX12_tell 55 rfl) ?_
              exact zr_iret rfl rfl (eX12_tell 56 rfl)
            · refine zr_aload_n (r := (some a0)) (eX12_tell 41 rfl) rfl rfl ?_
              refine zr_getR2 zf_RX12_53 (τ2 := 20) rfl (eX12_tell 42 rfl) ?_
              refine v_letr (fun r27 => ?_)
              refine zr_iload_n (eX12_tell 43 rfl) rfl rfl ?_
              refine v_nn (fun a28 ea28 => ?_)
              subst ea28
              refine zr_iald (eX12_tell 44 rfl) ?_
              refine zr_bipush (eX12_tell 45 rfl) zk_bipush_100 ?_
              refine zr_iadd (eX12_tell 46 rfl) ?_
              refine zr_goto (eX12_tell 47 rfl) (t := 92) (by decide) ?_
              exact zr_iret rfl rfl (eX12_tell 56 rfl)
          · refine zr_aload_n (r := (some a0)) (eX12_tell 33 rfl) rfl rfl ?_
            refine zr_getR2 zf_RX12_53 (τ2 := 20) rfl (eX12_tell 34 rfl) ?_
            refine v_letr (fun r29 => ?_)
            refine zr_iload_n (eX12_tell 35 rfl) rfl rfl ?_
            refine v_nn (fun a30 ea30 => ?_)
            subst ea30
            refine zr_iald (eX12_tell 36 rfl) ?_
            refine zr_goto (eX12_tell 37 rfl) (t := 92) (by decide) ?_
            exact zr_iret rfl rfl (eX12_tell 56 rfl)
        intro k31 hk31
        refine zr_icmp_ne (eX12_tell 27 rfl) (t := 51) (by decide) ?_ ?_
        · exact v_drop [true, true, true] rfl (hk31 h3)
        · refine zr_aload_n (r := (some a0)) (eX12_tell 28 rfl) rfl rfl ?_
          refine zr_iconst (eX12_tell 29 rfl) zk_iconst_1 ?_
          refine zr_invV_V (as := [(.int 1, 0)]) (cX12_traced_ok l h3 a0 1) rfl rfl ⟨by decide, by decide, by decide⟩ zcd_X12_traced rfl ⟨zw_1581, zw_1583, zw_55, zw_62⟩ ⟨Nat.le_of_ble_eq_true rfl, Nat.le_of_ble_eq_true rfl⟩ rfl (Nat.le_of_ble_eq_true rfl) (eX12_tell 30 rfl) (fun h5 => ?_)
          exact v_drop [true, true, true] rfl (hk31 h5)
      intro k32 hk32
      refine zr_if_le (eX12_tell 18 rfl) (t := 36) (by decide) ?_ ?_
      · exact v_drop [true, true, true] rfl (hk32 h1)
      · refine zr_aload_n (r := (some a0)) (eX12_tell 19 rfl) rfl rfl ?_
        refine zr_iconst (eX12_tell 20 rfl) zk_iconst_2 ?_
        refine zr_invV_V (as := [(.int 2, 0)]) (cX12_traced_ok l h1 a0 2) rfl rfl ⟨by decide, by decide, by decide⟩ zcd_X12_traced rfl ⟨zw_1581, zw_1583, zw_55, zw_62⟩ ⟨Nat.le_of_ble_eq_true rfl, Nat.le_of_ble_eq_true rfl⟩ rfl (Nat.le_of_ble_eq_true rfl) (eX12_tell 21 rfl) (fun h6 => ?_)
        exact v_drop [true, true, true] rfl (hk32 h6)
    intro k33 hk33
    refine zr_icmp_ne (eX12_tell 13 rfl) (t := 27) (by decide) ?_ ?_
    · exact v_drop [true, true, true] rfl (hk33 h)
    · refine zr_aload_n (r := (some a0)) (eX12_tell 14 rfl) rfl rfl ?_
      refine zr_iconst (eX12_tell 15 rfl) zk_iconst_3 ?_
      refine zr_invV_V (as := [(.int 3, 0)]) (cX12_traced_ok l h a0 3) rfl rfl ⟨by decide, by decide, by decide⟩ zcd_X12_traced rfl ⟨zw_1581, zw_1583, zw_55, zw_62⟩ ⟨Nat.le_of_ble_eq_true rfl, Nat.le_of_ble_eq_true rfl⟩ rfl (Nat.le_of_ble_eq_true rfl) (eX12_tell 16 rfl) (fun h7 => ?_)
      exact v_drop [true, true, true] rfl (hk33 h7)
  · refine zr_iconst (eX12_tell 4 rfl) zk_iconst_m1 ?_
    exact zr_iret rfl rfl (eX12_tell 5 rfl)
def gX12_name_J1 (h : Zh) (a0 : Nat) (x1 : Int32) : Int32 → Option (Int32 × Zh) :=
  fun (x24 : Int32) => zbV (gX12_traced h a0 x24) (fun h1 => zlt (zR h1 a0 20) (fun r25 => Option.bind r25 (fun a26 => zg (zin x1 (zL h1 a26)) ((if ((zI h1 a26 (zx x1)) : Int32) = 2 then (some (60, h1))
  else (some (x1, h1)))))))
def gX12_name (h : Zh) (a0 : Nat) (x1 : Int32) : Option (Int32 × Zh) :=
  zbi (gX12_noWeights h a0 x1) (fun x21 => (if (x21 : Int32) = 0 then zlt (zR h a0 20) (fun r22 => Option.bind r22 (fun a23 => zg (zin x1 (zL h a23)) (zjn (gX12_name_J1 h a0 x1) (fun (k27 : Int32 → Option (Int32 × Zh)) =>
  (if ((zI h a23 (zx x1)) : Int32) = 2 then k27 5
  else k27 4)))))
  else (some ((-1), h))))
set_option maxRecDepth 20000 in
theorem cX12_name_ok (l : Launch) (h : Zh) (a0 : Nat) (x1 : Int32) : Zc l yX12_name mX12_name 0 h [(.ref a0, 12), (.int x1, 0)] ((gX12_name h a0 x1).map zoI) := by
  refine zc_of2 (ls := [some (.ref a0, 12), some (.int x1, 0)]) (j := 0) (by decide +kernel) rfl rfl (zEn_ca (zEn_ci rfl)) (Nat.le_of_ble_eq_true rfl) rfl ?_
  unfold gX12_name
  refine zr_aload_n (r := (some a0)) (eX12_name 0 rfl) rfl rfl ?_
  refine zr_iload_n (eX12_name 1 rfl) rfl rfl ?_
  refine zr_invV_i (as := [(.int x1, 0)]) (cX12_noWeights_ok l h a0 x1) rfl rfl ⟨by decide, by decide, by decide⟩ zcd_X12_noWeights rfl ⟨zw_1400, zw_1402, zw_35, zw_62⟩ ⟨Nat.le_of_ble_eq_true rfl, Nat.le_of_ble_eq_true rfl⟩ rfl (Nat.le_of_ble_eq_true rfl) (eX12_name 2 rfl) (fun x21 => ?_)
  refine zr_if_eq (eX12_name 3 rfl) (t := 10) (by decide) ?_ ?_
  · refine zr_aload_n (r := (some a0)) (eX12_name 6 rfl) rfl rfl ?_
    refine zr_aload_n (r := (some a0)) (eX12_name 7 rfl) rfl rfl ?_
    refine zr_getR2 zf_RX12_50 (τ2 := 20) rfl (eX12_name 8 rfl) ?_
    refine v_letr (fun r22 => ?_)
    refine zr_iload_n (eX12_name 9 rfl) rfl rfl ?_
    refine v_nn (fun a23 ea23 => ?_)
    subst ea23
    refine zr_iald (eX12_name 10 rfl) ?_
    refine zr_iconst (eX12_name 11 rfl) zk_iconst_2 ?_
    refine v_jn (fun (k27 : Int32 → Option (Int32 × Zh)) => ∀ (x24 : Int32), V l mX12_name (zN h) (zS h) 0 zoI 26 [some (.ref a0, 12), some (.int x1, 0)] [(.int x24, 0), (.ref a0, 12)] h (k27 x24)) ?_ ?_
    · intro x24
      unfold gX12_name_J1
      refine zr_invV_V (as := [(.int x24, 0)]) (cX12_traced_ok l h a0 x24) rfl rfl ⟨by decide, by decide, by decide⟩ zcd_X12_traced rfl ⟨zw_1581, zw_1583, zw_55, zw_62⟩ ⟨Nat.le_of_ble_eq_true rfl, Nat.le_of_ble_eq_true rfl⟩ rfl (Nat.le_of_ble_eq_true rfl) (eX12_name 16 rfl) (fun h1 => ?_)
      refine zr_aload_n (r := (some a0)) (eX12_name 17 rfl) rfl rfl ?_
      refine zr_getR2 zf_RX12_50 (τ2 := 20) rfl (eX12_name 18 rfl) ?_
      refine v_letr (fun r25 => ?_)
      refine zr_iload_n (eX12_name 19 rfl) rfl rfl ?_
      refine v_nn (fun a26 ea26 => ?_)
      subst ea26
      refine zr_iald (eX12_name 20 rfl) ?_
      refine zr_iconst (eX12_name 21 rfl) zk_iconst_2 ?_
      refine zr_icmp_ne (eX12_name 22 rfl) (t := 44) (by decide) ?_ ?_
      · refine zr_iload_n (eX12_name 25 rfl) rfl rfl ?_
        exact zr_iret rfl rfl (eX12_name 26 rfl)
      · refine zr_bipush (eX12_name 23 rfl) zk_bipush_60 ?_
        refine zr_goto (eX12_name 24 rfl) (t := 45) (by decide) ?_
        exact zr_iret rfl rfl (eX12_name 26 rfl)
    intro k27 hk27
    refine zr_icmp_ne (eX12_name 12 rfl) (t := 25) (by decide) ?_ ?_
    · refine zr_iconst (eX12_name 15 rfl) zk_iconst_4 ?_
      exact v_drop [true, true] rfl (hk27 4)
    · refine zr_iconst (eX12_name 13 rfl) zk_iconst_5 ?_
      refine zr_goto (eX12_name 14 rfl) (t := 26) (by decide) ?_
      exact v_drop [true, true] rfl (hk27 5)
  · refine zr_iconst (eX12_name 4 rfl) zk_iconst_m1 ?_
    exact zr_iret rfl rfl (eX12_name 5 rfl)
def gX12_as (h : Zh) (a0 : Nat) (x1 : Int32) (x2 : Int32) : Option (Int32 × Zh) :=
  zbi (gX12_noWeights h a0 x1) (fun x21 => (if (x21 : Int32) = 0 then zbi (gX12_in ((x2 : Int32).toInt64) 0 2) (fun x22 => (if (x22 : Int32) = 0 then zbI (gX12_refused h a0 (-2)) (fun x27 h3 => (some (x27, h3)))
  else zlt (zR h a0 20) (fun r23 => Option.bind r23 (fun a24 => zg (zin x1 (zL h a24)) ((if ((zI h a24 (zx x1)) : Int32) < x2 then zbI (gX12_failed h a0 2) (fun x25 h1 => (some (x25, h1)))
  else zbI (gX12_refused h a0 1) (fun x26 h2 => (some (x26, h2)))))))))
  else zbI (gX12_refused h a0 (-1)) (fun x28 h4 => (some (x28, h4)))))
set_option maxRecDepth 20000 in
theorem cX12_as_ok (l : Launch) (h : Zh) (a0 : Nat) (x1 : Int32) (x2 : Int32) : Zc l yX12_as mX12_as 0 h [(.ref a0, 12), (.int x1, 0), (.int x2, 0)] ((gX12_as h a0 x1 x2).map zoI) := by
  refine zc_of2 (ls := [some (.ref a0, 12), some (.int x1, 0), some (.int x2, 0)]) (j := 0) (by decide +kernel) rfl rfl (zEn_ca (zEn_ci (zEn_ci rfl))) (Nat.le_of_ble_eq_true rfl) rfl ?_
  unfold gX12_as
  refine zr_aload_n (r := (some a0)) (eX12_as 0 rfl) rfl rfl ?_
  refine zr_iload_n (eX12_as 1 rfl) rfl rfl ?_
  refine zr_invV_i (as := [(.int x1, 0)]) (cX12_noWeights_ok l h a0 x1) rfl rfl ⟨by decide, by decide, by decide⟩ zcd_X12_noWeights rfl ⟨zw_1400, zw_1402, zw_35, zw_62⟩ ⟨Nat.le_of_ble_eq_true rfl, Nat.le_of_ble_eq_true rfl⟩ rfl (Nat.le_of_ble_eq_true rfl) (eX12_as 2 rfl) (fun x21 => ?_)
  refine zr_if_eq (eX12_as 3 rfl) (t := 14) (by decide) ?_ ?_
  · refine zr_iload_n (eX12_as 8 rfl) rfl rfl ?_
    refine zr_i2l (eX12_as 9 rfl) ?_
    refine zr_lconst (eX12_as 10 rfl) zk_lconst_0 ?_
    refine zr_ldc2 (eX12_as 11 rfl) zw_1201 ?_
    refine zr_invS_i (as := [(.long ((x2 : Int32).toInt64), 0), (.long 0, 0), (.long 2, 0)]) (cX12_in_ok l h ((x2 : Int32).toInt64) 0 2) rfl zcd_X12_in ⟨zw_1203, zw_1204, zw_62⟩ ⟨Nat.le_of_ble_eq_true rfl, Nat.le_of_ble_eq_true rfl⟩ rfl (Nat.le_of_ble_eq_true rfl) (eX12_as 12 rfl) (fun x22 => ?_)
    refine zr_if_ne (eX12_as 13 rfl) (t := 33) (by decide) ?_ ?_
    · refine zr_aload_n (r := (some a0)) (eX12_as 18 rfl) rfl rfl ?_
      refine zr_getR2 zf_RX12_50 (τ2 := 20) rfl (eX12_as 19 rfl) ?_
      refine v_letr (fun r23 => ?_)
      refine zr_iload_n (eX12_as 20 rfl) rfl rfl ?_
      refine v_nn (fun a24 ea24 => ?_)
      subst ea24
      refine zr_iald (eX12_as 21 rfl) ?_
      refine zr_iload_n (eX12_as 22 rfl) rfl rfl ?_
      refine zr_icmp_lt (eX12_as 23 rfl) (t := 51) (by decide) ?_ ?_
      · refine zr_aload_n (r := (some a0)) (eX12_as 28 rfl) rfl rfl ?_
        refine zr_iconst (eX12_as 29 rfl) zk_iconst_2 ?_
        refine zr_invV_I (as := [(.int 2, 0)]) (cX12_failed_ok l h a0 2) rfl rfl ⟨by decide, by decide, by decide⟩ zcd_X12_failed rfl ⟨zw_1389, zw_1391, zw_34, zw_62⟩ ⟨Nat.le_of_ble_eq_true rfl, Nat.le_of_ble_eq_true rfl⟩ rfl (Nat.le_of_ble_eq_true rfl) (eX12_as 30 rfl) (fun x25 h1 => ?_)
        exact zr_iret rfl rfl (eX12_as 31 rfl)
      · refine zr_aload_n (r := (some a0)) (eX12_as 24 rfl) rfl rfl ?_
        refine zr_iconst (eX12_as 25 rfl) zk_iconst_1 ?_
        refine zr_invV_I (as := [(.int 1, 0)]) (cX12_refused_ok l h a0 1) rfl rfl ⟨by decide, by decide, by decide⟩ zcd_X12_refused rfl ⟨zw_1385, zw_1387, zw_33, zw_62⟩ ⟨Nat.le_of_ble_eq_true rfl, Nat.le_of_ble_eq_true rfl⟩ rfl (Nat.le_of_ble_eq_true rfl) (eX12_as 26 rfl) (fun x26 h2 => ?_)
        refine zr_goto (eX12_as 27 rfl) (t := 56) (by decide) ?_
        exact zr_iret rfl rfl (eX12_as 31 rfl)
    · refine zr_aload_n (r := (some a0)) (eX12_as 14 rfl) rfl rfl ?_
      refine zr_bipush (eX12_as 15 rfl) zk_bipush_m2 ?_
      refine zr_invV_I (as := [(.int (-2), 0)]) (cX12_refused_ok l h a0 (-2)) rfl rfl ⟨by decide, by decide, by decide⟩ zcd_X12_refused rfl ⟨zw_1385, zw_1387, zw_33, zw_62⟩ ⟨Nat.le_of_ble_eq_true rfl, Nat.le_of_ble_eq_true rfl⟩ rfl (Nat.le_of_ble_eq_true rfl) (eX12_as 16 rfl) (fun x27 h3 => ?_)
      exact zr_iret rfl rfl (eX12_as 17 rfl)
  · refine zr_aload_n (r := (some a0)) (eX12_as 4 rfl) rfl rfl ?_
    refine zr_iconst (eX12_as 5 rfl) zk_iconst_m1 ?_
    refine zr_invV_I (as := [(.int (-1), 0)]) (cX12_refused_ok l h a0 (-1)) rfl rfl ⟨by decide, by decide, by decide⟩ zcd_X12_refused rfl ⟨zw_1385, zw_1387, zw_33, zw_62⟩ ⟨Nat.le_of_ble_eq_true rfl, Nat.le_of_ble_eq_true rfl⟩ rfl (Nat.le_of_ble_eq_true rfl) (eX12_as 6 rfl) (fun x28 h4 => ?_)
    exact zr_iret rfl rfl (eX12_as 7 rfl)
def gX12_trace (h : Zh) (a0 : Nat) : Option (Int32) :=
  (some (zI h a0 42))
set_option maxRecDepth 20000 in
theorem cX12_trace_ok (l : Launch) (h : Zh) (a0 : Nat) : Zc l yX12_trace mX12_trace 0 h [(.ref a0, 12)] ((gX12_trace h a0).map (zoi h)) := by
  refine zc_of2 (ls := [some (.ref a0, 12)]) (j := 0) (by decide +kernel) rfl rfl (zEn_ca rfl) (Nat.le_of_ble_eq_true rfl) rfl ?_
  unfold gX12_trace
  refine zr_aload_n (r := (some a0)) (eX12_trace 0 rfl) rfl rfl ?_
  refine zr_getI zf_RX12_364 ⟨by decide, by decide⟩ (eX12_trace 1 rfl) ?_
  exact zr_iret rfl rfl (eX12_trace 2 rfl)
def gX12_fault (h : Zh) (a0 : Nat) : Option (Int32) :=
  (some (zI h a0 0))
set_option maxRecDepth 20000 in
theorem cX12_fault_ok (l : Launch) (h : Zh) (a0 : Nat) : Zc l yX12_fault mX12_fault 0 h [(.ref a0, 12)] ((gX12_fault h a0).map (zoi h)) := by
  refine zc_of2 (ls := [some (.ref a0, 12)]) (j := 0) (by decide +kernel) rfl rfl (zEn_ca rfl) (Nat.le_of_ble_eq_true rfl) rfl ?_
  unfold gX12_fault
  refine zr_aload_n (r := (some a0)) (eX12_fault 0 rfl) rfl rfl ?_
  refine zr_getI zf_RX12_134 ⟨by decide, by decide⟩ (eX12_fault 1 rfl) ?_
  exact zr_iret rfl rfl (eX12_fault 2 rfl)
def gX12_many (h : Zh) (a0 : Nat) (x1 : Int32) : Option (Int32) :=
  (if (x1 : Int32) = 0 then (some (zI h a0 1))
  else (if (x1 : Int32) = 1 then (if ((zI h a0 2) : Int32) = 0 then (some 0)
  else (some 1))
  else (if (x1 : Int32) = 2 then (some (zI h a0 3))
  else (if (x1 : Int32) = 3 then (some (100 + (zI h a0 4)))
  else (if (x1 : Int32) = 4 then zbi (gX12_pairMany h a0) (fun x21 => (some x21))
  else (if (x1 : Int32) = 5 then (some (zI h a0 19))
  else (if (x1 : Int32) = 6 then (some (zI h a0 37))
  else (if (x1 : Int32) = 7 then (some (((zI h a0 36) - 1) - (zI h a0 37)))
  else (some (-2))))))))))
set_option maxRecDepth 20000 in
theorem cX12_many_ok (l : Launch) (h : Zh) (a0 : Nat) (x1 : Int32) : Zc l yX12_many mX12_many 0 h [(.ref a0, 12), (.int x1, 0)] ((gX12_many h a0 x1).map (zoi h)) := by
  refine zc_of2 (ls := [some (.ref a0, 12), some (.int x1, 0)]) (j := 0) (by decide +kernel) rfl rfl (zEn_ca (zEn_ci rfl)) (Nat.le_of_ble_eq_true rfl) rfl ?_
  unfold gX12_many
  refine zr_iload_n (eX12_many 0 rfl) rfl rfl ?_
  refine zr_tab (c := 0) (t := 48) (off := 47) (eX12_many 1 rfl) (by decide) (by decide) ?_ (fun q0 => ?_)
  · refine zr_aload_n (r := (some a0)) (eX12_many 2 rfl) rfl rfl ?_
    refine zr_getI zf_RX12_111 ⟨by decide, by decide⟩ (eX12_many 3 rfl) ?_
    exact zr_iret rfl rfl (eX12_many 4 rfl)
  refine zr_tab (c := 1) (t := 53) (off := 52) (eX12_many 1 rfl) (by decide) (by decide) ?_ (fun q1 => ?_)
  · refine zr_aload_n (r := (some a0)) (eX12_many 5 rfl) rfl rfl ?_
    refine zr_getI zf_RX12_115 ⟨by decide, by decide⟩ (eX12_many 6 rfl) ?_
    refine zr_if_eq (eX12_many 7 rfl) (t := 64) (by decide) ?_ ?_
    · refine zr_iconst (eX12_many 10 rfl) zk_iconst_0 ?_
      exact zr_iret rfl rfl (eX12_many 11 rfl)
    · refine zr_iconst (eX12_many 8 rfl) zk_iconst_1 ?_
      refine zr_goto (eX12_many 9 rfl) (t := 65) (by decide) ?_
      exact zr_iret rfl rfl (eX12_many 11 rfl)
  refine zr_tab (c := 2) (t := 66) (off := 65) (eX12_many 1 rfl) (by decide) (by decide) ?_ (fun q2 => ?_)
  · refine zr_aload_n (r := (some a0)) (eX12_many 12 rfl) rfl rfl ?_
    refine zr_getI zf_RX12_119 ⟨by decide, by decide⟩ (eX12_many 13 rfl) ?_
    exact zr_iret rfl rfl (eX12_many 14 rfl)
  refine zr_tab (c := 3) (t := 71) (off := 70) (eX12_many 1 rfl) (by decide) (by decide) ?_ (fun q3 => ?_)
  · refine zr_bipush (eX12_many 15 rfl) zk_bipush_100 ?_
    refine zr_aload_n (r := (some a0)) (eX12_many 16 rfl) rfl rfl ?_
    refine zr_getI zf_RX12_122 ⟨by decide, by decide⟩ (eX12_many 17 rfl) ?_
    refine zr_iadd (eX12_many 18 rfl) ?_
    exact zr_iret rfl rfl (eX12_many 19 rfl)
  refine zr_tab (c := 4) (t := 79) (off := 78) (eX12_many 1 rfl) (by decide) (by decide) ?_ (fun q4 => ?_)
  · refine zr_aload_n (r := (some a0)) (eX12_many 20 rfl) rfl rfl ?_
    refine zr_invV_i (as := []) (cX12_pairMany_ok l h a0) rfl rfl ⟨by decide, by decide, by decide⟩ zcd_X12_pairMany rfl ⟨zw_1232, zw_1234, zw_15, zw_62⟩ ⟨Nat.le_of_ble_eq_true rfl, Nat.le_of_ble_eq_true rfl⟩ rfl (Nat.le_of_ble_eq_true rfl) (eX12_many 21 rfl) (fun x21 => ?_)
    exact zr_iret rfl rfl (eX12_many 22 rfl)
  refine zr_tab (c := 5) (t := 84) (off := 83) (eX12_many 1 rfl) (by decide) (by decide) ?_ (fun q5 => ?_)
  · refine zr_aload_n (r := (some a0)) (eX12_many 23 rfl) rfl rfl ?_
    refine zr_getI zf_RX12_245 ⟨by decide, by decide⟩ (eX12_many 24 rfl) ?_
    exact zr_iret rfl rfl (eX12_many 25 rfl)
  refine zr_tab (c := 6) (t := 89) (off := 88) (eX12_many 1 rfl) (by decide) (by decide) ?_ (fun q6 => ?_)
  · refine zr_aload_n (r := (some a0)) (eX12_many 26 rfl) rfl rfl ?_
    refine zr_getI zf_RX12_348 ⟨by decide, by decide⟩ (eX12_many 27 rfl) ?_
    exact zr_iret rfl rfl (eX12_many 28 rfl)
  refine zr_tab (c := 7) (t := 94) (off := 93) (eX12_many 1 rfl) (by decide) (by decide) ?_ (fun q7 => ?_)
  · refine zr_aload_n (r := (some a0)) (eX12_many 29 rfl) rfl rfl ?_
    refine zr_getI zf_RX12_351 ⟨by decide, by decide⟩ (eX12_many 30 rfl) ?_
    refine zr_iconst (eX12_many 31 rfl) zk_iconst_1 ?_
    refine zr_isub (eX12_many 32 rfl) ?_
    refine zr_aload_n (r := (some a0)) (eX12_many 33 rfl) rfl rfl ?_
    refine zr_getI zf_RX12_348 ⟨by decide, by decide⟩ (eX12_many 34 rfl) ?_
    refine zr_isub (eX12_many 35 rfl) ?_
    exact zr_iret rfl rfl (eX12_many 36 rfl)
  have q0' := zne (c := 0) (n := 0) (by decide) q0
  have q1' := zne (c := 1) (n := 1) (by decide) q1
  have q2' := zne (c := 2) (n := 2) (by decide) q2
  have q3' := zne (c := 3) (n := 3) (by decide) q3
  have q4' := zne (c := 4) (n := 4) (by decide) q4
  have q5' := zne (c := 5) (n := 5) (by decide) q5
  have q6' := zne (c := 6) (n := 6) (by decide) q6
  have q7' := zne (c := 7) (n := 7) (by decide) q7
  refine zr_tabD (t := 106) (eX12_many 1 rfl) (by omega) (by decide) ?_
  refine zr_bipush (eX12_many 37 rfl) zk_bipush_m2 ?_
  exact zr_iret rfl rfl (eX12_many 38 rfl)
