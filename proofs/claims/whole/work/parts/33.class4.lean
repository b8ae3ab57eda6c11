def gX8_ofOne (h : Zh) (x0 : Int32) (x1 : Int32) (x2 : Int32) : Option (Option Nat × Zh) :=
  zlt (zN h) (fun a21 => zlt (zA h 8 3) (fun (h1 : Zh) => zg (zok 1) (zlt (zN h1) (fun a22 => zlt (zA h1 20 (zx 1)) (fun (h2 : Zh) => zg (zok 1) (zlt (zN h2) (fun a23 => zlt (zA h2 20 (zx 1)) (fun (h3 : Zh) => zg (zok 1) (zlt (zN h3) (fun a24 => zlt (zA h3 20 (zx 1)) (fun (h4 : Zh) => zbV (gX8_init h4 a21 (some a22) (some a23) (some a24)) (fun h5 => zlt (zR h5 a21 0) (fun r25 => Option.bind r25 (fun a26 => zg (zin 0 (zL h5 a26)) (zlt (zsI h5 a26 (zx 0) x0) (fun (h6 : Zh) => zlt (zR h6 a21 1) (fun r27 => Option.bind r27 (fun a28 => zg (zin 0 (zL h6 a28)) (zlt (zsI h6 a28 (zx 0) x1) (fun (h7 : Zh) => zlt (zR h7 a21 2) (fun r29 => Option.bind r29 (fun a30 => zg (zin 0 (zL h7 a30)) (zlt (zsI h7 a30 (zx 0) x2) (fun (h8 : Zh) => (some ((some a21), h8))))))))))))))))))))))))))
set_option maxRecDepth 20000 in
theorem cX8_ofOne_ok (l : Launch) (h : Zh) (x0 : Int32) (x1 : Int32) (x2 : Int32) : Zc l yX8_ofOne mX8_ofOne 8 h [(.int x0, 0), (.int x1, 0), (.int x2, 0)] ((gX8_ofOne h x0 x1 x2).map zoR) := by
  refine zc_of2 (ls := [some (.int x0, 0), some (.int x1, 0), some (.int x2, 0), none]) (j := 1) (by decide +kernel) rfl rfl (zEn_ci (zEn_ci (zEn_ci rfl))) (Nat.le_of_ble_eq_true rfl) rfl ?_
  unfold gX8_ofOne
  refine zr_new zci8 zw_132 zw_133 zw_60 (eX8_ofOne 0 rfl) ?_
  refine zr_leta (fun a21 => ?_)
  refine v_leth (fun h1 => ?_)
  refine zr_dup (eX8_ofOne 1 rfl) rfl ?_
  refine zr_iconst (eX8_ofOne 2 rfl) zk_iconst_1 ?_
  refine zr_newi zw_154 (eX8_ofOne 3 rfl) ?_
  refine zr_leta (fun a22 => ?_)
  refine v_leth (fun h2 => ?_)
  refine zr_iconst (eX8_ofOne 4 rfl) zk_iconst_1 ?_
  refine zr_newi zw_154 (eX8_ofOne 5 rfl) ?_
  refine zr_leta (fun a23 => ?_)
  refine v_leth (fun h3 => ?_)
  refine zr_iconst (eX8_ofOne 6 rfl) zk_iconst_1 ?_
  refine zr_newi zw_154 (eX8_ofOne 7 rfl) ?_
  refine zr_leta (fun a24 => ?_)
  refine v_leth (fun h4 => ?_)
  refine zr_invI_V (as := [(.ref a22, 20), (.ref a23, 20), (.ref a24, 20)]) (cX8_init_ok l h4 a21 (some a22) (some a23) (some a24)) rfl zcd_X8_init rfl rfl ⟨zw_134, zw_135, zw_60⟩ ⟨Nat.le_of_ble_eq_true rfl, Nat.le_of_ble_eq_true rfl⟩ rfl (Nat.le_of_ble_eq_true rfl) (eX8_ofOne 8 rfl) (fun h5 => ?_)
  refine zr_astore_n (r := (some a21)) (ls2 := [some (.int x0, 0), some (.int x1, 0), some (.int x2, 0), some (.ref a21, 8)]) (eX8_ofOne 9 rfl) rfl (Nat.le_of_ble_eq_true rfl) rfl ?_
  refine zr_aload_n (r := (some a21)) (eX8_ofOne 10 rfl) rfl rfl ?_
  refine zr_getR2 zf_RX8_7 (τ2 := 20) rfl (eX8_ofOne 11 rfl) ?_
  refine v_letr (fun r25 => ?_)
  refine zr_iconst (eX8_ofOne 12 rfl) zk_iconst_0 ?_
  refine zr_iload_n (eX8_ofOne 13 rfl) rfl rfl ?_
  refine v_nn (fun a26 ea26 => ?_)
  subst ea26
  refine zr_iast (eX8_ofOne 14 rfl) ?_
  refine v_leth (fun h6 => ?_)
  refine zr_aload_n (r := (some a21)) (eX8_ofOne 15 rfl) rfl rfl ?_
  refine zr_getR2 zf_RX8_13 (τ2 := 20) rfl (eX8_ofOne 16 rfl) ?_
  refine v_letr (fun r27 => ?_)
  refine zr_iconst (eX8_ofOne 17 rfl) zk_iconst_0 ?_
  refine zr_iload_n (eX8_ofOne 18 rfl) rfl rfl ?_
  refine v_nn (fun a28 ea28 => ?_)
  subst ea28
  refine zr_iast (eX8_ofOne 19 rfl) ?_
  refine v_leth (fun h7 => ?_)
  refine zr_aload_n (r := (some a21)) (eX8_ofOne 20 rfl) rfl rfl ?_
  refine zr_getR2 zf_RX8_16 (τ2 := 20) rfl (eX8_ofOne 21 rfl) ?_
  refine v_letr (fun r29 => ?_)
  refine zr_iconst (eX8_ofOne 22 rfl) zk_iconst_0 ?_
  refine zr_iload_n (eX8_ofOne 23 rfl) rfl rfl ?_
  refine v_nn (fun a30 ea30 => ?_)
  subst ea30
  refine zr_iast (eX8_ofOne 24 rfl) ?_
  refine v_leth (fun h8 => ?_)
  refine zr_aload_n (r := (some a21)) (eX8_ofOne 25 rfl) rfl rfl ?_
  exact zr_aret (r := (some a21)) rfl rfl (Or.inl ⟨_, rfl⟩) (eX8_ofOne 26 rfl)
def gX8_within_L1 (h : Zh) (a0 : Nat) (x1 : Int32) : (Int32 → Option (Int32)) → Int32 → Option (Int32) :=
  fun (k22 : Int32 → Option (Int32)) (x21 : Int32) => zlt (zR h a0 0) (fun r23 => Option.bind r23 (fun a24 => (if ((Int32.ofNat (zL h a24)) : Int32) ≤ x21 then (some 1)
  else zlt (zR h a0 0) (fun r25 => Option.bind r25 (fun a26 => zg (zin x21 (zL h a26)) ((if (x1 : Int32) ≤ ((zI h a26 (zx x21)) >>> ((8 : Int32) &&& 31)) then (some 0)
  else zlt (zR h a0 0) (fun r27 => Option.bind r27 (fun a28 => zg (zin x21 (zL h a28)) ((if (((zI h a28 (zx x21)) &&& 255) : Int32) < x1 then k22 (x21 + 1)
  else (some 0))))))))))))
def gX8_within (h : Zh) (a0 : Nat) (x1 : Int32) : Option (Int32) :=
  zlp (fun (_ : Int32) => (none : Option (Int32))) (gX8_within_L1 h a0 x1) zFU 0
set_option maxRecDepth 20000 in
theorem cX8_within_ok (l : Launch) (h : Zh) (a0 : Nat) (x1 : Int32) : Zc l yX8_within mX8_within 0 h [(.ref a0, 8), (.int x1, 0)] ((gX8_within h a0 x1).map (zoi h)) := by
  refine zc_of2 (ls := [some (.ref a0, 8), some (.int x1, 0), none]) (j := 1) (by decide +kernel) rfl rfl (zEn_ca (zEn_ci rfl)) (Nat.le_of_ble_eq_true rfl) rfl ?_
  unfold gX8_within
  refine zr_iconst (eX8_within 0 rfl) zk_iconst_0 ?_
  refine zr_istore_n (ls2 := [some (.ref a0, 8), some (.int x1, 0), some (.int 0, 0)]) (eX8_within 1 rfl) rfl (Nat.le_of_ble_eq_true rfl) rfl ?_
  refine v_drop [true, true, true] rfl ?_
  refine zlp_ind (fun (k22 : Int32 → Option (Int32)) => ∀ (x21 : Int32), V l mX8_within (zN h) (zS h) 0 (zoi h) 2 [some (.ref a0, 8), some (.int x1, 0), some (.int x21, 0)] [] h (k22 x21)) ?_ ?_ 0
  · exact fun _ => v_none
  intro k22 hk22 x21
  unfold gX8_within_L1
  refine zr_iload_n (eX8_within 2 rfl) rfl rfl ?_
  refine zr_aload_n (r := (some a0)) (eX8_within 3 rfl) rfl rfl ?_
  refine zr_getR2 zf_RX8_7 (τ2 := 20) rfl (eX8_within 4 rfl) ?_
  refine v_letr (fun r23 => ?_)
  refine v_nn (fun a24 ea24 => ?_)
  subst ea24
  refine zr_alen (by decide) (eX8_within 5 rfl) ?_
  refine zr_icmp_ge (eX8_within 6 rfl) (t := 46) (by decide) ?_ ?_
  · refine zr_iconst (eX8_within 27 rfl) zk_iconst_1 ?_
    exact zr_zret rfl (by decide) rfl (eX8_within 28 rfl)
  · refine zr_aload_n (r := (some a0)) (eX8_within 7 rfl) rfl rfl ?_
    refine zr_getR2 zf_RX8_7 (τ2 := 20) rfl (eX8_within 8 rfl) ?_
    refine v_letr (fun r25 => ?_)
    refine zr_iload_n (eX8_within 9 rfl) rfl rfl ?_
    refine v_nn (fun a26 ea26 => ?_)
    subst ea26
    refine zr_iald (eX8_within 10 rfl) ?_
    refine zr_bipush (eX8_within 11 rfl) zk_bipush_8 ?_
    refine zr_ishr (eX8_within 12 rfl) ?_
    refine zr_iload_n (eX8_within 13 rfl) rfl rfl ?_
    refine zr_icmp_ge (eX8_within 14 rfl) (t := 38) (by decide) ?_ ?_
    · refine zr_iconst (eX8_within 23 rfl) zk_iconst_0 ?_
      exact zr_zret rfl (by decide) rfl (eX8_within 24 rfl)
    · refine zr_aload_n (r := (some a0)) (eX8_within 15 rfl) rfl rfl ?_
      refine zr_getR2 zf_RX8_7 (τ2 := 20) rfl (eX8_within 16 rfl) ?_
      refine v_letr (fun r27 => ?_)
      refine zr_iload_n (eX8_within 17 rfl) rfl rfl ?_
      refine v_nn (fun a28 ea28 => ?_)
      subst ea28
      refine zr_iald (eX8_within 18 rfl) ?_
      refine zr_sipush (eX8_within 19 rfl) zk_sipush_255 ?_
      refine zr_iand (eX8_within 20 rfl) ?_
      refine zr_iload_n (eX8_within 21 rfl) rfl rfl ?_
      refine zr_icmp_lt (eX8_within 22 rfl) (t := 40) (by decide) ?_ ?_
      · refine zr_iinc (ls2 := [some (.ref a0, 8), some (.int x1, 0), some (.int (x21 + 1), 0)]) (eX8_within 25 rfl) rfl (Nat.le_of_ble_eq_true rfl) zk_iconst_1 rfl ?_
        refine zr_goto (eX8_within 26 rfl) (t := 2) (by decide) ?_
        exact v_drop [true, true, true] rfl (hk22 (x21 + 1))
      · refine zr_iconst (eX8_within 23 rfl) zk_iconst_0 ?_
        exact zr_zret rfl (by decide) rfl (eX8_within 24 rfl)
def gX9_init (h : Zh) (a0 : Nat) : Option (Zh) :=
  zlt (zsI h a0 0 0) (fun (h1 : Zh) => some h1)
set_option maxRecDepth 20000 in
theorem cX9_init_ok (l : Launch) (h : Zh) (a0 : Nat) : Zc l yX9_init mX9_init 0 h [(.ref a0, 9)] ((gX9_init h a0).map zoV) := by
  refine zc_of2 (ls := [some (.ref a0, 9)]) (j := 0) (by decide +kernel) rfl rfl (zEn_ca rfl) (Nat.le_of_ble_eq_true rfl) rfl ?_
  unfold gX9_init
  refine zr_aload_n (r := (some a0)) (eX9_init 0 rfl) rfl rfl ?_
  refine zr_objI ⟨zw_177, zw_80, zw_81⟩ ⟨Nat.le_of_ble_eq_true rfl, Nat.le_of_ble_eq_true rfl⟩ (Nat.le_of_ble_eq_true rfl) (eX9_init 1 rfl) ?_
  refine zr_aload_n (r := (some a0)) (eX9_init 2 rfl) rfl rfl ?_
  refine zr_iconst (eX9_init 3 rfl) zk_iconst_0 ?_
  refine zr_putI zf_RX9_7 rfl (Or.inl rfl) (eX9_init 4 rfl) ?_
  refine v_leth (fun h1 => ?_)
  exact zr_vret rfl rfl (eX9_init 5 rfl)
def gX10_kind (a0 : Nat) : Option (Int32) :=
  (some 1)
set_option maxRecDepth 20000 in
theorem cX10_kind_ok (l : Launch) (h : Zh) (a0 : Nat) : Zc l yX10_kind mX10_kind 0 h [(.ref a0, 10)] ((gX10_kind a0).map (zoi h)) := by
  refine zc_of2 (ls := [some (.ref a0, 10)]) (j := 0) (by decide +kernel) rfl rfl (zEn_ca rfl) (Nat.le_of_ble_eq_true rfl) rfl ?_
  unfold gX10_kind
  refine zr_iconst (eX10_kind 0 rfl) zk_iconst_1 ?_
  exact zr_iret rfl rfl (eX10_kind 1 rfl)
def gX11_init (h : Zh) (a0 : Nat) : Option (Zh) :=
  zlt (zN h) (fun a21 => zlt (zA h 2 4) (fun (h1 : Zh) => zlt (zN h1) (fun a22 => zlt (zA h1 0 6) (fun (h2 : Zh) => zbV (gX0_init h2 a22 6 1 2 1) (fun h3 => zbV (gX2_init h3 a21 (some a22)) (fun h4 => zlt (zsR h4 a0 0 (some a21)) (fun (h5 : Zh) => zg (zok 6) (zlt (zN h5) (fun a23 => zlt (zA h5 23 (zx 6)) (fun (h6 : Zh) => zlt (zsR h6 a0 1 (some a23)) (fun (h7 : Zh) => zg (zok 4) (zlt (zN h7) (fun a24 => zlt (zA h7 24 (zx 4)) (fun (h8 : Zh) => zlt (zsR h8 a0 2 (some a24)) (fun (h9 : Zh) => zlt (zN h9) (fun a25 => zlt (zA h9 9 1) (fun (h10 : Zh) => zbV (gX9_init h10 a25) (fun h11 => zlt (zsR h11 a0 3 (some a25)) (fun (h12 : Zh) => zlt (zsI h12 a0 4 0) (fun (h13 : Zh) => zlt (zsI h13 a0 5 0) (fun (h14 : Zh) => zlt (zsR h14 a0 6 none) (fun (h15 : Zh) => zlt (zsR h15 a0 7 none) (fun (h16 : Zh) => zlt (zsR h16 a0 8 none) (fun (h17 : Zh) => some h17))))))))))))))))))))))))
set_option maxRecDepth 20000 in
theorem cX11_init_ok (l : Launch) (h : Zh) (a0 : Nat) : Zc l yX11_init mX11_init 0 h [(.ref a0, 11)] ((gX11_init h a0).map zoV) := by
  refine zc_of2 (ls := [some (.ref a0, 11)]) (j := 0) (by decide +kernel) rfl rfl (zEn_ca rfl) (Nat.le_of_ble_eq_true rfl) rfl ?_
  unfold gX11_init
  refine zr_aload_n (r := (some a0)) (eX11_init 0 rfl) rfl rfl ?_
  refine zr_objI ⟨zw_79, zw_80, zw_81⟩ ⟨Nat.le_of_ble_eq_true rfl, Nat.le_of_ble_eq_true rfl⟩ (Nat.le_of_ble_eq_true rfl) (eX11_init 1 rfl) ?_
  refine zr_aload_n (r := (some a0)) (eX11_init 2 rfl) rfl rfl ?_
  refine zr_new zci2 zw_82 zw_83 zw_58 (eX11_init 3 rfl) ?_
  refine zr_leta (fun a21 => ?_)
  refine v_leth (fun h1 => ?_)
  refine zr_dup (eX11_init 4 rfl) rfl ?_
  refine zr_new zci0 zw_84 zw_85 zw_59 (eX11_init 5 rfl) ?_
  refine zr_leta (fun a22 => ?_)
  refine v_leth (fun h2 => ?_)
  refine zr_dup (eX11_init 6 rfl) rfl ?_
  refine zr_bipush (eX11_init 7 rfl) zk_bipush_6 ?_
  refine zr_iconst (eX11_init 8 rfl) zk_iconst_1 ?_
  refine zr_iconst (eX11_init 9 rfl) zk_iconst_2 ?_
  refine zr_iconst (eX11_init 10 rfl) zk_iconst_1 ?_
  refine zr_invI_V (as := [(.int 6, 0), (.int 1, 0), (.int 2, 0), (.int 1, 0)]) (cX0_init_ok l h2 a22 6 1 2 1) rfl zcd_X0_init rfl rfl ⟨zw_86, zw_87, zw_59⟩ ⟨Nat.le_of_ble_eq_true rfl, Nat.le_of_ble_eq_true rfl⟩ rfl (Nat.le_of_ble_eq_true rfl) (eX11_init 11 rfl) (fun h3 => ?_)
  refine zr_invI_V (as := [(.ref a22, 0)]) (cX2_init_ok l h3 a21 (some a22)) rfl zcd_X2_init rfl rfl ⟨zw_121, zw_122, zw_58⟩ ⟨Nat.le_of_ble_eq_true rfl, Nat.le_of_ble_eq_true rfl⟩ rfl (Nat.le_of_ble_eq_true rfl) (eX11_init 12 rfl) (fun h4 => ?_)
  refine zr_putR (x := (some a21)) zf_RX11_19 (by decide) (fun _ h => h) (Or.inr ⟨rfl, rfl⟩) (eX11_init 13 rfl) ?_
  refine v_leth (fun h5 => ?_)
  refine zr_aload_n (r := (some a0)) (eX11_init 14 rfl) rfl rfl ?_
  refine zr_bipush (eX11_init 15 rfl) zk_bipush_6 ?_
  refine zr_newq zQa_23 zw_168 (eX11_init 16 rfl) ?_
  refine zr_leta (fun a23 => ?_)
  refine v_leth (fun h6 => ?_)
  refine zr_putR (x := (some a23)) zf_RX11_27 (by decide) (fun _ h => h) (Or.inr ⟨rfl, rfl⟩) (eX11_init 17 rfl) ?_
  refine v_leth (fun h7 => ?_)
  refine zr_aload_n (r := (some a0)) (eX11_init 18 rfl) rfl rfl ?_
  refine zr_iconst (eX11_init 19 rfl) zk_iconst_4 ?_
  refine zr_newq zQa_24 zw_170 (eX11_init 20 rfl) ?_
  refine zr_leta (fun a24 => ?_)
  refine v_leth (fun h8 => ?_)
  refine zr_putR (x := (some a24)) zf_RX11_33 (by decide) (fun _ h => h) (Or.inr ⟨rfl, rfl⟩) (eX11_init 21 rfl) ?_
  refine v_leth (fun h9 => ?_)
  refine zr_aload_n (r := (some a0)) (eX11_init 22 rfl) rfl rfl ?_
  refine zr_new zci9 zw_172 zw_173 zw_61 (eX11_init 23 rfl) ?_
  refine zr_leta (fun a25 => ?_)
  refine v_leth (fun h10 => ?_)
  refine zr_dup (eX11_init 24 rfl) rfl ?_
  refine zr_invN_V (as := []) (host := "MagnetRows") (cX9_init_ok l h10 a25) rfl zcd_X9_init rfl rfl (by decide +kernel) ⟨zw_175, zw_61⟩ ⟨Nat.le_of_ble_eq_true rfl, Nat.le_of_ble_eq_true rfl⟩ rfl (Nat.le_of_ble_eq_true rfl) (eX11_init 25 rfl) (fun h11 => ?_)
  refine zr_putR (x := (some a25)) zf_RX11_40 (by decide) (fun _ h => h) (Or.inr ⟨rfl, rfl⟩) (eX11_init 26 rfl) ?_
  refine v_leth (fun h12 => ?_)
  refine zr_aload_n (r := (some a0)) (eX11_init 27 rfl) rfl rfl ?_
  refine zr_iconst (eX11_init 28 rfl) zk_iconst_0 ?_
  refine zr_putI zf_RX11_44 rfl (Or.inl rfl) (eX11_init 29 rfl) ?_
  refine v_leth (fun h13 => ?_)
  refine zr_aload_n (r := (some a0)) (eX11_init 30 rfl) rfl rfl ?_
  refine zr_iconst (eX11_init 31 rfl) zk_iconst_0 ?_
  refine zr_putI zf_RX11_48 rfl (Or.inl rfl) (eX11_init 32 rfl) ?_
  refine v_leth (fun h14 => ?_)
  refine zr_aload_n (r := (some a0)) (eX11_init 33 rfl) rfl rfl ?_
  refine zr_null (a := 5) (eX11_init 34 rfl) ?_
  refine zr_putR (x := none) zf_RX11_51 (by decide) (fun _ h => h) (Or.inl rfl) (eX11_init 35 rfl) ?_
  refine v_leth (fun h15 => ?_)
  refine zr_aload_n (r := (some a0)) (eX11_init 36 rfl) rfl rfl ?_
  refine zr_null (a := 1) (eX11_init 37 rfl) ?_
  refine zr_putR (x := none) zf_RX11_55 (by decide) (fun _ h => h) (Or.inl rfl) (eX11_init 38 rfl) ?_
  refine v_leth (fun h16 => ?_)
  refine zr_aload_n (r := (some a0)) (eX11_init 39 rfl) rfl rfl ?_
  refine zr_null (a := 3) (eX11_init 40 rfl) ?_
  refine zr_putR (x := none) zf_RX11_59 (by decide) (fun _ h => h) (Or.inl rfl) (eX11_init 41 rfl) ?_
  refine v_leth (fun h17 => ?_)
  exact zr_vret rfl rfl (eX11_init 42 rfl)
def gX11_chain (h : Zh) (a0 : Nat) (x1 : Int32) (x2 : Int32) (x3 : Int32) (x4 : Int32) : Option (Int32 × Zh) :=
  (if (x1 : Int32) < 2 then (some ((-2), h))
  else (if (8 : Int32) < x1 then (some ((-2), h))
  else (if (x3 : Int32) < 1 then (some ((-2), h))
  else (if (4 : Int32) < x3 then (some ((-2), h))
  else (if (x4 : Int32) < (-2) then (some ((-2), h))
  else (if (x4 : Int32) ≤ 2 then zlt (zN h) (fun a21 => zlt (zA h 0 6) (fun (h1 : Zh) => zbV (gX0_init h1 a21 x1 x2 x3 x4) (fun h2 => zlt (zR h2 a0 0) (fun r22 => Option.bind r22 (fun a23 => zbV (gX2_recordChain h2 a23 (some a21)) (fun h3 => (some ((zI h3 a21 4), h3))))))))
  else (some ((-2), h))))))))
set_option maxRecDepth 20000 in
theorem cX11_chain_ok (l : Launch) (h : Zh) (a0 : Nat) (x1 : Int32) (x2 : Int32) (x3 : Int32) (x4 : Int32) : Zc l yX11_chain mX11_chain 0 h [(.ref a0, 11), (.int x1, 0), (.int x2, 0), (.int x3, 0), (.int x4, 0)] ((gX11_chain h a0 x1 x2 x3 x4).map zoI) := by
  refine zc_of2 (ls := [some (.ref a0, 11), some (.int x1, 0), some (.int x2, 0), some (.int x3, 0), some (.int x4, 0), none]) (j := 1) (by decide +kernel) rfl rfl (zEn_ca (zEn_ci (zEn_ci (zEn_ci (zEn_ci rfl))))) (Nat.le_of_ble_eq_true rfl) rfl ?_
  unfold gX11_chain
  refine zr_iload_n (eX11_chain 0 rfl) rfl rfl ?_
  refine zr_iconst (eX11_chain 1 rfl) zk_iconst_2 ?_
  refine zr_icmp_lt (eX11_chain 2 rfl) (t := 34) (by decide) ?_ ?_
  · refine zr_bipush (eX11_chain 18 rfl) zk_bipush_m2 ?_
    exact zr_iret rfl rfl (eX11_chain 19 rfl)
  · refine zr_iload_n (eX11_chain 3 rfl) rfl rfl ?_
    refine zr_bipush (eX11_chain 4 rfl) zk_bipush_8 ?_
    refine zr_icmp_gt (eX11_chain 5 rfl) (t := 34) (by decide) ?_ ?_
    · refine zr_bipush (eX11_chain 18 rfl) zk_bipush_m2 ?_
      exact zr_iret rfl rfl (eX11_chain 19 rfl)
    · refine zr_iload_n (eX11_chain 6 rfl) rfl rfl ?_
      refine zr_iconst (eX11_chain 7 rfl) zk_iconst_1 ?_
      refine zr_icmp_lt (eX11_chain 8 rfl) (t := 34) (by decide) ?_ ?_
      · refine zr_bipush (eX11_chain 18 rfl) zk_bipush_m2 ?_
        exact zr_iret rfl rfl (eX11_chain 19 rfl)
      · refine zr_iload_n (eX11_chain 9 rfl) rfl rfl ?_
        refine zr_iconst (eX11_chain 10 rfl) zk_iconst_4 ?_
        refine zr_icmp_gt (eX11_chain 11 rfl) (t := 34) (by decide) ?_ ?_
        · refine zr_bipush (eX11_chain 18 rfl) zk_bipush_m2 ?_
          exact zr_iret rfl rfl (eX11_chain 19 rfl)
        · refine zr_iload (eX11_chain 12 rfl) rfl ?_
          refine zr_bipush (eX11_chain 13 rfl) zk_bipush_m2 ?_
          refine zr_icmp_lt (eX11_chain 14 rfl) (t := 34) (by decide) ?_ ?_
          · refine zr_bipush (eX11_chain 18 rfl) zk_bipush_m2 ?_
            exact zr_iret rfl rfl (eX11_chain 19 rfl)
          · refine zr_iload (eX11_chain 15 rfl) rfl ?_
            refine zr_iconst (eX11_chain 16 rfl) zk_iconst_2 ?_
            refine zr_icmp_le (eX11_chain 17 rfl) (t := 37) (by decide) ?_ ?_
            · refine zr_new zci0 zw_84 zw_85 zw_59 (eX11_chain 20 rfl) ?_
              refine zr_leta (fun a21 => ?_)
              refine v_leth (fun h1 => ?_)
              refine zr_dup (eX11_chain 21 rfl) rfl ?_
              refine zr_iload_n (eX11_chain 22 rfl) rfl rfl ?_
              refine zr_iload_n (eX11_chain 23 rfl) rfl rfl ?_
              refine zr_iload_n (eX11_chain 24 rfl) rfl rfl ?_
              refine zr_iload (eX11_chain 25 rfl) rfl ?_
              refine zr_invI_V (as := [(.int x1, 0), (.int x2, 0), (.int x3, 0), (.int x4, 0)]) (cX0_init_ok l h1 a21 x1 x2 x3 x4) rfl zcd_X0_init rfl rfl ⟨zw_86, zw_87, zw_59⟩ ⟨Nat.le_of_ble_eq_true rfl, Nat.le_of_ble_eq_true rfl⟩ rfl (Nat.le_of_ble_eq_true rfl) (eX11_chain 26 rfl) (fun h2 => ?_)
              refine zr_astore (r := (some a21)) (ls2 := [some (.ref a0, 11), some (.int x1, 0), some (.int x2, 0), some (.int x3, 0), some (.int x4, 0), some (.ref a21, 0)]) (eX11_chain 27 rfl) (Nat.le_of_ble_eq_true rfl) rfl ?_
              refine zr_aload_n (r := (some a0)) (eX11_chain 28 rfl) rfl rfl ?_
              refine zr_getR2 zf_RX11_19 (τ2 := 2) rfl (eX11_chain 29 rfl) ?_
              refine v_letr (fun r22 => ?_)
              refine zr_aload (r := (some a21)) (eX11_chain 30 rfl) rfl ?_
              refine v_nn (fun a23 ea23 => ?_)
              subst ea23
              refine zr_invV_V (as := [(.ref a21, 0)]) (cX2_recordChain_ok l h2 a23 (some a21)) rfl rfl ⟨by decide, by decide, by decide⟩ zcd_X2_recordChain rfl ⟨zw_215, zw_216, zw_217, zw_58⟩ ⟨Nat.le_of_ble_eq_true rfl, Nat.le_of_ble_eq_true rfl⟩ rfl (Nat.le_of_ble_eq_true rfl) (eX11_chain 31 rfl) (fun h3 => ?_)
              refine zr_aload (r := (some a21)) (eX11_chain 32 rfl) rfl ?_
              refine zr_getI zf_RX11_66 ⟨by decide, by decide⟩ (eX11_chain 33 rfl) ?_
              exact zr_iret rfl rfl (eX11_chain 34 rfl)
            · refine zr_bipush (eX11_chain 18 rfl) zk_bipush_m2 ?_
              exact zr_iret rfl rfl (eX11_chain 19 rfl)
def gX11_noState_J1 : Option (Int32) :=
  (some 1)
def gX11_noState (x0 : Int32) (x1 : Int32) : Option (Int32) :=
  zjn gX11_noState_J1 (fun (k21 : Option (Int32)) =>
  (if (x0 : Int32) < 0 then k21
  else (if (x0 : Int32) < ((1 : Int32) <<< (x1 &&& 31)) then (some 0)
  else k21)))
set_option maxRecDepth 20000 in
theorem cX11_noState_ok (l : Launch) (h : Zh) (x0 : Int32) (x1 : Int32) : Zc l yX11_noState mX11_noState 0 h [(.int x0, 0), (.int x1, 0)] ((gX11_noState x0 x1).map (zoi h)) := by
  refine zc_of2 (ls := [some (.int x0, 0), some (.int x1, 0)]) (j := 0) (by decide +kernel) rfl rfl (zEn_ci (zEn_ci rfl)) (Nat.le_of_ble_eq_true rfl) rfl ?_
  unfold gX11_noState
  refine zr_iload_n (eX11_noState 0 rfl) rfl rfl ?_
  refine v_jn (fun (k21 : Option (Int32)) => V l mX11_noState (zN h) (zS h) 0 (zoi h) 11 [none, none] [] h k21) ?_ ?_
  · skip
    unfold gX11_noState_J1
    refine zr_iconst (eX11_noState 7 rfl) zk_iconst_1 ?_
    refine zr_goto (eX11_noState 8 rfl) (t := 16) (by decide) ?_
    exact zr_zret rfl (by decide) rfl (eX11_noState 10 rfl)
  intro k21 hk21
  refine zr_if_lt (eX11_noState 1 rfl) (t := 11) (by decide) ?_ ?_
  · exact v_drop [false, false] rfl (hk21)
  · refine zr_iload_n (eX11_noState 2 rfl) rfl rfl ?_
    refine zr_iconst (eX11_noState 3 rfl) zk_iconst_1 ?_
    refine zr_iload_n (eX11_noState 4 rfl) rfl rfl ?_
    refine zr_ishl (eX11_noState 5 rfl) ?_
    refine zr_icmp_lt (eX11_noState 6 rfl) (t := 15) (by decide) ?_ ?_
    · refine zr_iconst (eX11_noState 9 rfl) zk_iconst_0 ?_
      exact zr_zret rfl (by decide) rfl (eX11_noState 10 rfl)
    · exact v_drop [false, false] rfl (hk21)
def gX11_act (h : Zh) (a0 : Nat) (x1 : Int32) (x2 : Int32) : Option (Int64) :=
  zlt (zR h a0 0) (fun r21 => Option.bind r21 (fun a22 => zbr (gX2_chainNow h a22) (fun r23 => Option.bind r23 (fun a24 => zbi (gX11_noState x1 (zI h a24 0)) (fun x25 => (if (x25 : Int32) = 0 then zbi (gX11_noState x2 (zI h a24 0)) (fun x26 => (if (x26 : Int32) = 0 then zbi (gX0_hop h a24 x1 x2) (fun x27 => (some ((x27 : Int32).toInt64)))
  else (some (-9223372036854775808))))
  else (some (-9223372036854775808))))))))
set_option maxRecDepth 20000 in
theorem cX11_act_ok (l : Launch) (h : Zh) (a0 : Nat) (x1 : Int32) (x2 : Int32) : Zc l yX11_act mX11_act 0 h [(.ref a0, 11), (.int x1, 0), (.int x2, 0)] ((gX11_act h a0 x1 x2).map (zoj h)) := by
  refine zc_of2 (ls := [some (.ref a0, 11), some (.int x1, 0), some (.int x2, 0), none]) (j := 1) (by decide +kernel) rfl rfl (zEn_ca (zEn_ci (zEn_ci rfl))) (Nat.le_of_ble_eq_true rfl) rfl ?_
  unfold gX11_act
  refine zr_aload_n (r := (some a0)) (eX11_act 0 rfl) rfl rfl ?_
  refine zr_getR2 zf_RX11_19 (τ2 := 2) rfl (eX11_act 1 rfl) ?_
  refine v_letr (fun r21 => ?_)
  refine v_nn (fun a22 ea22 => ?_)
  subst ea22
  refine zr_invV_r (as := []) (cX2_chainNow_ok l h a22) rfl rfl ⟨by decide, by decide, by decide⟩ zcd_X2_chainNow rfl ⟨zw_231, zw_232, zw_233, zw_58⟩ ⟨Nat.le_of_ble_eq_true rfl, Nat.le_of_ble_eq_true rfl⟩ rfl (Nat.le_of_ble_eq_true rfl) (eX11_act 2 rfl) (fun r23 => ?_)
  refine zr_astore_n (r := r23) (ls2 := [some (.ref a0, 11), some (.int x1, 0), some (.int x2, 0), some (va_rf r23, 0)]) (eX11_act 3 rfl) rfl (Nat.le_of_ble_eq_true rfl) rfl ?_
  refine zr_iload_n (eX11_act 4 rfl) rfl rfl ?_
  refine zr_aload_n (r := r23) (eX11_act 5 rfl) rfl rfl ?_
  refine v_nn (fun a24 ea24 => ?_)
  subst ea24
  refine zr_getI zf_RX11_73 ⟨by decide, by decide⟩ (eX11_act 6 rfl) ?_
  refine zr_invS_i (as := [(.int x1, 0), (.int (zI h a24 0), 0)]) (cX11_noState_ok l h x1 (zI h a24 0)) rfl zcd_X11_noState ⟨zw_235, zw_236, zw_57⟩ ⟨Nat.le_of_ble_eq_true rfl, Nat.le_of_ble_eq_true rfl⟩ rfl (Nat.le_of_ble_eq_true rfl) (eX11_act 7 rfl) (fun x25 => ?_)
  refine zr_if_ne (eX11_act 8 rfl) (t := 30) (by decide) ?_ ?_
  · refine zr_ldc2 (eX11_act 14 rfl) zw_238 ?_
    exact zr_lret rfl rfl (eX11_act 15 rfl)
  · refine zr_iload_n (eX11_act 9 rfl) rfl rfl ?_
    refine zr_aload_n (r := (some a24)) (eX11_act 10 rfl) rfl rfl ?_
    refine zr_getI zf_RX11_73 ⟨by decide, by decide⟩ (eX11_act 11 rfl) ?_
    refine zr_invS_i (as := [(.int x2, 0), (.int (zI h a24 0), 0)]) (cX11_noState_ok l h x2 (zI h a24 0)) rfl zcd_X11_noState ⟨zw_235, zw_236, zw_57⟩ ⟨Nat.le_of_ble_eq_true rfl, Nat.le_of_ble_eq_true rfl⟩ rfl (Nat.le_of_ble_eq_true rfl) (eX11_act 12 rfl) (fun x26 => ?_)
    refine zr_if_eq (eX11_act 13 rfl) (t := 34) (by decide) ?_ ?_
    · refine zr_aload_n (r := (some a24)) (eX11_act 16 rfl) rfl rfl ?_
      refine zr_iload_n (eX11_act 17 rfl) rfl rfl ?_
      refine zr_iload_n (eX11_act 18 rfl) rfl rfl ?_
      refine zr_invV_i (as := [(.int x1, 0), (.int x2, 0)]) (cX0_hop_ok l h a24 x1 x2) rfl rfl ⟨by decide, by decide, by decide⟩ zcd_X0_hop rfl ⟨zw_239, zw_240, zw_241, zw_59⟩ ⟨Nat.le_of_ble_eq_true rfl, Nat.le_of_ble_eq_true rfl⟩ rfl (Nat.le_of_ble_eq_true rfl) (eX11_act 19 rfl) (fun x27 => ?_)
      refine zr_i2l (eX11_act 20 rfl) ?_
      exact zr_lret rfl rfl (eX11_act 21 rfl)
    · refine zr_ldc2 (eX11_act 14 rfl) zw_238 ?_
      exact zr_lret rfl rfl (eX11_act 15 rfl)
def gX11_turned (h : Zh) (a0 : Nat) (x1 : Int32) : Option (Int32) :=
  zlt (zR h a0 0) (fun r21 => Option.bind r21 (fun a22 => zbr (gX2_chainNow h a22) (fun r23 => Option.bind r23 (fun a24 => zbi (gX11_noState x1 (zI h a24 0)) (fun x25 => (if (x25 : Int32) = 0 then zbi (gX0_turn h a24 x1) (fun x26 => (some x26))
  else (some (-2))))))))
set_option maxRecDepth 20000 in
theorem cX11_turned_ok (l : Launch) (h : Zh) (a0 : Nat) (x1 : Int32) : Zc l yX11_turned mX11_turned 0 h [(.ref a0, 11), (.int x1, 0)] ((gX11_turned h a0 x1).map (zoi h)) := by
  refine zc_of2 (ls := [some (.ref a0, 11), some (.int x1, 0), none]) (j := 1) (by decide +kernel) rfl rfl (zEn_ca (zEn_ci rfl)) (Nat.le_of_ble_eq_true rfl) rfl ?_
  unfold gX11_turned
  refine zr_aload_n (r := (some a0)) (eX11_turned 0 rfl) rfl rfl ?_
  refine zr_getR2 zf_RX11_19 (τ2 := 2) rfl (eX11_turned 1 rfl) ?_
  refine v_letr (fun r21 => ?_)
  refine v_nn (fun a22 ea22 => ?_)
  subst ea22
  refine zr_invV_r (as := []) (cX2_chainNow_ok l h a22) rfl rfl ⟨by decide, by decide, by decide⟩ zcd_X2_chainNow rfl ⟨zw_231, zw_232, zw_233, zw_58⟩ ⟨Nat.le_of_ble_eq_true rfl, Nat.le_of_ble_eq_true rfl⟩ rfl (Nat.le_of_ble_eq_true rfl) (eX11_turned 2 rfl) (fun r23 => ?_)
  refine zr_astore_n (r := r23) (ls2 := [some (.ref a0, 11), some (.int x1, 0), some (va_rf r23, 0)]) (eX11_turned 3 rfl) rfl (Nat.le_of_ble_eq_true rfl) rfl ?_
  refine zr_iload_n (eX11_turned 4 rfl) rfl rfl ?_
  refine zr_aload_n (r := r23) (eX11_turned 5 rfl) rfl rfl ?_
  refine v_nn (fun a24 ea24 => ?_)
  subst ea24
  refine zr_getI zf_RX11_73 ⟨by decide, by decide⟩ (eX11_turned 6 rfl) ?_
  refine zr_invS_i (as := [(.int x1, 0), (.int (zI h a24 0), 0)]) (cX11_noState_ok l h x1 (zI h a24 0)) rfl zcd_X11_noState ⟨zw_235, zw_236, zw_57⟩ ⟨Nat.le_of_ble_eq_true rfl, Nat.le_of_ble_eq_true rfl⟩ rfl (Nat.le_of_ble_eq_true rfl) (eX11_turned 7 rfl) (fun x25 => ?_)
  refine zr_if_eq (eX11_turned 8 rfl) (t := 24) (by decide) ?_ ?_
  · refine zr_aload_n (r := (some a24)) (eX11_turned 11 rfl) rfl rfl ?_
    refine zr_iload_n (eX11_turned 12 rfl) rfl rfl ?_
    refine zr_invV_i (as := [(.int x1, 0)]) (cX0_turn_ok l h a24 x1) rfl rfl ⟨by decide, by decide, by decide⟩ zcd_X0_turn rfl ⟨zw_269, zw_270, zw_271, zw_59⟩ ⟨Nat.le_of_ble_eq_true rfl, Nat.le_of_ble_eq_true rfl⟩ rfl (Nat.le_of_ble_eq_true rfl) (eX11_turned 13 rfl) (fun x26 => ?_)
    exact zr_iret rfl rfl (eX11_turned 14 rfl)
  · refine zr_bipush (eX11_turned 9 rfl) zk_bipush_m2 ?_
    refine zr_goto (eX11_turned 10 rfl) (t := 29) (by decide) ?_
    exact zr_iret rfl rfl (eX11_turned 14 rfl)
def gX11_noSector_J1 : Option (Int32) :=
  (some 1)
def gX11_noSector_J2 : Option (Int32) :=
  (some 0)
def gX11_noSector (h : Zh) (a0 : Nat) (x1 : Int32) (x2 : Int32) : Option (Int32) :=
  zjn gX11_noSector_J1 (fun (k21 : Option (Int32)) =>
  (if (x1 : Int32) < 0 then k21
  else zlt (zR h a0 0) (fun r22 => Option.bind r22 (fun a23 => zbr (gX2_chainNow h a23) (fun r24 => Option.bind r24 (fun a25 => (if ((zI h a25 0) : Int32) < x1 then k21
  else zjn gX11_noSector_J2 (fun (k26 : Option (Int32)) =>
  (if (x2 : Int32) = 1 then k26
  else (if (x2 : Int32) = (-1) then k26
  else k21))))))))))
set_option maxRecDepth 20000 in
theorem cX11_noSector_ok (l : Launch) (h : Zh) (a0 : Nat) (x1 : Int32) (x2 : Int32) : Zc l yX11_noSector mX11_noSector 0 h [(.ref a0, 11), (.int x1, 0), (.int x2, 0)] ((gX11_noSector h a0 x1 x2).map (zoi h)) := by
  refine zc_of2 (ls := [some (.ref a0, 11), some (.int x1, 0), some (.int x2, 0)]) (j := 0) (by decide +kernel) rfl rfl (zEn_ca (zEn_ci (zEn_ci rfl))) (Nat.le_of_ble_eq_true rfl) rfl ?_
  unfold gX11_noSector
  refine zr_iload_n (eX11_noSector 0 rfl) rfl rfl ?_
  refine v_jn (fun (k21 : Option (Int32)) => V l mX11_noSector (zN h) (zS h) 0 (zoi h) 28 [none, none, none] [] h k21) ?_ ?_
  · skip
    unfold gX11_noSector_J1
    refine zr_iconst (eX11_noSector 14 rfl) zk_iconst_1 ?_
    refine zr_goto (eX11_noSector 15 rfl) (t := 33) (by decide) ?_
    exact zr_zret rfl (by decide) rfl (eX11_noSector 17 rfl)
  intro k21 hk21
  refine zr_if_lt (eX11_noSector 1 rfl) (t := 28) (by decide) ?_ ?_
  · exact v_drop [false, false, false] rfl (hk21)
  · refine zr_iload_n (eX11_noSector 2 rfl) rfl rfl ?_
    refine zr_aload_n (r := (some a0)) (eX11_noSector 3 rfl) rfl rfl ?_
    refine zr_getR2 zf_RX11_19 (τ2 := 2) rfl (eX11_noSector 4 rfl) ?_
    refine v_letr (fun r22 => ?_)
    refine v_nn (fun a23 ea23 => ?_)
    subst ea23
    refine zr_invV_r (as := []) (cX2_chainNow_ok l h a23) rfl rfl ⟨by decide, by decide, by decide⟩ zcd_X2_chainNow rfl ⟨zw_231, zw_232, zw_233, zw_58⟩ ⟨Nat.le_of_ble_eq_true rfl, Nat.le_of_ble_eq_true rfl⟩ rfl (Nat.le_of_ble_eq_true rfl) (eX11_noSector 5 rfl) (fun r24 => ?_)
    refine v_nn (fun a25 ea25 => ?_)
    subst ea25
    refine zr_getI zf_RX11_73 ⟨by decide, by decide⟩ (eX11_noSector 6 rfl) ?_
    refine zr_icmp_gt (eX11_noSector 7 rfl) (t := 28) (by decide) ?_ ?_
    · exact v_drop [false, false, false] rfl (hk21)
    · refine zr_iload_n (eX11_noSector 8 rfl) rfl rfl ?_
      refine zr_iconst (eX11_noSector 9 rfl) zk_iconst_1 ?_
      refine v_jn (fun (k26 : Option (Int32)) => V l mX11_noSector (zN h) (zS h) 0 (zoi h) 32 [none, none, none] [] h k26) ?_ ?_
      · skip
        unfold gX11_noSector_J2
        refine zr_iconst (eX11_noSector 16 rfl) zk_iconst_0 ?_
        exact zr_zret rfl (by decide) rfl (eX11_noSector 17 rfl)
      intro k26 hk26
      refine zr_icmp_eq (eX11_noSector 10 rfl) (t := 32) (by decide) ?_ ?_
      · exact v_drop [false, false, false] rfl (hk26)
      · refine zr_iload_n (eX11_noSector 11 rfl) rfl rfl ?_
        refine zr_iconst (eX11_noSector 12 rfl) zk_iconst_m1 ?_
        refine zr_icmp_eq (eX11_noSector 13 rfl) (t := 32) (by decide) ?_ ?_
        · exact v_drop [false, false, false] rfl (hk26)
        · exact v_drop [false, false, false] rfl (hk21)
def gX11_sectorOf_J1 (a0 : Nat) (x1 : Int32) (x2 : Int32) : Zh → Option (Option Nat × Zh) :=
  fun (h1 : Zh) => zlt (zR h1 a0 6) (fun r22 => zlt (zR h1 a0 0) (fun r23 => Option.bind r23 (fun a24 => zbr (gX2_chainNow h1 a24) (fun r25 => Option.bind r22 (fun a26 => zbV (gX5_prepare h1 a26 r25 x1 x2) (fun h2 => zlt (zR h2 a0 6) (fun r27 => (some (r27, h2)))))))))
def gX11_sectorOf (h : Zh) (a0 : Nat) (x1 : Int32) (x2 : Int32) : Option (Option Nat × Zh) :=
  zlt (zR h a0 6) (fun r21 => zjn (gX11_sectorOf_J1 a0 x1 x2) (fun (k28 : Zh → Option (Option Nat × Zh)) =>
  (zcs r21 (zlt (zN h) (fun a29 => zlt (zA h 5 18) (fun (h3 : Zh) => zbV (gX5_init h3 a29) (fun h4 => zlt (zsR h4 a0 6 (some a29)) (fun (h5 : Zh) => k28 h5))))) (fun a30 => k28 h))))
set_option maxRecDepth 20000 in
theorem cX11_sectorOf_ok (l : Launch) (h : Zh) (a0 : Nat) (x1 : Int32) (x2 : Int32) : Zc l yX11_sectorOf mX11_sectorOf 5 h [(.ref a0, 11), (.int x1, 0), (.int x2, 0)] ((gX11_sectorOf h a0 x1 x2).map zoR) := by
  refine zc_of2 (ls := [some (.ref a0, 11), some (.int x1, 0), some (.int x2, 0)]) (j := 0) (by decide +kernel) rfl rfl (zEn_ca (zEn_ci (zEn_ci rfl))) (Nat.le_of_ble_eq_true rfl) rfl ?_
  unfold gX11_sectorOf
  refine zr_aload_n (r := (some a0)) (eX11_sectorOf 0 rfl) rfl rfl ?_
  refine zr_getR2 zf_RX11_51 (τ2 := 5) rfl (eX11_sectorOf 1 rfl) ?_
  refine v_letr (fun r21 => ?_)
  refine v_jn (fun (k28 : Zh → Option (Option Nat × Zh)) => ∀ (h1 : Zh), V l mX11_sectorOf (zN h) (zS h) 5 zoR 18 [some (.ref a0, 11), some (.int x1, 0), some (.int x2, 0)] [] h1 (k28 h1)) ?_ ?_
  · intro h1
    unfold gX11_sectorOf_J1
    refine zr_aload_n (r := (some a0)) (eX11_sectorOf 8 rfl) rfl rfl ?_
    refine zr_getR2 zf_RX11_51 (τ2 := 5) rfl (eX11_sectorOf 9 rfl) ?_
    refine v_letr (fun r22 => ?_)
    refine zr_aload_n (r := (some a0)) (eX11_sectorOf 10 rfl) rfl rfl ?_
    refine zr_getR2 zf_RX11_19 (τ2 := 2) rfl (eX11_sectorOf 11 rfl) ?_
    refine v_letr (fun r23 => ?_)
    refine v_nn (fun a24 ea24 => ?_)
    subst ea24
    refine zr_invV_r (as := []) (cX2_chainNow_ok l h1 a24) rfl rfl ⟨by decide, by decide, by decide⟩ zcd_X2_chainNow rfl ⟨zw_231, zw_232, zw_233, zw_58⟩ ⟨Nat.le_of_ble_eq_true rfl, Nat.le_of_ble_eq_true rfl⟩ rfl (Nat.le_of_ble_eq_true rfl) (eX11_sectorOf 12 rfl) (fun r25 => ?_)
    refine zr_iload_n (eX11_sectorOf 13 rfl) rfl rfl ?_
    refine zr_iload_n (eX11_sectorOf 14 rfl) rfl rfl ?_
    refine v_nn (fun a26 ea26 => ?_)
    subst ea26
    refine zr_invV_V (as := [(va_rf r25, 0), (.int x1, 0), (.int x2, 0)]) (cX5_prepare_ok l h1 a26 r25 x1 x2) rfl rfl ⟨by decide, by decide, by decide⟩ zcd_X5_prepare rfl ⟨zw_356, zw_357, zw_358, zw_64⟩ ⟨Nat.le_of_ble_eq_true rfl, Nat.le_of_ble_eq_true rfl⟩ rfl (Nat.le_of_ble_eq_true rfl) (eX11_sectorOf 15 rfl) (fun h2 => ?_)
    refine zr_aload_n (r := (some a0)) (eX11_sectorOf 16 rfl) rfl rfl ?_
    refine zr_getR2 zf_RX11_51 (τ2 := 5) rfl (eX11_sectorOf 17 rfl) ?_
    refine v_letr (fun r27 => ?_)
    exact zr_aret (r := r27) rfl rfl (Or.inl ⟨_, rfl⟩) (eX11_sectorOf 18 rfl)
  intro k28 hk28
  refine zr_nonnull2 (eX11_sectorOf 2 rfl) (t := 18) (by decide) (fun ea30 => ?_) (fun a30 ea30 => ?_)
  · subst ea30
    refine zr_aload_n (r := (some a0)) (eX11_sectorOf 3 rfl) rfl rfl ?_
    refine zr_new zci5 zw_289 zw_290 zw_64 (eX11_sectorOf 4 rfl) ?_
    refine zr_leta (fun a29 => ?_)
    refine v_leth (fun h3 => ?_)
    refine zr_dup (eX11_sectorOf 5 rfl) rfl ?_
    refine zr_invN_V (as := []) (host := "MagnetRows") (cX5_init_ok l h3 a29) rfl zcd_X5_init rfl rfl (by decide +kernel) ⟨zw_292, zw_64⟩ ⟨Nat.le_of_ble_eq_true rfl, Nat.le_of_ble_eq_true rfl⟩ rfl (Nat.le_of_ble_eq_true rfl) (eX11_sectorOf 6 rfl) (fun h4 => ?_)
    refine zr_putR (x := (some a29)) zf_RX11_51 (by decide) (fun _ h => h) (Or.inl rfl) (eX11_sectorOf 7 rfl) ?_
    refine v_leth (fun h5 => ?_)
    exact v_drop [true, true, true] rfl (hk28 h5)
  · subst ea30
    exact v_drop [true, true, true] rfl (hk28 h)
def gX11_size (h : Zh) (a0 : Nat) (x1 : Int32) (x2 : Int32) : Option (Int32 × Zh) :=
  zbi (gX11_noSector h a0 x1 x2) (fun x21 => (if (x21 : Int32) = 0 then zbR (gX11_sectorOf h a0 x1 x2) (fun r22 h1 => Option.bind r22 (fun a23 => (some ((zI h1 a23 13), h1))))
  else (some ((-2), h))))
set_option maxRecDepth 20000 in
theorem cX11_size_ok (l : Launch) (h : Zh) (a0 : Nat) (x1 : Int32) (x2 : Int32) : Zc l yX11_size mX11_size 0 h [(.ref a0, 11), (.int x1, 0), (.int x2, 0)] ((gX11_size h a0 x1 x2).map zoI) := by
  refine zc_of2 (ls := [some (.ref a0, 11), some (.int x1, 0), some (.int x2, 0)]) (j := 0) (by decide +kernel) rfl rfl (zEn_ca (zEn_ci (zEn_ci rfl))) (Nat.le_of_ble_eq_true rfl) rfl ?_
  unfold gX11_size
  refine zr_aload_n (r := (some a0)) (eX11_size 0 rfl) rfl rfl ?_
  refine zr_iload_n (eX11_size 1 rfl) rfl rfl ?_
  refine zr_iload_n (eX11_size 2 rfl) rfl rfl ?_
  refine zr_invV_i (as := [(.int x1, 0), (.int x2, 0)]) (cX11_noSector_ok l h a0 x1 x2) rfl rfl ⟨by decide, by decide, by decide⟩ zcd_X11_noSector rfl ⟨zw_281, zw_283, zw_2, zw_57⟩ ⟨Nat.le_of_ble_eq_true rfl, Nat.le_of_ble_eq_true rfl⟩ rfl (Nat.le_of_ble_eq_true rfl) (eX11_size 3 rfl) (fun x21 => ?_)
  refine zr_if_eq (eX11_size 4 rfl) (t := 14) (by decide) ?_ ?_
  · refine zr_aload_n (r := (some a0)) (eX11_size 7 rfl) rfl rfl ?_
    refine zr_iload_n (eX11_size 8 rfl) rfl rfl ?_
    refine zr_iload_n (eX11_size 9 rfl) rfl rfl ?_
    refine zr_invV_R (as := [(.int x1, 0), (.int x2, 0)]) (cX11_sectorOf_ok l h a0 x1 x2) rfl rfl ⟨by decide, by decide, by decide⟩ zcd_X11_sectorOf rfl ⟨zw_285, zw_287, zw_3, zw_57⟩ ⟨Nat.le_of_ble_eq_true rfl, Nat.le_of_ble_eq_true rfl⟩ rfl (Nat.le_of_ble_eq_true rfl) (eX11_size 10 rfl) (fun r22 h1 => ?_)
    refine v_nn (fun a23 ea23 => ?_)
    subst ea23
    refine zr_getI zf_RX11_97 ⟨by decide, by decide⟩ (eX11_size 11 rfl) ?_
    exact zr_iret rfl rfl (eX11_size 12 rfl)
  · refine zr_bipush (eX11_size 5 rfl) zk_bipush_m2 ?_
    refine zr_goto (eX11_size 6 rfl) (t := 23) (by decide) ?_
    exact zr_iret rfl rfl (eX11_size 12 rfl)
def gX11_head (h : Zh) (a0 : Nat) (x1 : Int32) (x2 : Int32) (x3 : Int32) : Option (Int32 × Zh) :=
  zbi (gX11_noSector h a0 x1 x2) (fun x21 => (if (x21 : Int32) = 0 then zbR (gX11_sectorOf h a0 x1 x2) (fun r22 h1 => Option.bind r22 (fun a23 => zbi (gX5_hasOrbit h1 a23 x3) (fun x24 => (if (x24 : Int32) = 0 then (some ((-1), h1))
  else zlt (zR h1 a23 0) (fun r25 => Option.bind r25 (fun a26 => zg (zin x3 (zL h1 a26)) ((some ((zI h1 a26 (zx x3)), h1)))))))))
  else (some ((-2), h))))
set_option maxRecDepth 20000 in
theorem cX11_head_ok (l : Launch) (h : Zh) (a0 : Nat) (x1 : Int32) (x2 : Int32) (x3 : Int32) : Zc l yX11_head mX11_head 0 h [(.ref a0, 11), (.int x1, 0), (.int x2, 0), (.int x3, 0)] ((gX11_head h a0 x1 x2 x3).map zoI) := by
  refine zc_of2 (ls := [some (.ref a0, 11), some (.int x1, 0), some (.int x2, 0), some (.int x3, 0), none]) (j := 1) (by decide +kernel) rfl rfl (zEn_ca (zEn_ci (zEn_ci (zEn_ci rfl)))) (Nat.le_of_ble_eq_true rfl) rfl ?_
  unfold gX11_head
  refine zr_aload_n (r := (some a0)) (eX11_head 0 rfl) rfl rfl ?_
  refine zr_iload_n (eX11_head 1 rfl) rfl rfl ?_
  refine zr_iload_n (eX11_head 2 rfl) rfl rfl ?_
  refine zr_invV_i (as := [(.int x1, 0), (.int x2, 0)]) (cX11_noSector_ok l h a0 x1 x2) rfl rfl ⟨by decide, by decide, by decide⟩ zcd_X11_noSector rfl ⟨zw_281, zw_283, zw_2, zw_57⟩ ⟨Nat.le_of_ble_eq_true rfl, Nat.le_of_ble_eq_true rfl⟩ rfl (Nat.le_of_ble_eq_true rfl) (eX11_head 3 rfl) (fun x21 => ?_)
  refine zr_if_eq (eX11_head 4 rfl) (t := 12) (by decide) ?_ ?_
  · refine zr_aload_n (r := (some a0)) (eX11_head 7 rfl) rfl rfl ?_
    refine zr_iload_n (eX11_head 8 rfl) rfl rfl ?_
    refine zr_iload_n (eX11_head 9 rfl) rfl rfl ?_
    refine zr_invV_R (as := [(.int x1, 0), (.int x2, 0)]) (cX11_sectorOf_ok l h a0 x1 x2) rfl rfl ⟨by decide, by decide, by decide⟩ zcd_X11_sectorOf rfl ⟨zw_285, zw_287, zw_3, zw_57⟩ ⟨Nat.le_of_ble_eq_true rfl, Nat.le_of_ble_eq_true rfl⟩ rfl (Nat.le_of_ble_eq_true rfl) (eX11_head 10 rfl) (fun r22 h1 => ?_)
    refine zr_astore (r := r22) (ls2 := [some (.ref a0, 11), some (.int x1, 0), some (.int x2, 0), some (.int x3, 0), some (va_rf r22, 5)]) (eX11_head 11 rfl) (Nat.le_of_ble_eq_true rfl) rfl ?_
    refine zr_aload (r := r22) (eX11_head 12 rfl) rfl ?_
    refine zr_iload_n (eX11_head 13 rfl) rfl rfl ?_
    refine v_nn (fun a23 ea23 => ?_)
    subst ea23
    refine zr_invV_i (as := [(.int x3, 0)]) (cX5_hasOrbit_ok l h1 a23 x3) rfl rfl ⟨by decide, by decide, by decide⟩ zcd_X5_hasOrbit rfl ⟨zw_374, zw_375, zw_376, zw_64⟩ ⟨Nat.le_of_ble_eq_true rfl, Nat.le_of_ble_eq_true rfl⟩ rfl (Nat.le_of_ble_eq_true rfl) (eX11_head 14 rfl) (fun x24 => ?_)
    refine zr_if_eq (eX11_head 15 rfl) (t := 39) (by decide) ?_ ?_
    · refine zr_iconst (eX11_head 21 rfl) zk_iconst_m1 ?_
      exact zr_iret rfl rfl (eX11_head 22 rfl)
    · refine zr_aload (r := (some a23)) (eX11_head 16 rfl) rfl ?_
      refine zr_getR2 zf_RX11_106 (τ2 := 20) rfl (eX11_head 17 rfl) ?_
      refine v_letr (fun r25 => ?_)
      refine zr_iload_n (eX11_head 18 rfl) rfl rfl ?_
      refine v_nn (fun a26 ea26 => ?_)
      subst ea26
      refine zr_iald (eX11_head 19 rfl) ?_
      refine zr_goto (eX11_head 20 rfl) (t := 40) (by decide) ?_
      exact zr_iret rfl rfl (eX11_head 22 rfl)
  · refine zr_bipush (eX11_head 5 rfl) zk_bipush_m2 ?_
    exact zr_iret rfl rfl (eX11_head 6 rfl)
def gX11_entry (h : Zh) (a0 : Nat) (x1 : Int32) (x2 : Int32) (x3 : Int32) (x4 : Int32) : Option (Int64 × Zh) :=
  zbi (gX11_noSector h a0 x1 x2) (fun x21 => (if (x21 : Int32) = 0 then zbR (gX11_sectorOf h a0 x1 x2) (fun r22 h1 => Option.bind r22 (fun a23 => zbi (gX5_hasOrbit h1 a23 x3) (fun x24 => (if (x24 : Int32) = 0 then (some ((-9223372036854775808), h1))
  else zbi (gX5_hasOrbit h1 a23 x4) (fun x25 => (if (x25 : Int32) = 0 then (some ((-9223372036854775808), h1))
  else zbI (gX5_solve h1 a23) (fun x26 h2 => (if (x26 : Int32) = 0 then (some ((-9223372036854775808), h2))
  else zlt (zR h2 a23 2) (fun r27 => Option.bind r27 (fun a28 => zg (zin ((x3 * 10) + x4) (zL h2 a28)) ((some ((zJ h2 a28 (zx ((x3 * 10) + x4))), h2)))))))))))))
  else (some ((-9223372036854775808), h))))
set_option maxRecDepth 20000 in
theorem cX11_entry_ok (l : Launch) (h : Zh) (a0 : Nat) (x1 : Int32) (x2 : Int32) (x3 : Int32) (x4 : Int32) : Zc l yX11_entry mX11_entry 0 h [(.ref a0, 11), (.int x1, 0), (.int x2, 0), (.int x3, 0), (.int x4, 0)] ((gX11_entry h a0 x1 x2 x3 x4).map zoJ) := by
  refine zc_of2 (ls := [some (.ref a0, 11), some (.int x1, 0), some (.int x2, 0), some (.int x3, 0), some (.int x4, 0), none]) (j := 1) (by decide +kernel) rfl rfl (zEn_ca (zEn_ci (zEn_ci (zEn_ci (zEn_ci rfl))))) (Nat.le_of_ble_eq_true rfl) rfl ?_
  unfold gX11_entry
  refine zr_aload_n (r := (some a0)) (eX11_entry 0 rfl) rfl rfl ?_
  refine zr_iload_n (eX11_entry 1 rfl) rfl rfl ?_
  refine zr_iload_n (eX11_entry 2 rfl) rfl rfl ?_
  refine zr_invV_i (as := [(.int x1, 0), (.int x2, 0)]) (cX11_noSector_ok l h a0 x1 x2) rfl rfl ⟨by decide, by decide, by decide⟩ zcd_X11_noSector rfl ⟨zw_281, zw_283, zw_2, zw_57⟩ ⟨Nat.le_of_ble_eq_true rfl, Nat.le_of_ble_eq_true rfl⟩ rfl (Nat.le_of_ble_eq_true rfl) (eX11_entry 3 rfl) (fun x21 => ?_)
  refine zr_if_eq (eX11_entry 4 rfl) (t := 13) (by decide) ?_ ?_
  · refine zr_aload_n (r := (some a0)) (eX11_entry 7 rfl) rfl rfl ?_
    refine zr_iload_n (eX11_entry 8 rfl) rfl rfl ?_
    refine zr_iload_n (eX11_entry 9 rfl) rfl rfl ?_
    refine zr_invV_R (as := [(.int x1, 0), (.int x2, 0)]) (cX11_sectorOf_ok l h a0 x1 x2) rfl rfl ⟨by decide, by decide, by decide⟩ zcd_X11_sectorOf rfl ⟨zw_285, zw_287, zw_3, zw_57⟩ ⟨Nat.le_of_ble_eq_true rfl, Nat.le_of_ble_eq_true rfl⟩ rfl (Nat.le_of_ble_eq_true rfl) (eX11_entry 10 rfl) (fun r22 h1 => ?_)
    refine zr_astore (r := r22) (ls2 := [some (.ref a0, 11), some (.int x1, 0), some (.int x2, 0), some (.int x3, 0), some (.int x4, 0), some (va_rf r22, 5)]) (eX11_entry 11 rfl) (Nat.le_of_ble_eq_true rfl) rfl ?_
    refine zr_aload (r := r22) (eX11_entry 12 rfl) rfl ?_
    refine zr_iload_n (eX11_entry 13 rfl) rfl rfl ?_
    refine v_nn (fun a23 ea23 => ?_)
    subst ea23
    refine zr_invV_i (as := [(.int x3, 0)]) (cX5_hasOrbit_ok l h1 a23 x3) rfl rfl ⟨by decide, by decide, by decide⟩ zcd_X5_hasOrbit rfl ⟨zw_374, zw_375, zw_376, zw_64⟩ ⟨Nat.le_of_ble_eq_true rfl, Nat.le_of_ble_eq_true rfl⟩ rfl (Nat.le_of_ble_eq_true rfl) (eX11_entry 14 rfl) (fun x24 => ?_)
    refine zr_if_eq (eX11_entry 15 rfl) (t := 48) (by decide) ?_ ?_
    · refine zr_ldc2 (eX11_entry 23 rfl) zw_238 ?_
      exact zr_lret rfl rfl (eX11_entry 24 rfl)
    · refine zr_aload (r := (some a23)) (eX11_entry 16 rfl) rfl ?_
      refine zr_iload (eX11_entry 17 rfl) rfl ?_
      refine zr_invV_i (as := [(.int x4, 0)]) (cX5_hasOrbit_ok l h1 a23 x4) rfl rfl ⟨by decide, by decide, by decide⟩ zcd_X5_hasOrbit rfl ⟨zw_374, zw_375, zw_376, zw_64⟩ ⟨Nat.le_of_ble_eq_true rfl, Nat.le_of_ble_eq_true rfl⟩ rfl (Nat.le_of_ble_eq_true rfl) (eX11_entry 18 rfl) (fun x25 => ?_)
      refine zr_if_eq (eX11_entry 19 rfl) (t := 48) (by decide) ?_ ?_
      · refine zr_ldc2 (eX11_entry 23 rfl) zw_238 ?_
        exact zr_lret rfl rfl (eX11_entry 24 rfl)
      · refine zr_aload (r := (some a23)) (eX11_entry 20 rfl) rfl ?_
        refine zr_invV_I (as := []) (cX5_solve_ok l h1 a23) rfl rfl ⟨by decide, by decide, by decide⟩ zcd_X5_solve rfl ⟨zw_382, zw_383, zw_384, zw_64⟩ ⟨Nat.le_of_ble_eq_true rfl, Nat.le_of_ble_eq_true rfl⟩ rfl (Nat.le_of_ble_eq_true rfl) (eX11_entry 21 rfl) (fun x26 h2 => ?_)
        refine zr_if_ne (eX11_entry 22 rfl) (t := 52) (by decide) ?_ ?_
        · refine zr_aload (r := (some a23)) (eX11_entry 25 rfl) rfl ?_
          refine zr_getR2 zf_RX11_114 (τ2 := 21) rfl (eX11_entry 26 rfl) ?_
          refine v_letr (fun r27 => ?_)
          refine zr_iload_n (eX11_entry 27 rfl) rfl rfl ?_
          refine zr_bipush (eX11_entry 28 rfl) zk_bipush_10 ?_
          refine zr_imul (eX11_entry 29 rfl) ?_
          refine zr_iload (eX11_entry 30 rfl) rfl ?_
          refine zr_iadd (eX11_entry 31 rfl) ?_
          refine v_nn (fun a28 ea28 => ?_)
          subst ea28
          refine zr_lald (eX11_entry 32 rfl) ?_
          exact zr_lret rfl rfl (eX11_entry 33 rfl)
        · refine zr_ldc2 (eX11_entry 23 rfl) zw_238 ?_
          exact zr_lret rfl rfl (eX11_entry 24 rfl)
  · refine zr_ldc2 (eX11_entry 5 rfl) zw_238 ?_
    exact zr_lret rfl rfl (eX11_entry 6 rfl)
def gX11_poly (h : Zh) (a0 : Nat) (x1 : Int32) (x2 : Int32) (x3 : Int32) : Option (Int64 × Zh) :=
  zbi (gX11_noSector h a0 x1 x2) (fun x21 => (if (x21 : Int32) = 0 then zbR (gX11_sectorOf h a0 x1 x2) (fun r22 h1 => (if (x3 : Int32) < 0 then (some ((-9223372036854775808), h1))
  else Option.bind r22 (fun a23 => (if ((zI h1 a23 13) : Int32) < x3 then (some ((-9223372036854775808), h1))
  else zbI (gX5_solve h1 a23) (fun x24 h2 => (if (x24 : Int32) = 0 then (some ((-9223372036854775808), h2))
  else zlt (zR h2 a23 3) (fun r25 => Option.bind r25 (fun a26 => zg (zin x3 (zL h2 a26)) ((some ((zJ h2 a26 (zx x3)), h2)))))))))))
  else (some ((-9223372036854775808), h))))
set_option maxRecDepth 20000 in
theorem cX11_poly_ok (l : Launch) (h : Zh) (a0 : Nat) (x1 : Int32) (x2 : Int32) (x3 : Int32) : Zc l yX11_poly mX11_poly 0 h [(.ref a0, 11), (.int x1, 0), (.int x2, 0), (.int x3, 0)] ((gX11_poly h a0 x1 x2 x3).map zoJ) := by
  refine zc_of2 (ls := [some (.ref a0, 11), some (.int x1, 0), some (.int x2, 0), some (.int x3, 0), none]) (j := 1) (by decide +kernel) rfl rfl (zEn_ca (zEn_ci (zEn_ci (zEn_ci rfl)))) (Nat.le_of_ble_eq_true rfl) rfl ?_
  unfold gX11_poly
  refine zr_aload_n (r := (some a0)) (eX11_poly 0 rfl) rfl rfl ?_
  refine zr_iload_n (eX11_poly 1 rfl) rfl rfl ?_
  refine zr_iload_n (eX11_poly 2 rfl) rfl rfl ?_
  refine zr_invV_i (as := [(.int x1, 0), (.int x2, 0)]) (cX11_noSector_ok l h a0 x1 x2) rfl rfl ⟨by decide, by decide, by decide⟩ zcd_X11_noSector rfl ⟨zw_281, zw_283, zw_2, zw_57⟩ ⟨Nat.le_of_ble_eq_true rfl, Nat.le_of_ble_eq_true rfl⟩ rfl (Nat.le_of_ble_eq_true rfl) (eX11_poly 3 rfl) (fun x21 => ?_)
  refine zr_if_eq (eX11_poly 4 rfl) (t := 13) (by decide) ?_ ?_
  · refine zr_aload_n (r := (some a0)) (eX11_poly 7 rfl) rfl rfl ?_
    refine zr_iload_n (eX11_poly 8 rfl) rfl rfl ?_
    refine zr_iload_n (eX11_poly 9 rfl) rfl rfl ?_
    refine zr_invV_R (as := [(.int x1, 0), (.int x2, 0)]) (cX11_sectorOf_ok l h a0 x1 x2) rfl rfl ⟨by decide, by decide, by decide⟩ zcd_X11_sectorOf rfl ⟨zw_285, zw_287, zw_3, zw_57⟩ ⟨Nat.le_of_ble_eq_true rfl, Nat.le_of_ble_eq_true rfl⟩ rfl (Nat.le_of_ble_eq_true rfl) (eX11_poly 10 rfl) (fun r22 h1 => ?_)
    refine zr_astore (r := r22) (ls2 := [some (.ref a0, 11), some (.int x1, 0), some (.int x2, 0), some (.int x3, 0), some (va_rf r22, 5)]) (eX11_poly 11 rfl) (Nat.le_of_ble_eq_true rfl) rfl ?_
    refine zr_iload_n (eX11_poly 12 rfl) rfl rfl ?_
    refine zr_if_lt (eX11_poly 13 rfl) (t := 42) (by decide) ?_ ?_
    · refine zr_ldc2 (eX11_poly 21 rfl) zw_238 ?_
      exact zr_lret rfl rfl (eX11_poly 22 rfl)
    · refine zr_iload_n (eX11_poly 14 rfl) rfl rfl ?_
      refine zr_aload (r := r22) (eX11_poly 15 rfl) rfl ?_
      refine v_nn (fun a23 ea23 => ?_)
      subst ea23
      refine zr_getI zf_RX11_97 ⟨by decide, by decide⟩ (eX11_poly 16 rfl) ?_
      refine zr_icmp_gt (eX11_poly 17 rfl) (t := 42) (by decide) ?_ ?_
      · refine zr_ldc2 (eX11_poly 21 rfl) zw_238 ?_
        exact zr_lret rfl rfl (eX11_poly 22 rfl)
      · refine zr_aload (r := (some a23)) (eX11_poly 18 rfl) rfl ?_
        refine zr_invV_I (as := []) (cX5_solve_ok l h1 a23) rfl rfl ⟨by decide, by decide, by decide⟩ zcd_X5_solve rfl ⟨zw_382, zw_383, zw_384, zw_64⟩ ⟨Nat.le_of_ble_eq_true rfl, Nat.le_of_ble_eq_true rfl⟩ rfl (Nat.le_of_ble_eq_true rfl) (eX11_poly 19 rfl) (fun x24 h2 => ?_)
        refine zr_if_ne (eX11_poly 20 rfl) (t := 46) (by decide) ?_ ?_
        · refine zr_aload (r := (some a23)) (eX11_poly 23 rfl) rfl ?_
          refine zr_getR2 zf_RX11_118 (τ2 := 21) rfl (eX11_poly 24 rfl) ?_
          refine v_letr (fun r25 => ?_)
          refine zr_iload_n (eX11_poly 25 rfl) rfl rfl ?_
          refine v_nn (fun a26 ea26 => ?_)
          subst ea26
          refine zr_lald (eX11_poly 26 rfl) ?_
          exact zr_lret rfl rfl (eX11_poly 27 rfl)
        · refine zr_ldc2 (eX11_poly 21 rfl) zw_238 ?_
          exact zr_lret rfl rfl (eX11_poly 22 rfl)
  · refine zr_ldc2 (eX11_poly 5 rfl) zw_238 ?_
    exact zr_lret rfl rfl (eX11_poly 6 rfl)
def gX11_tooFar_J1 : Option (Int32) :=
  (some 1)
def gX11_tooFar (x0 : Int32) : Option (Int32) :=
  zjn gX11_tooFar_J1 (fun (k21 : Option (Int32)) =>
  (if (x0 : Int32) < (-50) then k21
  else (if (x0 : Int32) ≤ 50 then (some 0)
  else k21)))
set_option maxRecDepth 20000 in
theorem cX11_tooFar_ok (l : Launch) (h : Zh) (x0 : Int32) : Zc l yX11_tooFar mX11_tooFar 0 h [(.int x0, 0)] ((gX11_tooFar x0).map (zoi h)) := by
  refine zc_of2 (ls := [some (.int x0, 0)]) (j := 0) (by decide +kernel) rfl rfl (zEn_ci rfl) (Nat.le_of_ble_eq_true rfl) rfl ?_
  unfold gX11_tooFar
  refine zr_iload_n (eX11_tooFar 0 rfl) rfl rfl ?_
  refine zr_bipush (eX11_tooFar 1 rfl) zk_bipush_m50 ?_
  refine v_jn (fun (k21 : Option (Int32)) => V l mX11_tooFar (zN h) (zS h) 0 (zoi h) 12 [none] [] h k21) ?_ ?_
  · skip
    unfold gX11_tooFar_J1
    refine zr_iconst (eX11_tooFar 6 rfl) zk_iconst_1 ?_
    refine zr_goto (eX11_tooFar 7 rfl) (t := 17) (by decide) ?_
    exact zr_zret rfl (by decide) rfl (eX11_tooFar 9 rfl)
  intro k21 hk21
  refine zr_icmp_lt (eX11_tooFar 2 rfl) (t := 12) (by decide) ?_ ?_
  · exact v_drop [false] rfl (hk21)
  · refine zr_iload_n (eX11_tooFar 3 rfl) rfl rfl ?_
    refine zr_bipush (eX11_tooFar 4 rfl) zk_bipush_50 ?_
    refine zr_icmp_le (eX11_tooFar 5 rfl) (t := 16) (by decide) ?_ ?_
    · refine zr_iconst (eX11_tooFar 8 rfl) zk_iconst_0 ?_
      exact zr_zret rfl (by decide) rfl (eX11_tooFar 9 rfl)
    · exact v_drop [false] rfl (hk21)
def gX11_above (h : Zh) (a0 : Nat) (x1 : Int32) (x2 : Int32) (x3 : Int32) : Option (Int32 × Zh) :=
  zbi (gX11_noSector h a0 x1 x2) (fun x21 => (if (x21 : Int32) = 0 then zbi (gX11_tooFar x3) (fun x22 => (if (x22 : Int32) = 0 then zbR (gX11_sectorOf h a0 x1 x2) (fun r23 h1 => Option.bind r23 (fun a24 => zbI (gX5_solve h1 a24) (fun x25 h2 => (if (x25 : Int32) = 0 then (some ((-6), h2))
  else zbI (gX5_rootsAbove h2 a24 x3) (fun x26 h3 => (some (x26, h3)))))))
  else (some ((-2), h))))
  else (some ((-2), h))))
set_option maxRecDepth 20000 in
theorem cX11_above_ok (l : Launch) (h : Zh) (a0 : Nat) (x1 : Int32) (x2 : Int32) (x3 : Int32) : Zc l yX11_above mX11_above 0 h [(.ref a0, 11), (.int x1, 0), (.int x2, 0), (.int x3, 0)] ((gX11_above h a0 x1 x2 x3).map zoI) := by
  refine zc_of2 (ls := [some (.ref a0, 11), some (.int x1, 0), some (.int x2, 0), some (.int x3, 0), none]) (j := 1) (by decide +kernel) rfl rfl (zEn_ca (zEn_ci (zEn_ci (zEn_ci rfl)))) (Nat.le_of_ble_eq_true rfl) rfl ?_
  unfold gX11_above
  refine zr_aload_n (r := (some a0)) (eX11_above 0 rfl) rfl rfl ?_
  refine zr_iload_n (eX11_above 1 rfl) rfl rfl ?_
  refine zr_iload_n (eX11_above 2 rfl) rfl rfl ?_
  refine zr_invV_i (as := [(.int x1, 0), (.int x2, 0)]) (cX11_noSector_ok l h a0 x1 x2) rfl rfl ⟨by decide, by decide, by decide⟩ zcd_X11_noSector rfl ⟨zw_281, zw_283, zw_2, zw_57⟩ ⟨Nat.le_of_ble_eq_true rfl, Nat.le_of_ble_eq_true rfl⟩ rfl (Nat.le_of_ble_eq_true rfl) (eX11_above 3 rfl) (fun x21 => ?_)
  refine zr_if_ne (eX11_above 4 rfl) (t := 16) (by decide) ?_ ?_
  · refine zr_bipush (eX11_above 8 rfl) zk_bipush_m2 ?_
    exact zr_iret rfl rfl (eX11_above 9 rfl)
  · refine zr_iload_n (eX11_above 5 rfl) rfl rfl ?_
    refine zr_invS_i (as := [(.int x3, 0)]) (cX11_tooFar_ok l h x3) rfl zcd_X11_tooFar ⟨zw_417, zw_418, zw_57⟩ ⟨Nat.le_of_ble_eq_true rfl, Nat.le_of_ble_eq_true rfl⟩ rfl (Nat.le_of_ble_eq_true rfl) (eX11_above 6 rfl) (fun x22 => ?_)
    refine zr_if_eq (eX11_above 7 rfl) (t := 19) (by decide) ?_ ?_
    · refine zr_aload_n (r := (some a0)) (eX11_above 10 rfl) rfl rfl ?_
      refine zr_iload_n (eX11_above 11 rfl) rfl rfl ?_
      refine zr_iload_n (eX11_above 12 rfl) rfl rfl ?_
      refine zr_invV_R (as := [(.int x1, 0), (.int x2, 0)]) (cX11_sectorOf_ok l h a0 x1 x2) rfl rfl ⟨by decide, by decide, by decide⟩ zcd_X11_sectorOf rfl ⟨zw_285, zw_287, zw_3, zw_57⟩ ⟨Nat.le_of_ble_eq_true rfl, Nat.le_of_ble_eq_true rfl⟩ rfl (Nat.le_of_ble_eq_true rfl) (eX11_above 13 rfl) (fun r23 h1 => ?_)
      refine zr_astore (r := r23) (ls2 := [some (.ref a0, 11), some (.int x1, 0), some (.int x2, 0), some (.int x3, 0), some (va_rf r23, 5)]) (eX11_above 14 rfl) (Nat.le_of_ble_eq_true rfl) rfl ?_
      refine zr_aload (r := r23) (eX11_above 15 rfl) rfl ?_
      refine v_nn (fun a24 ea24 => ?_)
      subst ea24
      refine zr_invV_I (as := []) (cX5_solve_ok l h1 a24) rfl rfl ⟨by decide, by decide, by decide⟩ zcd_X5_solve rfl ⟨zw_382, zw_383, zw_384, zw_64⟩ ⟨Nat.le_of_ble_eq_true rfl, Nat.le_of_ble_eq_true rfl⟩ rfl (Nat.le_of_ble_eq_true rfl) (eX11_above 16 rfl) (fun x25 h2 => ?_)
      refine zr_if_eq (eX11_above 17 rfl) (t := 44) (by decide) ?_ ?_
      · refine zr_bipush (eX11_above 22 rfl) zk_bipush_m6 ?_
        exact zr_iret rfl rfl (eX11_above 23 rfl)
      · refine zr_aload (r := (some a24)) (eX11_above 18 rfl) rfl ?_
        refine zr_iload_n (eX11_above 19 rfl) rfl rfl ?_
        refine zr_invV_I (as := [(.int x3, 0)]) (cX5_rootsAbove_ok l h2 a24 x3) rfl rfl ⟨by decide, by decide, by decide⟩ zcd_X5_rootsAbove rfl ⟨zw_420, zw_421, zw_422, zw_64⟩ ⟨Nat.le_of_ble_eq_true rfl, Nat.le_of_ble_eq_true rfl⟩ rfl (Nat.le_of_ble_eq_true rfl) (eX11_above 20 rfl) (fun x26 h3 => ?_)
        refine zr_goto (eX11_above 21 rfl) (t := 46) (by decide) ?_
        exact zr_iret rfl rfl (eX11_above 23 rfl)
    · refine zr_bipush (eX11_above 8 rfl) zk_bipush_m2 ?_
      exact zr_iret rfl rfl (eX11_above 9 rfl)
def gX11_often (h : Zh) (a0 : Nat) (x1 : Int32) (x2 : Int32) (x3 : Int32) : Option (Int32 × Zh) :=
  zbi (gX11_noSector h a0 x1 x2) (fun x21 => (if (x21 : Int32) = 0 then zbi (gX11_tooFar x3) (fun x22 => (if (x22 : Int32) = 0 then zbR (gX11_sectorOf h a0 x1 x2) (fun r23 h1 => Option.bind r23 (fun a24 => zbI (gX5_solve h1 a24) (fun x25 h2 => (if (x25 : Int32) = 0 then (some ((-6), h2))
  else zbI (gX5_rootsAt h2 a24 x3) (fun x26 h3 => (some (x26, h3)))))))
  else (some ((-2), h))))
  else (some ((-2), h))))
set_option maxRecDepth 20000 in
theorem cX11_often_ok (l : Launch) (h : Zh) (a0 : Nat) (x1 : Int32) (x2 : Int32) (x3 : Int32) : Zc l yX11_often mX11_often 0 h [(.ref a0, 11), (.int x1, 0), (.int x2, 0), (.int x3, 0)] ((gX11_often h a0 x1 x2 x3).map zoI) := by
  refine zc_of2 (ls := [some (.ref a0, 11), some (.int x1, 0), some (.int x2, 0), some (.int x3, 0), none]) (j := 1) (by decide +kernel) rfl rfl (zEn_ca (zEn_ci (zEn_ci (zEn_ci rfl)))) (Nat.le_of_ble_eq_true rfl) rfl ?_
  unfold gX11_often
  refine zr_aload_n (r := (some a0)) (eX11_often 0 rfl) rfl rfl ?_
  refine zr_iload_n (eX11_often 1 rfl) rfl rfl ?_
  refine zr_iload_n (eX11_often 2 rfl) rfl rfl ?_
  refine zr_invV_i (as := [(.int x1, 0), (.int x2, 0)]) (cX11_noSector_ok l h a0 x1 x2) rfl rfl ⟨by decide, by decide, by decide⟩ zcd_X11_noSector rfl ⟨zw_281, zw_283, zw_2, zw_57⟩ ⟨Nat.le_of_ble_eq_true rfl, Nat.le_of_ble_eq_true rfl⟩ rfl (Nat.le_of_ble_eq_true rfl) (eX11_often 3 rfl) (fun x21 => ?_)
  refine zr_if_ne (eX11_often 4 rfl) (t := 16) (by decide) ?_ ?_
  · refine zr_bipush (eX11_often 8 rfl) zk_bipush_m2 ?_
    exact zr_iret rfl rfl (eX11_often 9 rfl)
  · refine zr_iload_n (eX11_often 5 rfl) rfl rfl ?_
    refine zr_invS_i (as := [(.int x3, 0)]) (cX11_tooFar_ok l h x3) rfl zcd_X11_tooFar ⟨zw_417, zw_418, zw_57⟩ ⟨Nat.le_of_ble_eq_true rfl, Nat.le_of_ble_eq_true rfl⟩ rfl (Nat.le_of_ble_eq_true rfl) (eX11_often 6 rfl) (fun x22 => ?_)
    refine zr_if_eq (eX11_often 7 rfl) (t := 19) (by decide) ?_ ?_
    · refine zr_aload_n (r := (some a0)) (eX11_often 10 rfl) rfl rfl ?_
      refine zr_iload_n (eX11_often 11 rfl) rfl rfl ?_
      refine zr_iload_n (eX11_often 12 rfl) rfl rfl ?_
      refine zr_invV_R (as := [(.int x1, 0), (.int x2, 0)]) (cX11_sectorOf_ok l h a0 x1 x2) rfl rfl ⟨by decide, by decide, by decide⟩ zcd_X11_sectorOf rfl ⟨zw_285, zw_287, zw_3, zw_57⟩ ⟨Nat.le_of_ble_eq_true rfl, Nat.le_of_ble_eq_true rfl⟩ rfl (Nat.le_of_ble_eq_true rfl) (eX11_often 13 rfl) (fun r23 h1 => ?_)
      refine zr_astore (r := r23) (ls2 := [some (.ref a0, 11), some (.int x1, 0), some (.int x2, 0), some (.int x3, 0), some (va_rf r23, 5)]) (eX11_often 14 rfl) (Nat.le_of_ble_eq_true rfl) rfl ?_
      refine zr_aload (r := r23) (eX11_often 15 rfl) rfl ?_
      refine v_nn (fun a24 ea24 => ?_)
      subst ea24
      refine zr_invV_I (as := []) (cX5_solve_ok l h1 a24) rfl rfl ⟨by decide, by decide, by decide⟩ zcd_X5_solve rfl ⟨zw_382, zw_383, zw_384, zw_64⟩ ⟨Nat.le_of_ble_eq_true rfl, Nat.le_of_ble_eq_true rfl⟩ rfl (Nat.le_of_ble_eq_true rfl) (eX11_often 16 rfl) (fun x25 h2 => ?_)
      refine zr_if_eq (eX11_often 17 rfl) (t := 44) (by decide) ?_ ?_
      · refine zr_bipush (eX11_often 22 rfl) zk_bipush_m6 ?_
        exact zr_iret rfl rfl (eX11_often 23 rfl)
      · refine zr_aload (r := (some a24)) (eX11_often 18 rfl) rfl ?_
        refine zr_iload_n (eX11_often 19 rfl) rfl rfl ?_
        refine zr_invV_I (as := [(.int x3, 0)]) (cX5_rootsAt_ok l h2 a24 x3) rfl rfl ⟨by decide, by decide, by decide⟩ zcd_X5_rootsAt rfl ⟨zw_432, zw_433, zw_434, zw_64⟩ ⟨Nat.le_of_ble_eq_true rfl, Nat.le_of_ble_eq_true rfl⟩ rfl (Nat.le_of_ble_eq_true rfl) (eX11_often 20 rfl) (fun x26 h3 => ?_)
        refine zr_goto (eX11_often 21 rfl) (t := 46) (by decide) ?_
        exact zr_iret rfl rfl (eX11_often 23 rfl)
    · refine zr_bipush (eX11_often 8 rfl) zk_bipush_m2 ?_
      exact zr_iret rfl rfl (eX11_often 9 rfl)
def gX11_whole (h : Zh) (a0 : Nat) (x1 : Int32) (x2 : Int32) : Option (Int32 × Zh) :=
  zbi (gX11_noSector h a0 x1 x2) (fun x21 => (if (x21 : Int32) = 0 then zbR (gX11_sectorOf h a0 x1 x2) (fun r22 h1 => Option.bind r22 (fun a23 => zbI (gX5_solve h1 a23) (fun x24 h2 => (if (x24 : Int32) = 0 then (some ((-6), h2))
  else zbI (gX5_wholeRoots h2 a23) (fun x25 h3 => (some (x25, h3)))))))
  else (some ((-2), h))))
set_option maxRecDepth 20000 in
theorem cX11_whole_ok (l : Launch) (h : Zh) (a0 : Nat) (x1 : Int32) (x2 : Int32) : Zc l yX11_whole mX11_whole 0 h [(.ref a0, 11), (.int x1, 0), (.int x2, 0)] ((gX11_whole h a0 x1 x2).map zoI) := by
  refine zc_of2 (ls := [some (.ref a0, 11), some (.int x1, 0), some (.int x2, 0), none]) (j := 1) (by decide +kernel) rfl rfl (zEn_ca (zEn_ci (zEn_ci rfl))) (Nat.le_of_ble_eq_true rfl) rfl ?_
  unfold gX11_whole
  refine zr_aload_n (r := (some a0)) (eX11_whole 0 rfl) rfl rfl ?_
  refine zr_iload_n (eX11_whole 1 rfl) rfl rfl ?_
  refine zr_iload_n (eX11_whole 2 rfl) rfl rfl ?_
  refine zr_invV_i (as := [(.int x1, 0), (.int x2, 0)]) (cX11_noSector_ok l h a0 x1 x2) rfl rfl ⟨by decide, by decide, by decide⟩ zcd_X11_noSector rfl ⟨zw_281, zw_283, zw_2, zw_57⟩ ⟨Nat.le_of_ble_eq_true rfl, Nat.le_of_ble_eq_true rfl⟩ rfl (Nat.le_of_ble_eq_true rfl) (eX11_whole 3 rfl) (fun x21 => ?_)
  refine zr_if_eq (eX11_whole 4 rfl) (t := 12) (by decide) ?_ ?_
  · refine zr_aload_n (r := (some a0)) (eX11_whole 7 rfl) rfl rfl ?_
    refine zr_iload_n (eX11_whole 8 rfl) rfl rfl ?_
    refine zr_iload_n (eX11_whole 9 rfl) rfl rfl ?_
    refine zr_invV_R (as := [(.int x1, 0), (.int x2, 0)]) (cX11_sectorOf_ok l h a0 x1 x2) rfl rfl ⟨by decide, by decide, by decide⟩ zcd_X11_sectorOf rfl ⟨zw_285, zw_287, zw_3, zw_57⟩ ⟨Nat.le_of_ble_eq_true rfl, Nat.le_of_ble_eq_true rfl⟩ rfl (Nat.le_of_ble_eq_true rfl) (eX11_whole 10 rfl) (fun r22 h1 => ?_)
    refine zr_astore_n (r := r22) (ls2 := [some (.ref a0, 11), some (.int x1, 0), some (.int x2, 0), some (va_rf r22, 5)]) (eX11_whole 11 rfl) rfl (Nat.le_of_ble_eq_true rfl) rfl ?_
    refine zr_aload_n (r := r22) (eX11_whole 12 rfl) rfl rfl ?_
    refine v_nn (fun a23 ea23 => ?_)
    subst ea23
    refine zr_invV_I (as := []) (cX5_solve_ok l h1 a23) rfl rfl ⟨by decide, by decide, by decide⟩ zcd_X5_solve rfl ⟨zw_382, zw_383, zw_384, zw_64⟩ ⟨Nat.le_of_ble_eq_true rfl, Nat.le_of_ble_eq_true rfl⟩ rfl (Nat.le_of_ble_eq_true rfl) (eX11_whole 13 rfl) (fun x24 h2 => ?_)
    refine zr_if_eq (eX11_whole 14 rfl) (t := 33) (by decide) ?_ ?_
    · refine zr_bipush (eX11_whole 18 rfl) zk_bipush_m6 ?_
      exact zr_iret rfl rfl (eX11_whole 19 rfl)
    · refine zr_aload_n (r := (some a23)) (eX11_whole 15 rfl) rfl rfl ?_
      refine zr_invV_I (as := []) (cX5_wholeRoots_ok l h2 a23) rfl rfl ⟨by decide, by decide, by decide⟩ zcd_X5_wholeRoots rfl ⟨zw_440, zw_441, zw_442, zw_64⟩ ⟨Nat.le_of_ble_eq_true rfl, Nat.le_of_ble_eq_true rfl⟩ rfl (Nat.le_of_ble_eq_true rfl) (eX11_whole 16 rfl) (fun x25 h3 => ?_)
      refine zr_goto (eX11_whole 17 rfl) (t := 35) (by decide) ?_
      exact zr_iret rfl rfl (eX11_whole 19 rfl)
  · refine zr_bipush (eX11_whole 5 rfl) zk_bipush_m2 ?_
    exact zr_iret rfl rfl (eX11_whole 6 rfl)
def gX11_power (h : Zh) (a0 : Nat) (x1 : Int32) (x2 : Int32) (x3 : Int32) : Option (Int64 × Zh) :=
  zbi (gX11_noSector h a0 x1 x2) (fun x21 => (if (x21 : Int32) = 0 then (if (x3 : Int32) < 1 then (some ((-9223372036854775808), h))
  else (if (x3 : Int32) ≤ 4 then zbR (gX11_sectorOf h a0 x1 x2) (fun r22 h1 => Option.bind r22 (fun a23 => zbI (gX5_solve h1 a23) (fun x24 h2 => (if (x24 : Int32) = 0 then (some ((-9223372036854775808), h2))
  else zbJ (gX5_powerSum h2 a23 x3) (fun x25 h3 => (some (x25, h3)))))))
  else (some ((-9223372036854775808), h))))
  else (some ((-9223372036854775808), h))))
set_option maxRecDepth 20000 in
theorem cX11_power_ok (l : Launch) (h : Zh) (a0 : Nat) (x1 : Int32) (x2 : Int32) (x3 : Int32) : Zc l yX11_power mX11_power 0 h [(.ref a0, 11), (.int x1, 0), (.int x2, 0), (.int x3, 0)] ((gX11_power h a0 x1 x2 x3).map zoJ) := by
  refine zc_of2 (ls := [some (.ref a0, 11), some (.int x1, 0), some (.int x2, 0), some (.int x3, 0), none]) (j := 1) (by decide +kernel) rfl rfl (zEn_ca (zEn_ci (zEn_ci (zEn_ci rfl)))) (Nat.le_of_ble_eq_true rfl) rfl ?_
  unfold gX11_power
  refine zr_aload_n (r := (some a0)) (eX11_power 0 rfl) rfl rfl ?_
  refine zr_iload_n (eX11_power 1 rfl) rfl rfl ?_
  refine zr_iload_n (eX11_power 2 rfl) rfl rfl ?_
  refine zr_invV_i (as := [(.int x1, 0), (.int x2, 0)]) (cX11_noSector_ok l h a0 x1 x2) rfl rfl ⟨by decide, by decide, by decide⟩ zcd_X11_noSector rfl ⟨zw_281, zw_283, zw_2, zw_57⟩ ⟨Nat.le_of_ble_eq_true rfl, Nat.le_of_ble_eq_true rfl⟩ rfl (Nat.le_of_ble_eq_true rfl) (eX11_power 3 rfl) (fun x21 => ?_)
  refine zr_if_ne (eX11_power 4 rfl) (t := 19) (by decide) ?_ ?_
  · refine zr_ldc2 (eX11_power 11 rfl) zw_238 ?_
    exact zr_lret rfl rfl (eX11_power 12 rfl)
  · refine zr_iload_n (eX11_power 5 rfl) rfl rfl ?_
    refine zr_iconst (eX11_power 6 rfl) zk_iconst_1 ?_
    refine zr_icmp_lt (eX11_power 7 rfl) (t := 19) (by decide) ?_ ?_
    · refine zr_ldc2 (eX11_power 11 rfl) zw_238 ?_
      exact zr_lret rfl rfl (eX11_power 12 rfl)
    · refine zr_iload_n (eX11_power 8 rfl) rfl rfl ?_
      refine zr_iconst (eX11_power 9 rfl) zk_iconst_4 ?_
      refine zr_icmp_le (eX11_power 10 rfl) (t := 23) (by decide) ?_ ?_
      · refine zr_aload_n (r := (some a0)) (eX11_power 13 rfl) rfl rfl ?_
        refine zr_iload_n (eX11_power 14 rfl) rfl rfl ?_
        refine zr_iload_n (eX11_power 15 rfl) rfl rfl ?_
        refine zr_invV_R (as := [(.int x1, 0), (.int x2, 0)]) (cX11_sectorOf_ok l h a0 x1 x2) rfl rfl ⟨by decide, by decide, by decide⟩ zcd_X11_sectorOf rfl ⟨zw_285, zw_287, zw_3, zw_57⟩ ⟨Nat.le_of_ble_eq_true rfl, Nat.le_of_ble_eq_true rfl⟩ rfl (Nat.le_of_ble_eq_true rfl) (eX11_power 16 rfl) (fun r22 h1 => ?_)
        refine zr_astore (r := r22) (ls2 := [some (.ref a0, 11), some (.int x1, 0), some (.int x2, 0), some (.int x3, 0), some (va_rf r22, 5)]) (eX11_power 17 rfl) (Nat.le_of_ble_eq_true rfl) rfl ?_
        refine zr_aload (r := r22) (eX11_power 18 rfl) rfl ?_
        refine v_nn (fun a23 ea23 => ?_)
        subst ea23
        refine zr_invV_I (as := []) (cX5_solve_ok l h1 a23) rfl rfl ⟨by decide, by decide, by decide⟩ zcd_X5_solve rfl ⟨zw_382, zw_383, zw_384, zw_64⟩ ⟨Nat.le_of_ble_eq_true rfl, Nat.le_of_ble_eq_true rfl⟩ rfl (Nat.le_of_ble_eq_true rfl) (eX11_power 19 rfl) (fun x24 h2 => ?_)
        refine zr_if_eq (eX11_power 20 rfl) (t := 48) (by decide) ?_ ?_
        · refine zr_ldc2 (eX11_power 25 rfl) zw_238 ?_
          exact zr_lret rfl rfl (eX11_power 26 rfl)
        · refine zr_aload (r := (some a23)) (eX11_power 21 rfl) rfl ?_
          refine zr_iload_n (eX11_power 22 rfl) rfl rfl ?_
          refine zr_invV_J (as := [(.int x3, 0)]) (cX5_powerSum_ok l h2 a23 x3) rfl rfl ⟨by decide, by decide, by decide⟩ zcd_X5_powerSum rfl ⟨zw_453, zw_454, zw_455, zw_64⟩ ⟨Nat.le_of_ble_eq_true rfl, Nat.le_of_ble_eq_true rfl⟩ rfl (Nat.le_of_ble_eq_true rfl) (eX11_power 23 rfl) (fun x25 h3 => ?_)
          refine zr_goto (eX11_power 24 rfl) (t := 51) (by decide) ?_
          exact zr_lret rfl rfl (eX11_power 26 rfl)
      · refine zr_ldc2 (eX11_power 11 rfl) zw_238 ?_
        exact zr_lret rfl rfl (eX11_power 12 rfl)
def gX11_powerOf (h : Zh) (a0 : Nat) (x1 : Int32) (x2 : Int32) : Option (Int64 × Zh) :=
  zbi (gX11_noSector h a0 x1 1) (fun x21 => (if (x21 : Int32) = 0 then (if (x2 : Int32) < 1 then (some ((-9223372036854775808), h))
  else (if (x2 : Int32) ≤ 4 then zbR (gX11_sectorOf h a0 x1 1) (fun r22 h1 => Option.bind r22 (fun a23 => zbJ (gX5_powerSumOfAll h1 a23 x2) (fun x24 h2 => (some (x24, h2)))))
  else (some ((-9223372036854775808), h))))
  else (some ((-9223372036854775808), h))))
set_option maxRecDepth 20000 in
theorem cX11_powerOf_ok (l : Launch) (h : Zh) (a0 : Nat) (x1 : Int32) (x2 : Int32) : Zc l yX11_powerOf mX11_powerOf 0 h [(.ref a0, 11), (.int x1, 0), (.int x2, 0)] ((gX11_powerOf h a0 x1 x2).map zoJ) := by
  refine zc_of2 (ls := [some (.ref a0, 11), some (.int x1, 0), some (.int x2, 0)]) (j := 0) (by decide +kernel) rfl rfl (zEn_ca (zEn_ci (zEn_ci rfl))) (Nat.le_of_ble_eq_true rfl) rfl ?_
  unfold gX11_powerOf
  refine zr_aload_n (r := (some a0)) (eX11_powerOf 0 rfl) rfl rfl ?_
  refine zr_iload_n (eX11_powerOf 1 rfl) rfl rfl ?_
  refine zr_iconst (eX11_powerOf 2 rfl) zk_iconst_1 ?_
  refine zr_invV_i (as := [(.int x1, 0), (.int 1, 0)]) (cX11_noSector_ok l h a0 x1 1) rfl rfl ⟨by decide, by decide, by decide⟩ zcd_X11_noSector rfl ⟨zw_281, zw_283, zw_2, zw_57⟩ ⟨Nat.le_of_ble_eq_true rfl, Nat.le_of_ble_eq_true rfl⟩ rfl (Nat.le_of_ble_eq_true rfl) (eX11_powerOf 3 rfl) (fun x21 => ?_)
  refine zr_if_ne (eX11_powerOf 4 rfl) (t := 19) (by decide) ?_ ?_
  · refine zr_ldc2 (eX11_powerOf 11 rfl) zw_238 ?_
    exact zr_lret rfl rfl (eX11_powerOf 12 rfl)
  · refine zr_iload_n (eX11_powerOf 5 rfl) rfl rfl ?_
    refine zr_iconst (eX11_powerOf 6 rfl) zk_iconst_1 ?_
    refine zr_icmp_lt (eX11_powerOf 7 rfl) (t := 19) (by decide) ?_ ?_
    · refine zr_ldc2 (eX11_powerOf 11 rfl) zw_238 ?_
      exact zr_lret rfl rfl (eX11_powerOf 12 rfl)
    · refine zr_iload_n (eX11_powerOf 8 rfl) rfl rfl ?_
      refine zr_iconst (eX11_powerOf 9 rfl) zk_iconst_4 ?_
      refine zr_icmp_le (eX11_powerOf 10 rfl) (t := 23) (by decide) ?_ ?_
      · refine zr_aload_n (r := (some a0)) (eX11_powerOf 13 rfl) rfl rfl ?_
        refine zr_iload_n (eX11_powerOf 14 rfl) rfl rfl ?_
        refine zr_iconst (eX11_powerOf 15 rfl) zk_iconst_1 ?_
        refine zr_invV_R (as := [(.int x1, 0), (.int 1, 0)]) (cX11_sectorOf_ok l h a0 x1 1) rfl rfl ⟨by decide, by decide, by decide⟩ zcd_X11_sectorOf rfl ⟨zw_285, zw_287, zw_3, zw_57⟩ ⟨Nat.le_of_ble_eq_true rfl, Nat.le_of_ble_eq_true rfl⟩ rfl (Nat.le_of_ble_eq_true rfl) (eX11_powerOf 16 rfl) (fun r22 h1 => ?_)
        refine zr_iload_n (eX11_powerOf 17 rfl) rfl rfl ?_
        refine v_nn (fun a23 ea23 => ?_)
        subst ea23
        refine zr_invV_J (as := [(.int x2, 0)]) (cX5_powerSumOfAll_ok l h1 a23 x2) rfl rfl ⟨by decide, by decide, by decide⟩ zcd_X5_powerSumOfAll rfl ⟨zw_465, zw_466, zw_467, zw_64⟩ ⟨Nat.le_of_ble_eq_true rfl, Nat.le_of_ble_eq_true rfl⟩ rfl (Nat.le_of_ble_eq_true rfl) (eX11_powerOf 18 rfl) (fun x24 h2 => ?_)
        exact zr_lret rfl rfl (eX11_powerOf 19 rfl)
      · refine zr_ldc2 (eX11_powerOf 11 rfl) zw_238 ?_
        exact zr_lret rfl rfl (eX11_powerOf 12 rfl)
def gX11_rest (h : Zh) (a0 : Nat) (x1 : Int32) (x2 : Int32) (x3 : Int32) (x4 : Int32) : Option (Int64 × Zh) :=
  zbi (gX11_noSector h a0 x1 x2) (fun x21 => (if (x21 : Int32) = 0 then zbi (gX11_tooFar x3) (fun x22 => (if (x22 : Int32) = 0 then zbR (gX11_sectorOf h a0 x1 x2) (fun r23 h1 => Option.bind r23 (fun a24 => zbI (gX5_restsAt h1 a24 x3) (fun x25 h2 => (if (x25 : Int32) = 0 then (some ((-9223372036854775808), h2))
  else zbi (gX5_hasOrbit h2 a24 x4) (fun x26 => (if (x26 : Int32) = 0 then (some ((-9223372036854775808), h2))
  else zlt (zR h2 a24 5) (fun r27 => Option.bind r27 (fun a28 => zg (zin x4 (zL h2 a28)) ((some ((zJ h2 a28 (zx x4)), h2)))))))))))
  else (some ((-9223372036854775808), h))))
  else (some ((-9223372036854775808), h))))
set_option maxRecDepth 20000 in
theorem cX11_rest_ok (l : Launch) (h : Zh) (a0 : Nat) (x1 : Int32) (x2 : Int32) (x3 : Int32) (x4 : Int32) : Zc l yX11_rest mX11_rest 0 h [(.ref a0, 11), (.int x1, 0), (.int x2, 0), (.int x3, 0), (.int x4, 0)] ((gX11_rest h a0 x1 x2 x3 x4).map zoJ) := by
  refine zc_of2 (ls := [some (.ref a0, 11), some (.int x1, 0), some (.int x2, 0), some (.int x3, 0), some (.int x4, 0), none]) (j := 1) (by decide +kernel) rfl rfl (zEn_ca (zEn_ci (zEn_ci (zEn_ci (zEn_ci rfl))))) (Nat.le_of_ble_eq_true rfl) rfl ?_
  unfold gX11_rest
  refine zr_aload_n (r := (some a0)) (eX11_rest 0 rfl) rfl rfl ?_
  refine zr_iload_n (eX11_rest 1 rfl) rfl rfl ?_
  refine zr_iload_n (eX11_rest 2 rfl) rfl rfl ?_
  refine zr_invV_i (as := [(.int x1, 0), (.int x2, 0)]) (cX11_noSector_ok l h a0 x1 x2) rfl rfl ⟨by decide, by decide, by decide⟩ zcd_X11_noSector rfl ⟨zw_281, zw_283, zw_2, zw_57⟩ ⟨Nat.le_of_ble_eq_true rfl, Nat.le_of_ble_eq_true rfl⟩ rfl (Nat.le_of_ble_eq_true rfl) (eX11_rest 3 rfl) (fun x21 => ?_)
  refine zr_if_ne (eX11_rest 4 rfl) (t := 16) (by decide) ?_ ?_
  · refine zr_ldc2 (eX11_rest 8 rfl) zw_238 ?_
    exact zr_lret rfl rfl (eX11_rest 9 rfl)
  · refine zr_iload_n (eX11_rest 5 rfl) rfl rfl ?_
    refine zr_invS_i (as := [(.int x3, 0)]) (cX11_tooFar_ok l h x3) rfl zcd_X11_tooFar ⟨zw_417, zw_418, zw_57⟩ ⟨Nat.le_of_ble_eq_true rfl, Nat.le_of_ble_eq_true rfl⟩ rfl (Nat.le_of_ble_eq_true rfl) (eX11_rest 6 rfl) (fun x22 => ?_)
    refine zr_if_eq (eX11_rest 7 rfl) (t := 20) (by decide) ?_ ?_
    · refine zr_aload_n (r := (some a0)) (eX11_rest 10 rfl) rfl rfl ?_
      refine zr_iload_n (eX11_rest 11 rfl) rfl rfl ?_
      refine zr_iload_n (eX11_rest 12 rfl) rfl rfl ?_
      refine zr_invV_R (as := [(.int x1, 0), (.int x2, 0)]) (cX11_sectorOf_ok l h a0 x1 x2) rfl rfl ⟨by decide, by decide, by decide⟩ zcd_X11_sectorOf rfl ⟨zw_285, zw_287, zw_3, zw_57⟩ ⟨Nat.le_of_ble_eq_true rfl, Nat.le_of_ble_eq_true rfl⟩ rfl (Nat.le_of_ble_eq_true rfl) (eX11_rest 13 rfl) (fun r23 h1 => ?_)
      refine zr_astore (r := r23) (ls2 := [some (.ref a0, 11), some (.int x1, 0), some (.int x2, 0), some (.int x3, 0), some (.int x4, 0), some (va_rf r23, 5)]) (eX11_rest 14 rfl) (Nat.le_of_ble_eq_true rfl) rfl ?_
      refine zr_aload (r := r23) (eX11_rest 15 rfl) rfl ?_
      refine zr_iload_n (eX11_rest 16 rfl) rfl rfl ?_
      refine v_nn (fun a24 ea24 => ?_)
      subst ea24
      refine zr_invV_I (as := [(.int x3, 0)]) (cX5_restsAt_ok l h1 a24 x3) rfl rfl ⟨by decide, by decide, by decide⟩ zcd_X5_restsAt rfl ⟨zw_483, zw_484, zw_485, zw_64⟩ ⟨Nat.le_of_ble_eq_true rfl, Nat.le_of_ble_eq_true rfl⟩ rfl (Nat.le_of_ble_eq_true rfl) (eX11_rest 17 rfl) (fun x25 h2 => ?_)
      refine zr_if_eq (eX11_rest 18 rfl) (t := 47) (by decide) ?_ ?_
      · refine zr_ldc2 (eX11_rest 23 rfl) zw_238 ?_
        exact zr_lret rfl rfl (eX11_rest 24 rfl)
      · refine zr_aload (r := (some a24)) (eX11_rest 19 rfl) rfl ?_
        refine zr_iload (eX11_rest 20 rfl) rfl ?_
        refine zr_invV_i (as := [(.int x4, 0)]) (cX5_hasOrbit_ok l h2 a24 x4) rfl rfl ⟨by decide, by decide, by decide⟩ zcd_X5_hasOrbit rfl ⟨zw_374, zw_375, zw_376, zw_64⟩ ⟨Nat.le_of_ble_eq_true rfl, Nat.le_of_ble_eq_true rfl⟩ rfl (Nat.le_of_ble_eq_true rfl) (eX11_rest 21 rfl) (fun x26 => ?_)
        refine zr_if_ne (eX11_rest 22 rfl) (t := 51) (by decide) ?_ ?_
        · refine zr_aload (r := (some a24)) (eX11_rest 25 rfl) rfl ?_
          refine zr_getR2 zf_RX11_144 (τ2 := 21) rfl (eX11_rest 26 rfl) ?_
          refine v_letr (fun r27 => ?_)
          refine zr_iload (eX11_rest 27 rfl) rfl ?_
          refine v_nn (fun a28 ea28 => ?_)
          subst ea28
          refine zr_lald (eX11_rest 28 rfl) ?_
          exact zr_lret rfl rfl (eX11_rest 29 rfl)
        · refine zr_ldc2 (eX11_rest 23 rfl) zw_238 ?_
          exact zr_lret rfl rfl (eX11_rest 24 rfl)
    · refine zr_ldc2 (eX11_rest 8 rfl) zw_238 ?_
      exact zr_lret rfl rfl (eX11_rest 9 rfl)
def gX11_seen_J1 (x4 : Int32) (x5 : Int32) (a29 : Nat) (h2 : Zh) : Int32 → Option (Int64 × Zh) :=
  fun (x31 : Int32) => zbj (gX5_seenAt h2 a29 x4 x5 x31) (fun x32 => (some (x32, h2)))
def gX11_seen (h : Zh) (a0 : Nat) (x1 : Int32) (x2 : Int32) (x3 : Int32) (x4 : Int32) (x5 : Int32) (x6 : Int32) : Option (Int64 × Zh) :=
  zbi (gX11_noSector h a0 x1 x2) (fun x21 => (if (x21 : Int32) = 0 then zbi (gX11_tooFar x3) (fun x22 => (if (x22 : Int32) = 0 then zlt (zR h a0 0) (fun r23 => Option.bind r23 (fun a24 => zbr (gX2_chainNow h a24) (fun r25 => Option.bind r25 (fun a26 => zlt (zI h a26 0) (fun x27 => (if (x4 : Int32) < 0 then (some ((-9223372036854775808), h))
  else (if (x27 : Int32) ≤ x4 then (some ((-9223372036854775808), h))
  else (if (x5 : Int32) < 0 then (some ((-9223372036854775808), h))
  else (if (x27 : Int32) ≤ x5 then (some ((-9223372036854775808), h))
  else (if (x6 : Int32) < 0 then (some ((-9223372036854775808), h))
  else (if (x6 : Int32) ≤ 1 then zbR (gX11_sectorOf h a0 x1 x2) (fun r28 h1 => Option.bind r28 (fun a29 => zbI (gX5_restsAt h1 a29 x3) (fun x30 h2 => (if (x30 : Int32) = 0 then (some ((-9223372036854775808), h2))
  else zjn (gX11_seen_J1 x4 x5 a29 h2) (fun (k33 : Int32 → Option (Int64 × Zh)) =>
  (if (x6 : Int32) = 0 then k33 1
  else k33 0))))))
  else (some ((-9223372036854775808), h)))))))))))))
  else (some ((-9223372036854775808), h))))
  else (some ((-9223372036854775808), h))))
set_option maxRecDepth 20000 in
theorem cX11_seen_ok (l : Launch) (h : Zh) (a0 : Nat) (x1 : Int32) (x2 : Int32) (x3 : Int32) (x4 : Int32) (x5 : Int32) (x6 : Int32) : Zc l yX11_seen mX11_seen 0 h [(.ref a0, 11), (.int x1, 0), (.int x2, 0), (.int x3, 0), (.int x4, 0), (.int x5, 0), (.int x6, 0)] ((gX11_seen h a0 x1 x2 x3 x4 x5 x6).map zoJ) := by
  refine zc_of2 (ls := [some (.ref a0, 11), some (.int x1, 0), some (.int x2, 0), some (.int x3, 0), some (.int x4, 0), some (.int x5, 0), some (.int x6, 0), none, none]) (j := 2) (by decide +kernel) rfl rfl (zEn_ca (zEn_ci (zEn_ci (zEn_ci (zEn_ci (zEn_ci (zEn_ci rfl))))))) (Nat.le_of_ble_eq_true rfl) rfl ?_
  unfold gX11_seen
  refine zr_aload_n (r := (some a0)) (eX11_seen 0 rfl) rfl rfl ?_
  refine zr_iload_n (eX11_seen 1 rfl) rfl rfl ?_
  refine zr_iload_n (eX11_seen 2 rfl) rfl rfl ?_
  refine zr_invV_i (as := [(.int x1, 0), (.int x2, 0)]) (cX11_noSector_ok l h a0 x1 x2) rfl rfl ⟨by decide, by decide, by decide⟩ zcd_X11_noSector rfl ⟨zw_281, zw_283, zw_2, zw_57⟩ ⟨Nat.le_of_ble_eq_true rfl, Nat.le_of_ble_eq_true rfl⟩ rfl (Nat.le_of_ble_eq_true rfl) (eX11_seen 3 rfl) (fun x21 => ?_)
  refine zr_if_ne (eX11_seen 4 rfl) (t := 16) (by decide) ?_ ?_
  · refine zr_ldc2 (eX11_seen 8 rfl) zw_238 ?_
    exact zr_lret rfl rfl (eX11_seen 9 rfl)
  · refine zr_iload_n (eX11_seen 5 rfl) rfl rfl ?_
    refine zr_invS_i (as := [(.int x3, 0)]) (cX11_tooFar_ok l h x3) rfl zcd_X11_tooFar ⟨zw_417, zw_418, zw_57⟩ ⟨Nat.le_of_ble_eq_true rfl, Nat.le_of_ble_eq_true rfl⟩ rfl (Nat.le_of_ble_eq_true rfl) (eX11_seen 6 rfl) (fun x22 => ?_)
    refine zr_if_eq (eX11_seen 7 rfl) (t := 20) (by decide) ?_ ?_
    · refine zr_aload_n (r := (some a0)) (eX11_seen 10 rfl) rfl rfl ?_
      refine zr_getR2 zf_RX11_19 (τ2 := 2) rfl (eX11_seen 11 rfl) ?_
      refine v_letr (fun r23 => ?_)
      refine v_nn (fun a24 ea24 => ?_)
      subst ea24
      refine zr_invV_r (as := []) (cX2_chainNow_ok l h a24) rfl rfl ⟨by decide, by decide, by decide⟩ zcd_X2_chainNow rfl ⟨zw_231, zw_232, zw_233, zw_58⟩ ⟨Nat.le_of_ble_eq_true rfl, Nat.le_of_ble_eq_true rfl⟩ rfl (Nat.le_of_ble_eq_true rfl) (eX11_seen 12 rfl) (fun r25 => ?_)
      refine v_nn (fun a26 ea26 => ?_)
      subst ea26
      refine zr_getI zf_RX11_73 ⟨by decide, by decide⟩ (eX11_seen 13 rfl) ?_
      refine v_leti (fun x27 => ?_)
      refine zr_istore (ls2 := [some (.ref a0, 11), some (.int x1, 0), some (.int x2, 0), some (.int x3, 0), some (.int x4, 0), some (.int x5, 0), some (.int x6, 0), some (.int x27, 0), none]) (eX11_seen 14 rfl) (Nat.le_of_ble_eq_true rfl) rfl ?_
      refine zr_iload (eX11_seen 15 rfl) rfl ?_
      refine zr_if_lt (eX11_seen 16 rfl) (t := 67) (by decide) ?_ ?_
      · refine zr_ldc2 (eX11_seen 30 rfl) zw_238 ?_
        exact zr_lret rfl rfl (eX11_seen 31 rfl)
      · refine zr_iload (eX11_seen 17 rfl) rfl ?_
        refine zr_iload (eX11_seen 18 rfl) rfl ?_
        refine zr_icmp_ge (eX11_seen 19 rfl) (t := 67) (by decide) ?_ ?_
        · refine zr_ldc2 (eX11_seen 30 rfl) zw_238 ?_
          exact zr_lret rfl rfl (eX11_seen 31 rfl)
        · refine zr_iload (eX11_seen 20 rfl) rfl ?_
          refine zr_if_lt (eX11_seen 21 rfl) (t := 67) (by decide) ?_ ?_
          · refine zr_ldc2 (eX11_seen 30 rfl) zw_238 ?_
            exact zr_lret rfl rfl (eX11_seen 31 rfl)
          · refine zr_iload (eX11_seen 22 rfl) rfl ?_
            refine zr_iload (eX11_seen 23 rfl) rfl ?_
            refine zr_icmp_ge (eX11_seen 24 rfl) (t := 67) (by decide) ?_ ?_
            · refine zr_ldc2 (eX11_seen 30 rfl) zw_238 ?_
              exact zr_lret rfl rfl (eX11_seen 31 rfl)
            · refine zr_iload (eX11_seen 25 rfl) rfl ?_
              refine zr_if_lt (eX11_seen 26 rfl) (t := 67) (by decide) ?_ ?_
              · refine zr_ldc2 (eX11_seen 30 rfl) zw_238 ?_
                exact zr_lret rfl rfl (eX11_seen 31 rfl)
              · refine zr_iload (eX11_seen 27 rfl) rfl ?_
                refine zr_iconst (eX11_seen 28 rfl) zk_iconst_1 ?_
                refine zr_icmp_le (eX11_seen 29 rfl) (t := 71) (by decide) ?_ ?_
                · refine zr_aload_n (r := (some a0)) (eX11_seen 32 rfl) rfl rfl ?_
                  refine zr_iload_n (eX11_seen 33 rfl) rfl rfl ?_
                  refine zr_iload_n (eX11_seen 34 rfl) rfl rfl ?_
                  refine zr_invV_R (as := [(.int x1, 0), (.int x2, 0)]) (cX11_sectorOf_ok l h a0 x1 x2) rfl rfl ⟨by decide, by decide, by decide⟩ zcd_X11_sectorOf rfl ⟨zw_285, zw_287, zw_3, zw_57⟩ ⟨Nat.le_of_ble_eq_true rfl, Nat.le_of_ble_eq_true rfl⟩ rfl (Nat.le_of_ble_eq_true rfl) (eX11_seen 35 rfl) (fun r28 h1 => ?_)
                  refine zr_astore (r := r28) (ls2 := [some (.ref a0, 11), some (.int x1, 0), some (.int x2, 0), some (.int x3, 0), some (.int x4, 0), some (.int x5, 0), some (.int x6, 0), some (.int x27, 0), some (va_rf r28, 5)]) (eX11_seen 36 rfl) (Nat.le_of_ble_eq_true rfl) rfl ?_
                  refine zr_aload (r := r28) (eX11_seen 37 rfl) rfl ?_
                  refine zr_iload_n (eX11_seen 38 rfl) rfl rfl ?_
                  refine v_nn (fun a29 ea29 => ?_)
                  subst ea29
                  refine zr_invV_I (as := [(.int x3, 0)]) (cX5_restsAt_ok l h1 a29 x3) rfl rfl ⟨by decide, by decide, by decide⟩ zcd_X5_restsAt rfl ⟨zw_483, zw_484, zw_485, zw_64⟩ ⟨Nat.le_of_ble_eq_true rfl, Nat.le_of_ble_eq_true rfl⟩ rfl (Nat.le_of_ble_eq_true rfl) (eX11_seen 39 rfl) (fun x30 h2 => ?_)
                  refine zr_if_eq (eX11_seen 40 rfl) (t := 110) (by decide) ?_ ?_
                  · refine zr_ldc2 (eX11_seen 51 rfl) zw_238 ?_
                    exact zr_lret rfl rfl (eX11_seen 52 rfl)
                  · refine zr_aload (r := (some a29)) (eX11_seen 41 rfl) rfl ?_
                    refine zr_iload (eX11_seen 42 rfl) rfl ?_
                    refine zr_iload (eX11_seen 43 rfl) rfl ?_
                    refine zr_iload (eX11_seen 44 rfl) rfl ?_
                    refine v_jn (fun (k33 : Int32 → Option (Int64 × Zh)) => ∀ (x31 : Int32), V l mX11_seen (zN h) (zS h) 0 zoJ 104 [none, none, none, none, none, none, none, none, none] [(.int x31, 0), (.int x5, 0), (.int x4, 0), (.ref a29, 5)] h2 (k33 x31)) ?_ ?_
                    · intro x31
                      unfold gX11_seen_J1
                      refine zr_invV_j (as := [(.int x4, 0), (.int x5, 0), (.int x31, 0)]) (cX5_seenAt_ok l h2 a29 x4 x5 x31) rfl rfl ⟨by decide, by decide, by decide⟩ zcd_X5_seenAt rfl ⟨zw_511, zw_512, zw_513, zw_64⟩ ⟨Nat.le_of_ble_eq_true rfl, Nat.le_of_ble_eq_true rfl⟩ rfl (Nat.le_of_ble_eq_true rfl) (eX11_seen 49 rfl) (fun x32 => ?_)
                      refine zr_goto (eX11_seen 50 rfl) (t := 113) (by decide) ?_
                      exact zr_lret rfl rfl (eX11_seen 52 rfl)
                    intro k33 hk33
                    refine zr_if_ne (eX11_seen 45 rfl) (t := 103) (by decide) ?_ ?_
                    · refine zr_iconst (eX11_seen 48 rfl) zk_iconst_0 ?_
                      exact v_drop [false, false, false, false, false, false, false, false, false] rfl (hk33 0)
                    · refine zr_iconst (eX11_seen 46 rfl) zk_iconst_1 ?_
                      refine zr_goto (eX11_seen 47 rfl) (t := 104) (by decide) ?_
                      exact v_drop [false, false, false, false, false, false, false, false, false] rfl (hk33 1)
                · refine zr_ldc2 (eX11_seen 30 rfl) zw_238 ?_
                  exact zr_lret rfl rfl (eX11_seen 31 rfl)
    · refine zr_ldc2 (eX11_seen 8 rfl) zw_238 ?_
      exact zr_lret rfl rfl (eX11_seen 9 rfl)
def gX11_noKind_J1 : Option (Int32) :=
  (some 1)
def gX11_noKind (x0 : Int32) : Option (Int32) :=
  zjn gX11_noKind_J1 (fun (k21 : Option (Int32)) =>
  (if (x0 : Int32) < 0 then k21
  else (if (x0 : Int32) < 3 then (some 0)
  else k21)))
set_option maxRecDepth 20000 in
theorem cX11_noKind_ok (l : Launch) (h : Zh) (x0 : Int32) : Zc l yX11_noKind mX11_noKind 0 h [(.int x0, 0)] ((gX11_noKind x0).map (zoi h)) := by
  refine zc_of2 (ls := [some (.int x0, 0)]) (j := 0) (by decide +kernel) rfl rfl (zEn_ci rfl) (Nat.le_of_ble_eq_true rfl) rfl ?_
  unfold gX11_noKind
  refine zr_iload_n (eX11_noKind 0 rfl) rfl rfl ?_
  refine v_jn (fun (k21 : Option (Int32)) => V l mX11_noKind (zN h) (zS h) 0 (zoi h) 9 [none] [] h k21) ?_ ?_
  · skip
    unfold gX11_noKind_J1
    refine zr_iconst (eX11_noKind 5 rfl) zk_iconst_1 ?_
    refine zr_goto (eX11_noKind 6 rfl) (t := 14) (by decide) ?_
    exact zr_zret rfl (by decide) rfl (eX11_noKind 8 rfl)
  intro k21 hk21
  refine zr_if_lt (eX11_noKind 1 rfl) (t := 9) (by decide) ?_ ?_
  · exact v_drop [false] rfl (hk21)
  · refine zr_iload_n (eX11_noKind 2 rfl) rfl rfl ?_
    refine zr_iconst (eX11_noKind 3 rfl) zk_iconst_3 ?_
    refine zr_icmp_lt (eX11_noKind 4 rfl) (t := 13) (by decide) ?_ ?_
    · refine zr_iconst (eX11_noKind 7 rfl) zk_iconst_0 ?_
      exact zr_zret rfl (by decide) rfl (eX11_noKind 8 rfl)
    · exact v_drop [false] rfl (hk21)
def gX11_noWeights_J1 : Option (Int32) :=
  (some 1)
def gX11_noWeights (x0 : Int32) (x1 : Int32) (x2 : Int32) : Option (Int32) :=
  zjn gX11_noWeights_J1 (fun (k21 : Option (Int32)) =>
  (if (x0 : Int32) < (-9) then k21
  else (if (9 : Int32) < x0 then k21
  else (if (x1 : Int32) < (-9) then k21
  else (if (9 : Int32) < x1 then k21
  else (if (x2 : Int32) < (-9) then k21
  else (if (x2 : Int32) ≤ 9 then (some 0)
  else k21)))))))
set_option maxRecDepth 20000 in
theorem cX11_noWeights_ok (l : Launch) (h : Zh) (x0 : Int32) (x1 : Int32) (x2 : Int32) : Zc l yX11_noWeights mX11_noWeights 0 h [(.int x0, 0), (.int x1, 0), (.int x2, 0)] ((gX11_noWeights x0 x1 x2).map (zoi h)) := by
  refine zc_of2 (ls := [some (.int x0, 0), some (.int x1, 0), some (.int x2, 0)]) (j := 0) (by decide +kernel) rfl rfl (zEn_ci (zEn_ci (zEn_ci rfl))) (Nat.le_of_ble_eq_true rfl) rfl ?_
  unfold gX11_noWeights
  refine zr_iload_n (eX11_noWeights 0 rfl) rfl rfl ?_
  refine zr_bipush (eX11_noWeights 1 rfl) zk_bipush_m9 ?_
  refine v_jn (fun (k21 : Option (Int32)) => V l mX11_noWeights (zN h) (zS h) 0 (zoi h) 36 [none, none, none] [] h k21) ?_ ?_
  · skip
    unfold gX11_noWeights_J1
    refine zr_iconst (eX11_noWeights 18 rfl) zk_iconst_1 ?_
    refine zr_goto (eX11_noWeights 19 rfl) (t := 41) (by decide) ?_
    exact zr_zret rfl (by decide) rfl (eX11_noWeights 21 rfl)
  intro k21 hk21
  refine zr_icmp_lt (eX11_noWeights 2 rfl) (t := 36) (by decide) ?_ ?_
  · exact v_drop [false, false, false] rfl (hk21)
  · refine zr_iload_n (eX11_noWeights 3 rfl) rfl rfl ?_
    refine zr_bipush (eX11_noWeights 4 rfl) zk_bipush_9 ?_
    refine zr_icmp_gt (eX11_noWeights 5 rfl) (t := 36) (by decide) ?_ ?_
    · exact v_drop [false, false, false] rfl (hk21)
    · refine zr_iload_n (eX11_noWeights 6 rfl) rfl rfl ?_
      refine zr_bipush (eX11_noWeights 7 rfl) zk_bipush_m9 ?_
      refine zr_icmp_lt (eX11_noWeights 8 rfl) (t := 36) (by decide) ?_ ?_
      · exact v_drop [false, false, false] rfl (hk21)
      · refine zr_iload_n (eX11_noWeights 9 rfl) rfl rfl ?_
        refine zr_bipush (eX11_noWeights 10 rfl) zk_bipush_9 ?_
        refine zr_icmp_gt (eX11_noWeights 11 rfl) (t := 36) (by decide) ?_ ?_
        · exact v_drop [false, false, false] rfl (hk21)
        · refine zr_iload_n (eX11_noWeights 12 rfl) rfl rfl ?_
          refine zr_bipush (eX11_noWeights 13 rfl) zk_bipush_m9 ?_
          refine zr_icmp_lt (eX11_noWeights 14 rfl) (t := 36) (by decide) ?_ ?_
          · exact v_drop [false, false, false] rfl (hk21)
          · refine zr_iload_n (eX11_noWeights 15 rfl) rfl rfl ?_
            refine zr_bipush (eX11_noWeights 16 rfl) zk_bipush_9 ?_
            refine zr_icmp_le (eX11_noWeights 17 rfl) (t := 40) (by decide) ?_ ?_
            · refine zr_iconst (eX11_noWeights 20 rfl) zk_iconst_0 ?_
              exact zr_zret rfl (by decide) rfl (eX11_noWeights 21 rfl)
            · exact v_drop [false, false, false] rfl (hk21)
def gX11_take_J1 (a0 : Nat) (x21 : Int32) : Zh → Option (Int32 × Zh) :=
  fun (h1 : Zh) => zlt (zsI h1 a0 4 ((zI h1 a0 4) + 1)) (fun (h2 : Zh) => (some (x21, h2)))
def gX11_take (h : Zh) (a0 : Nat) (x1 : Int32) (x2 : Int32) (x3 : Int32) (x4 : Int32) : Option (Int32 × Zh) :=
  (if ((zI h a0 4) : Int32) < 6 then zlt (zI h a0 4) (fun x21 => zjn (gX11_take_J1 a0 x21) (fun (k22 : Zh → Option (Int32 × Zh)) =>
  (if (x1 : Int32) = 0 then zlt (zR h a0 1) (fun r29 => zlt (zN h) (fun a30 => zlt (zA h 4 4) (fun (h9 : Zh) => zbV (gX4_init h9 a30 x21 x2 x3 x4) (fun h10 => Option.bind r29 (fun a31 => zg (zin x21 (zL h10 a31)) (zlt (zsR h10 a31 (zx x21) (some a30)) (fun (h11 : Zh) => k22 h11)))))))
  else (if (x1 : Int32) = 1 then zlt (zR h a0 1) (fun r26 => zlt (zN h) (fun a27 => zlt (zA h 10 4) (fun (h6 : Zh) => zbV (gX10_init h6 a27 x21 x2 x3 x4) (fun h7 => Option.bind r26 (fun a28 => zg (zin x21 (zL h7 a28)) (zlt (zsR h7 a28 (zx x21) (some a27)) (fun (h8 : Zh) => k22 h8)))))))
  else zlt (zR h a0 1) (fun r23 => zlt (zN h) (fun a24 => zlt (zA h 7 4) (fun (h3 : Zh) => zbV (gX7_init h3 a24 x21 x2 x3 x4) (fun h4 => Option.bind r23 (fun a25 => zg (zin x21 (zL h4 a25)) (zlt (zsR h4 a25 (zx x21) (some a24)) (fun (h5 : Zh) => k22 h5)))))))))))
  else (some ((-4), h)))
set_option maxRecDepth 20000 in
theorem cX11_take_ok (l : Launch) (h : Zh) (a0 : Nat) (x1 : Int32) (x2 : Int32) (x3 : Int32) (x4 : Int32) : Zc l yX11_take mX11_take 0 h [(.ref a0, 11), (.int x1, 0), (.int x2, 0), (.int x3, 0), (.int x4, 0)] ((gX11_take h a0 x1 x2 x3 x4).map zoI) := by
  refine zc_of2 (ls := [some (.ref a0, 11), some (.int x1, 0), some (.int x2, 0), some (.int x3, 0), some (.int x4, 0), none]) (j := 1) (by decide +kernel) rfl rfl (zEn_ca (zEn_ci (zEn_ci (zEn_ci (zEn_ci rfl))))) (Nat.le_of_ble_eq_true rfl) rfl ?_
  unfold gX11_take
  refine zr_aload_n (r := (some a0)) (eX11_take 0 rfl) rfl rfl ?_
  refine zr_getI zf_RX11_44 ⟨by decide, by decide⟩ (eX11_take 1 rfl) ?_
  refine zr_bipush (eX11_take 2 rfl) zk_bipush_6 ?_
  refine zr_icmp_lt (eX11_take 3 rfl) (t := 12) (by decide) ?_ ?_
  · refine zr_aload_n (r := (some a0)) (eX11_take 6 rfl) rfl rfl ?_
    refine zr_getI zf_RX11_44 ⟨by decide, by decide⟩ (eX11_take 7 rfl) ?_
    refine v_leti (fun x21 => ?_)
    refine zr_istore (ls2 := [some (.ref a0, 11), some (.int x1, 0), some (.int x2, 0), some (.int x3, 0), some (.int x4, 0), some (.int x21, 0)]) (eX11_take 8 rfl) (Nat.le_of_ble_eq_true rfl) rfl ?_
    refine zr_iload_n (eX11_take 9 rfl) rfl rfl ?_
    refine v_jn (fun (k22 : Zh → Option (Int32 × Zh)) => ∀ (h1 : Zh), V l mX11_take (zN h) (zS h) 0 zoI 93 [some (.ref a0, 11), none, none, none, none, some (.int x21, 0)] [] h1 (k22 h1)) ?_ ?_
    · intro h1
      unfold gX11_take_J1
      refine zr_aload_n (r := (some a0)) (eX11_take 49 rfl) rfl rfl ?_
      refine zr_dup (eX11_take 50 rfl) rfl ?_
      refine zr_getI zf_RX11_44 ⟨by decide, by decide⟩ (eX11_take 51 rfl) ?_
      refine zr_iconst (eX11_take 52 rfl) zk_iconst_1 ?_
      refine zr_iadd (eX11_take 53 rfl) ?_
      refine zr_putI zf_RX11_44 rfl (Or.inl rfl) (eX11_take 54 rfl) ?_
      refine v_leth (fun h2 => ?_)
      refine zr_iload (eX11_take 55 rfl) rfl ?_
      exact zr_iret rfl rfl (eX11_take 56 rfl)
    intro k22 hk22
    refine zr_if_ne (eX11_take 10 rfl) (t := 45) (by decide) ?_ ?_
    · refine zr_iload_n (eX11_take 23 rfl) rfl rfl ?_
      refine zr_iconst (eX11_take 24 rfl) zk_iconst_1 ?_
      refine zr_icmp_ne (eX11_take 25 rfl) (t := 73) (by decide) ?_ ?_
      · refine zr_aload_n (r := (some a0)) (eX11_take 38 rfl) rfl rfl ?_
        refine zr_getR2 zf_RX11_27 (τ2 := 23) rfl (eX11_take 39 rfl) ?_
        refine v_letr (fun r23 => ?_)
        refine zr_iload (eX11_take 40 rfl) rfl ?_
        refine zr_new zci7 zw_562 zw_563 zw_70 (eX11_take 41 rfl) ?_
        refine zr_leta (fun a24 => ?_)
        refine v_leth (fun h3 => ?_)
        refine zr_dup (eX11_take 42 rfl) rfl ?_
        refine zr_iload (eX11_take 43 rfl) rfl ?_
        refine zr_iload_n (eX11_take 44 rfl) rfl rfl ?_
        refine zr_iload_n (eX11_take 45 rfl) rfl rfl ?_
        refine zr_iload (eX11_take 46 rfl) rfl ?_
        refine zr_invI_V (as := [(.int x21, 0), (.int x2, 0), (.int x3, 0), (.int x4, 0)]) (cX7_init_ok l h3 a24 x21 x2 x3 x4) rfl zcd_X7_init rfl rfl ⟨zw_564, zw_565, zw_70⟩ ⟨Nat.le_of_ble_eq_true rfl, Nat.le_of_ble_eq_true rfl⟩ rfl (Nat.le_of_ble_eq_true rfl) (eX11_take 47 rfl) (fun h4 => ?_)
        refine v_nn (fun a25 ea25 => ?_)
        subst ea25
        refine zr_aast (r := (some a24)) zQa_23 zSub_7_4 (by decide) (eX11_take 48 rfl) ?_
        refine v_leth (fun h5 => ?_)
        exact v_drop [true, false, false, false, false, true] rfl (hk22 h5)
      · refine zr_aload_n (r := (some a0)) (eX11_take 26 rfl) rfl rfl ?_
        refine zr_getR2 zf_RX11_27 (τ2 := 23) rfl (eX11_take 27 rfl) ?_
        refine v_letr (fun r26 => ?_)
        refine zr_iload (eX11_take 28 rfl) rfl ?_
        refine zr_new zci10 zw_551 zw_552 zw_69 (eX11_take 29 rfl) ?_
        refine zr_leta (fun a27 => ?_)
        refine v_leth (fun h6 => ?_)
        refine zr_dup (eX11_take 30 rfl) rfl ?_
        refine zr_iload (eX11_take 31 rfl) rfl ?_
        refine zr_iload_n (eX11_take 32 rfl) rfl rfl ?_
        refine zr_iload_n (eX11_take 33 rfl) rfl rfl ?_
        refine zr_iload (eX11_take 34 rfl) rfl ?_
        refine zr_invI_V (as := [(.int x21, 0), (.int x2, 0), (.int x3, 0), (.int x4, 0)]) (cX10_init_ok l h6 a27 x21 x2 x3 x4) rfl zcd_X10_init rfl rfl ⟨zw_553, zw_554, zw_69⟩ ⟨Nat.le_of_ble_eq_true rfl, Nat.le_of_ble_eq_true rfl⟩ rfl (Nat.le_of_ble_eq_true rfl) (eX11_take 35 rfl) (fun h7 => ?_)
        refine v_nn (fun a28 ea28 => ?_)
        subst ea28
        refine zr_aast (r := (some a27)) zQa_23 zSub_10_4 (by decide) (eX11_take 36 rfl) ?_
        refine v_leth (fun h8 => ?_)
        refine zr_goto (eX11_take 37 rfl) (t := 93) (by decide) ?_
        exact v_drop [true, false, false, false, false, true] rfl (hk22 h8)
    · refine zr_aload_n (r := (some a0)) (eX11_take 11 rfl) rfl rfl ?_
      refine zr_getR2 zf_RX11_27 (τ2 := 23) rfl (eX11_take 12 rfl) ?_
      refine v_letr (fun r29 => ?_)
      refine zr_iload (eX11_take 13 rfl) rfl ?_
      refine zr_new zci4 zw_168 zw_530 zw_68 (eX11_take 14 rfl) ?_
      refine zr_leta (fun a30 => ?_)
      refine v_leth (fun h9 => ?_)
      refine zr_dup (eX11_take 15 rfl) rfl ?_
      refine zr_iload (eX11_take 16 rfl) rfl ?_
      refine zr_iload_n (eX11_take 17 rfl) rfl rfl ?_
      refine zr_iload_n (eX11_take 18 rfl) rfl rfl ?_
      refine zr_iload (eX11_take 19 rfl) rfl ?_
      refine zr_invI_V (as := [(.int x21, 0), (.int x2, 0), (.int x3, 0), (.int x4, 0)]) (cX4_init_ok l h9 a30 x21 x2 x3 x4) rfl zcd_X4_init rfl rfl ⟨zw_531, zw_532, zw_68⟩ ⟨Nat.le_of_ble_eq_true rfl, Nat.le_of_ble_eq_true rfl⟩ rfl (Nat.le_of_ble_eq_true rfl) (eX11_take 20 rfl) (fun h10 => ?_)
      refine v_nn (fun a31 ea31 => ?_)
      subst ea31
      refine zr_aast (r := (some a30)) zQa_23 (fun _ h => h) (by decide) (eX11_take 21 rfl) ?_
      refine v_leth (fun h11 => ?_)
      refine zr_goto (eX11_take 22 rfl) (t := 93) (by decide) ?_
      exact v_drop [true, false, false, false, false, true] rfl (hk22 h11)
  · refine zr_bipush (eX11_take 4 rfl) zk_bipush_m4 ?_
    exact zr_iret rfl rfl (eX11_take 5 rfl)
def gX11_weights (h : Zh) (a0 : Nat) (x1 : Int32) (x2 : Int32) (x3 : Int32) (x4 : Int32) : Option (Int32 × Zh) :=
  zbi (gX11_noKind x1) (fun x21 => (if (x21 : Int32) = 0 then zbi (gX11_noWeights x2 x3 x4) (fun x22 => (if (x22 : Int32) = 0 then zbI (gX11_take h a0 x1 x2 x3 x4) (fun x23 h1 => (some (x23, h1)))
  else (some ((-2), h))))
  else (some ((-2), h))))
set_option maxRecDepth 20000 in
theorem cX11_weights_ok (l : Launch) (h : Zh) (a0 : Nat) (x1 : Int32) (x2 : Int32) (x3 : Int32) (x4 : Int32) : Zc l yX11_weights mX11_weights 0 h [(.ref a0, 11), (.int x1, 0), (.int x2, 0), (.int x3, 0), (.int x4, 0)] ((gX11_weights h a0 x1 x2 x3 x4).map zoI) := by
  refine zc_of2 (ls := [some (.ref a0, 11), some (.int x1, 0), some (.int x2, 0), some (.int x3, 0), some (.int x4, 0)]) (j := 0) (by decide +kernel) rfl rfl (zEn_ca (zEn_ci (zEn_ci (zEn_ci (zEn_ci rfl))))) (Nat.le_of_ble_eq_true rfl) rfl ?_
  unfold gX11_weights
  refine zr_iload_n (eX11_weights 0 rfl) rfl rfl ?_
  refine zr_invS_i (as := [(.int x1, 0)]) (cX11_noKind_ok l h x1) rfl zcd_X11_noKind ⟨zw_520, zw_521, zw_57⟩ ⟨Nat.le_of_ble_eq_true rfl, Nat.le_of_ble_eq_true rfl⟩ rfl (Nat.le_of_ble_eq_true rfl) (eX11_weights 1 rfl) (fun x21 => ?_)
  refine zr_if_ne (eX11_weights 2 rfl) (t := 17) (by decide) ?_ ?_
  · refine zr_bipush (eX11_weights 8 rfl) zk_bipush_m2 ?_
    exact zr_iret rfl rfl (eX11_weights 9 rfl)
  · refine zr_iload_n (eX11_weights 3 rfl) rfl rfl ?_
    refine zr_iload_n (eX11_weights 4 rfl) rfl rfl ?_
    refine zr_iload (eX11_weights 5 rfl) rfl ?_
    refine zr_invS_i (as := [(.int x2, 0), (.int x3, 0), (.int x4, 0)]) (cX11_noWeights_ok l h x2 x3 x4) rfl zcd_X11_noWeights ⟨zw_523, zw_524, zw_57⟩ ⟨Nat.le_of_ble_eq_true rfl, Nat.le_of_ble_eq_true rfl⟩ rfl (Nat.le_of_ble_eq_true rfl) (eX11_weights 6 rfl) (fun x22 => ?_)
    refine zr_if_eq (eX11_weights 7 rfl) (t := 20) (by decide) ?_ ?_
    · refine zr_aload_n (r := (some a0)) (eX11_weights 10 rfl) rfl rfl ?_
      refine zr_iload_n (eX11_weights 11 rfl) rfl rfl ?_
      refine zr_iload_n (eX11_weights 12 rfl) rfl rfl ?_
      refine zr_iload_n (eX11_weights 13 rfl) rfl rfl ?_
      refine zr_iload (eX11_weights 14 rfl) rfl ?_
      refine zr_invV_I (as := [(.int x1, 0), (.int x2, 0), (.int x3, 0), (.int x4, 0)]) (cX11_take_ok l h a0 x1 x2 x3 x4) rfl rfl ⟨by decide, by decide, by decide⟩ zcd_X11_take rfl ⟨zw_526, zw_528, zw_4, zw_57⟩ ⟨Nat.le_of_ble_eq_true rfl, Nat.le_of_ble_eq_true rfl⟩ rfl (Nat.le_of_ble_eq_true rfl) (eX11_weights 15 rfl) (fun x23 h1 => ?_)
      exact zr_iret rfl rfl (eX11_weights 16 rfl)
    · refine zr_bipush (eX11_weights 8 rfl) zk_bipush_m2 ?_
      exact zr_iret rfl rfl (eX11_weights 9 rfl)
def gX11_noSheet_J1 : Option (Int32) :=
  (some 1)
def gX11_noSheet (x0 : Int32) : Option (Int32) :=
  zjn gX11_noSheet_J1 (fun (k21 : Option (Int32)) =>
  (if (x0 : Int32) < 0 then k21
  else (if (x0 : Int32) < 4 then (some 0)
  else k21)))
set_option maxRecDepth 20000 in
theorem cX11_noSheet_ok (l : Launch) (h : Zh) (x0 : Int32) : Zc l yX11_noSheet mX11_noSheet 0 h [(.int x0, 0)] ((gX11_noSheet x0).map (zoi h)) := by
  refine zc_of2 (ls := [some (.int x0, 0)]) (j := 0) (by decide +kernel) rfl rfl (zEn_ci rfl) (Nat.le_of_ble_eq_true rfl) rfl ?_
  unfold gX11_noSheet
  refine zr_iload_n (eX11_noSheet 0 rfl) rfl rfl ?_
  refine v_jn (fun (k21 : Option (Int32)) => V l mX11_noSheet (zN h) (zS h) 0 (zoi h) 9 [none] [] h k21) ?_ ?_
  · skip
    unfold gX11_noSheet_J1
    refine zr_iconst (eX11_noSheet 5 rfl) zk_iconst_1 ?_
    refine zr_goto (eX11_noSheet 6 rfl) (t := 14) (by decide) ?_
    exact zr_zret rfl (by decide) rfl (eX11_noSheet 8 rfl)
  intro k21 hk21
  refine zr_if_lt (eX11_noSheet 1 rfl) (t := 9) (by decide) ?_ ?_
  · exact v_drop [false] rfl (hk21)
  · refine zr_iload_n (eX11_noSheet 2 rfl) rfl rfl ?_
    refine zr_iconst (eX11_noSheet 3 rfl) zk_iconst_4 ?_
    refine zr_icmp_lt (eX11_noSheet 4 rfl) (t := 13) (by decide) ?_ ?_
    · refine zr_iconst (eX11_noSheet 7 rfl) zk_iconst_0 ?_
      exact zr_zret rfl (by decide) rfl (eX11_noSheet 8 rfl)
    · exact v_drop [false] rfl (hk21)
def gX11_noLane_J1 : Option (Int32) :=
  (some 1)
def gX11_noLane (x0 : Int32) : Option (Int32) :=
  zjn gX11_noLane_J1 (fun (k21 : Option (Int32)) =>
  (if (x0 : Int32) < 0 then k21
  else (if (x0 : Int32) < 3 then (some 0)
  else k21)))
set_option maxRecDepth 20000 in
theorem cX11_noLane_ok (l : Launch) (h : Zh) (x0 : Int32) : Zc l yX11_noLane mX11_noLane 0 h [(.int x0, 0)] ((gX11_noLane x0).map (zoi h)) := by
  refine zc_of2 (ls := [some (.int x0, 0)]) (j := 0) (by decide +kernel) rfl rfl (zEn_ci rfl) (Nat.le_of_ble_eq_true rfl) rfl ?_
  unfold gX11_noLane
  refine zr_iload_n (eX11_noLane 0 rfl) rfl rfl ?_
  refine v_jn (fun (k21 : Option (Int32)) => V l mX11_noLane (zN h) (zS h) 0 (zoi h) 9 [none] [] h k21) ?_ ?_
  · skip
    unfold gX11_noLane_J1
    refine zr_iconst (eX11_noLane 5 rfl) zk_iconst_1 ?_
    refine zr_goto (eX11_noLane 6 rfl) (t := 14) (by decide) ?_
    exact zr_zret rfl (by decide) rfl (eX11_noLane 8 rfl)
  intro k21 hk21
  refine zr_if_lt (eX11_noLane 1 rfl) (t := 9) (by decide) ?_ ?_
  · exact v_drop [false] rfl (hk21)
  · refine zr_iload_n (eX11_noLane 2 rfl) rfl rfl ?_
    refine zr_iconst (eX11_noLane 3 rfl) zk_iconst_3 ?_
    refine zr_icmp_lt (eX11_noLane 4 rfl) (t := 13) (by decide) ?_ ?_
    · refine zr_iconst (eX11_noLane 7 rfl) zk_iconst_0 ?_
      exact zr_zret rfl (by decide) rfl (eX11_noLane 8 rfl)
    · exact v_drop [false] rfl (hk21)
def gX11_faultOf (h : Zh) (r0 : Option Nat) (x1 : Int32) (x2 : Int32) (x3 : Int32) : Option (Int32) :=
  (zcs r0 ((some 1)) (fun a21 => (if ((zI h a21 0) : Int32) = x1 then zbi (gX6_has h a21 x2 x3) (fun x22 => (if (x22 : Int32) = 0 then (some 3)
  else (some 0)))
  else (some 2))))
set_option maxRecDepth 20000 in
theorem cX11_faultOf_ok (l : Launch) (h : Zh) (r0 : Option Nat) (x1 : Int32) (x2 : Int32) (x3 : Int32) : Zc l yX11_faultOf mX11_faultOf 0 h [(va_rf r0, 6), (.int x1, 0), (.int x2, 0), (.int x3, 0)] ((gX11_faultOf h r0 x1 x2 x3).map (zoi h)) := by
  refine zc_of2 (ls := [some (va_rf r0, 6), some (.int x1, 0), some (.int x2, 0), some (.int x3, 0)]) (j := 0) (by decide +kernel) rfl rfl (zEn_cr (zEn_ci (zEn_ci (zEn_ci rfl)))) (Nat.le_of_ble_eq_true rfl) rfl ?_
  unfold gX11_faultOf
  refine zr_aload_n (r := r0) (eX11_faultOf 0 rfl) rfl rfl ?_
  refine zr_nonnull2 (eX11_faultOf 1 rfl) (t := 6) (by decide) (fun ea21 => ?_) (fun a21 ea21 => ?_)
  · subst ea21
    refine zr_iconst (eX11_faultOf 2 rfl) zk_iconst_1 ?_
    exact zr_iret rfl rfl (eX11_faultOf 3 rfl)
  · subst ea21
    refine zr_aload_n (r := (some a21)) (eX11_faultOf 4 rfl) rfl rfl ?_
    refine zr_getI zf_RX11_310 ⟨by decide, by decide⟩ (eX11_faultOf 5 rfl) ?_
    refine zr_iload_n (eX11_faultOf 6 rfl) rfl rfl ?_
    refine zr_icmp_eq (eX11_faultOf 7 rfl) (t := 16) (by decide) ?_ ?_
    · refine zr_aload_n (r := (some a21)) (eX11_faultOf 10 rfl) rfl rfl ?_
      refine zr_iload_n (eX11_faultOf 11 rfl) rfl rfl ?_
      refine zr_iload_n (eX11_faultOf 12 rfl) rfl rfl ?_
      refine zr_invV_i (as := [(.int x2, 0), (.int x3, 0)]) (cX6_has_ok l h a21 x2 x3) rfl rfl ⟨by decide, by decide, by decide⟩ zcd_X6_has rfl ⟨zw_586, zw_587, zw_588, zw_73⟩ ⟨Nat.le_of_ble_eq_true rfl, Nat.le_of_ble_eq_true rfl⟩ rfl (Nat.le_of_ble_eq_true rfl) (eX11_faultOf 13 rfl) (fun x22 => ?_)
      refine zr_if_eq (eX11_faultOf 14 rfl) (t := 29) (by decide) ?_ ?_
      · refine zr_iconst (eX11_faultOf 17 rfl) zk_iconst_3 ?_
        exact zr_iret rfl rfl (eX11_faultOf 18 rfl)
      · refine zr_iconst (eX11_faultOf 15 rfl) zk_iconst_0 ?_
        refine zr_goto (eX11_faultOf 16 rfl) (t := 30) (by decide) ?_
        exact zr_iret rfl rfl (eX11_faultOf 18 rfl)
    · refine zr_iconst (eX11_faultOf 8 rfl) zk_iconst_2 ?_
      exact zr_iret rfl rfl (eX11_faultOf 9 rfl)
def gX11_faulted (h : Zh) (a0 : Nat) (x1 : Int32) : Option (Int32 × Zh) :=
  zlt (zsI h a0 5 x1) (fun (h1 : Zh) => (some (((-10) - x1), h1)))
set_option maxRecDepth 20000 in
theorem cX11_faulted_ok (l : Launch) (h : Zh) (a0 : Nat) (x1 : Int32) : Zc l yX11_faulted mX11_faulted 0 h [(.ref a0, 11), (.int x1, 0)] ((gX11_faulted h a0 x1).map zoI) := by
  refine zc_of2 (ls := [some (.ref a0, 11), some (.int x1, 0)]) (j := 0) (by decide +kernel) rfl rfl (zEn_ca (zEn_ci rfl)) (Nat.le_of_ble_eq_true rfl) rfl ?_
  unfold gX11_faulted
  refine zr_aload_n (r := (some a0)) (eX11_faulted 0 rfl) rfl rfl ?_
  refine zr_iload_n (eX11_faulted 1 rfl) rfl rfl ?_
  refine zr_putI zf_RX11_48 rfl (Or.inl rfl) (eX11_faulted 2 rfl) ?_
  refine v_leth (fun h1 => ?_)
  refine zr_bipush (eX11_faulted 3 rfl) zk_bipush_m10 ?_
  refine zr_iload_n (eX11_faulted 4 rfl) rfl rfl ?_
  refine zr_isub (eX11_faulted 5 rfl) ?_
  exact zr_iret rfl rfl (eX11_faulted 6 rfl)
def gX11_weightsOf_J1 (a0 : Nat) (h1 : Zh) (x27 : Int32) : Option (Int32 × Zh) :=
  zbI (gX11_faulted h1 a0 x27) (fun x28 h2 => (some (x28, h2)))
def gX11_weightsOf (h : Zh) (a0 : Nat) (x1 : Int32) (x2 : Int32) (x3 : Int32) (x4 : Int32) : Option (Int32 × Zh) :=
  zlt (zsI h a0 5 0) (fun (h1 : Zh) => zbi (gX11_noSheet x2) (fun x21 => (if (x21 : Int32) = 0 then zbi (gX11_noLane x3) (fun x22 => (if (x22 : Int32) = 0 then zbi (gX11_noKind x1) (fun x23 => (if (x23 : Int32) = 0 then zlt (zR h1 a0 2) (fun r24 => Option.bind r24 (fun a25 => zg (zin x2 (zL h1 a25)) (zlt (zR h1 a25 (zx x2)) (fun r26 => zbi (gX11_faultOf h1 r26 x3 x4 3) (fun x27 => zjn (gX11_weightsOf_J1 a0 h1 x27) (fun (k29 : Option (Int32 × Zh)) =>
  (if (x27 : Int32) = 0 then (zcs r26 (k29) (fun a30 => zlt (zR h1 a30 1) (fun r31 => Option.bind r31 (fun a32 => zg (zin x4 (zL h1 a32)) (zlt (zI h1 a32 (zx x4)) (fun x33 => zlt (zR h1 a30 1) (fun r34 => Option.bind r34 (fun a35 => zg (zin (x4 + 1) (zL h1 a35)) (zlt (zI h1 a35 (zx (x4 + 1))) (fun x36 => zlt (zR h1 a30 1) (fun r37 => Option.bind r37 (fun a38 => zg (zin (x4 + 2) (zL h1 a38)) (zlt (zI h1 a38 (zx (x4 + 2))) (fun x39 => zbi (gX11_noWeights x33 x36 x39) (fun x40 => (if (x40 : Int32) = 0 then zbI (gX11_take h1 a0 x1 x33 x36 x39) (fun x41 h3 => (some (x41, h3)))
  else (some ((-2), h1))))))))))))))))))
  else k29)))))))
  else (some ((-2), h1))))
  else (some ((-2), h1))))
  else (some ((-1), h1)))))
set_option maxRecDepth 20000 in
theorem cX11_weightsOf_ok (l : Launch) (h : Zh) (a0 : Nat) (x1 : Int32) (x2 : Int32) (x3 : Int32) (x4 : Int32) : Zc l yX11_weightsOf mX11_weightsOf 0 h [(.ref a0, 11), (.int x1, 0), (.int x2, 0), (.int x3, 0), (.int x4, 0)] ((gX11_weightsOf h a0 x1 x2 x3 x4).map zoI) := by
  refine zc_of2 (ls := [some (.ref a0, 11), some (.int x1, 0), some (.int x2, 0), some (.int x3, 0), some (.int x4, 0), none, none, none, none, none]) (j := 5) (by decide +kernel) rfl rfl (zEn_ca (zEn_ci (zEn_ci (zEn_ci (zEn_ci rfl))))) (Nat.le_of_ble_eq_true rfl) rfl ?_
  unfold gX11_weightsOf
  refine zr_aload_n (r := (some a0)) (eX11_weightsOf 0 rfl) rfl rfl ?_
  refine zr_iconst (eX11_weightsOf 1 rfl) zk_iconst_0 ?_
  refine zr_putI zf_RX11_48 rfl (Or.inl rfl) (eX11_weightsOf 2 rfl) ?_
  refine v_leth (fun h1 => ?_)
  refine zr_iload_n (eX11_weightsOf 3 rfl) rfl rfl ?_
  refine zr_invS_i (as := [(.int x2, 0)]) (cX11_noSheet_ok l h1 x2) rfl zcd_X11_noSheet ⟨zw_577, zw_578, zw_57⟩ ⟨Nat.le_of_ble_eq_true rfl, Nat.le_of_ble_eq_true rfl⟩ rfl (Nat.le_of_ble_eq_true rfl) (eX11_weightsOf 4 rfl) (fun x21 => ?_)
  refine zr_if_eq (eX11_weightsOf 5 rfl) (t := 14) (by decide) ?_ ?_
  · refine zr_iload_n (eX11_weightsOf 8 rfl) rfl rfl ?_
    refine zr_invS_i (as := [(.int x3, 0)]) (cX11_noLane_ok l h1 x3) rfl zcd_X11_noLane ⟨zw_580, zw_581, zw_57⟩ ⟨Nat.le_of_ble_eq_true rfl, Nat.le_of_ble_eq_true rfl⟩ rfl (Nat.le_of_ble_eq_true rfl) (eX11_weightsOf 9 rfl) (fun x22 => ?_)
    refine zr_if_ne (eX11_weightsOf 10 rfl) (t := 28) (by decide) ?_ ?_
    · refine zr_bipush (eX11_weightsOf 14 rfl) zk_bipush_m2 ?_
      exact zr_iret rfl rfl (eX11_weightsOf 15 rfl)
    · refine zr_iload_n (eX11_weightsOf 11 rfl) rfl rfl ?_
      refine zr_invS_i (as := [(.int x1, 0)]) (cX11_noKind_ok l h1 x1) rfl zcd_X11_noKind ⟨zw_520, zw_521, zw_57⟩ ⟨Nat.le_of_ble_eq_true rfl, Nat.le_of_ble_eq_true rfl⟩ rfl (Nat.le_of_ble_eq_true rfl) (eX11_weightsOf 12 rfl) (fun x23 => ?_)
      refine zr_if_eq (eX11_weightsOf 13 rfl) (t := 31) (by decide) ?_ ?_
      · refine zr_aload_n (r := (some a0)) (eX11_weightsOf 16 rfl) rfl rfl ?_
        refine zr_getR2 zf_RX11_33 (τ2 := 24) rfl (eX11_weightsOf 17 rfl) ?_
        refine v_letr (fun r24 => ?_)
        refine zr_iload_n (eX11_weightsOf 18 rfl) rfl rfl ?_
        refine v_nn (fun a25 ea25 => ?_)
        subst ea25
        refine zr_aald zQa_24 (eX11_weightsOf 19 rfl) ?_
        refine v_letr (fun r26 => ?_)
        refine zr_astore (r := r26) (ls2 := [some (.ref a0, 11), some (.int x1, 0), some (.int x2, 0), some (.int x3, 0), some (.int x4, 0), some (va_rf r26, 6), none, none, none, none]) (eX11_weightsOf 20 rfl) (Nat.le_of_ble_eq_true rfl) rfl ?_
        refine zr_aload (r := r26) (eX11_weightsOf 21 rfl) rfl ?_
        refine zr_iload_n (eX11_weightsOf 22 rfl) rfl rfl ?_
        refine zr_iload (eX11_weightsOf 23 rfl) rfl ?_
        refine zr_iconst (eX11_weightsOf 24 rfl) zk_iconst_3 ?_
        refine zr_invS_i (as := [(va_rf r26, 6), (.int x3, 0), (.int x4, 0), (.int 3, 0)]) (cX11_faultOf_ok l h1 r26 x3 x4 3) rfl zcd_X11_faultOf ⟨zw_583, zw_584, zw_57⟩ ⟨Nat.le_of_ble_eq_true rfl, Nat.le_of_ble_eq_true rfl⟩ rfl (Nat.le_of_ble_eq_true rfl) (eX11_weightsOf 25 rfl) (fun x27 => ?_)
        refine zr_istore (ls2 := [some (.ref a0, 11), some (.int x1, 0), some (.int x2, 0), some (.int x3, 0), some (.int x4, 0), some (va_rf r26, 6), some (.int x27, 0), none, none, none]) (eX11_weightsOf 26 rfl) (Nat.le_of_ble_eq_true rfl) (by simp only [zst1, zst2, zcl_rf]) ?_
        refine zr_iload (eX11_weightsOf 27 rfl) rfl ?_
        refine v_jn (fun (k29 : Option (Int32 × Zh)) => V l mX11_weightsOf (zN h) (zS h) 0 zoI 60 [some (.ref a0, 11), none, none, none, none, none, some (.int x27, 0), none, none, none] [] h1 k29) ?_ ?_
        · skip
          unfold gX11_weightsOf_J1
          refine zr_aload_n (r := (some a0)) (eX11_weightsOf 31 rfl) rfl rfl ?_
          refine zr_iload (eX11_weightsOf 32 rfl) rfl ?_
          refine zr_invV_I (as := [(.int x27, 0)]) (cX11_faulted_ok l h1 a0 x27) rfl rfl ⟨by decide, by decide, by decide⟩ zcd_X11_faulted rfl ⟨zw_590, zw_592, zw_5, zw_57⟩ ⟨Nat.le_of_ble_eq_true rfl, Nat.le_of_ble_eq_true rfl⟩ rfl (Nat.le_of_ble_eq_true rfl) (eX11_weightsOf 33 rfl) (fun x28 h2 => ?_)
          exact zr_iret rfl rfl (eX11_weightsOf 34 rfl)
        intro k29 hk29
        refine zr_if_ne (eX11_weightsOf 28 rfl) (t := 60) (by decide) ?_ ?_
        · exact v_drop [true, false, false, false, false, false, true, false, false, false] rfl (hk29)
        · refine zr_aload (r := r26) (eX11_weightsOf 29 rfl) rfl ?_
          refine zr_nonnull2 (eX11_weightsOf 30 rfl) (t := 67) (by decide) (fun ea30 => ?_) (fun a30 ea30 => ?_)
          · subst ea30
            exact v_drop [true, false, false, false, false, false, true, false, false, false] rfl (hk29)
          · subst ea30
            refine zr_aload (r := (some a30)) (eX11_weightsOf 35 rfl) rfl ?_
            refine zr_getR2 zf_RX11_175 (τ2 := 20) rfl (eX11_weightsOf 36 rfl) ?_
            refine v_letr (fun r31 => ?_)
            refine zr_iload (eX11_weightsOf 37 rfl) rfl ?_
            refine v_nn (fun a32 ea32 => ?_)
            subst ea32
            refine zr_iald (eX11_weightsOf 38 rfl) ?_
            refine v_leti (fun x33 => ?_)
            refine zr_istore (ls2 := [some (.ref a0, 11), some (.int x1, 0), some (.int x2, 0), some (.int x3, 0), some (.int x4, 0), some (.ref a30, 6), some (.int x27, 0), some (.int x33, 0), none, none]) (eX11_weightsOf 39 rfl) (Nat.le_of_ble_eq_true rfl) rfl ?_
            refine zr_aload (r := (some a30)) (eX11_weightsOf 40 rfl) rfl ?_
            refine zr_getR2 zf_RX11_175 (τ2 := 20) rfl (eX11_weightsOf 41 rfl) ?_
            refine v_letr (fun r34 => ?_)
            refine zr_iload (eX11_weightsOf 42 rfl) rfl ?_
            refine zr_iconst (eX11_weightsOf 43 rfl) zk_iconst_1 ?_
            refine zr_iadd (eX11_weightsOf 44 rfl) ?_
            refine v_nn (fun a35 ea35 => ?_)
            subst ea35
            refine zr_iald (eX11_weightsOf 45 rfl) ?_
            refine v_leti (fun x36 => ?_)
            refine zr_istore (ls2 := [some (.ref a0, 11), some (.int x1, 0), some (.int x2, 0), some (.int x3, 0), some (.int x4, 0), some (.ref a30, 6), some (.int x27, 0), some (.int x33, 0), some (.int x36, 0), none]) (eX11_weightsOf 46 rfl) (Nat.le_of_ble_eq_true rfl) rfl ?_
            refine zr_aload (r := (some a30)) (eX11_weightsOf 47 rfl) rfl ?_
            refine zr_getR2 zf_RX11_175 (τ2 := 20) rfl (eX11_weightsOf 48 rfl) ?_
            refine v_letr (fun r37 => ?_)
            refine zr_iload (eX11_weightsOf 49 rfl) rfl ?_
            refine zr_iconst (eX11_weightsOf 50 rfl) zk_iconst_2 ?_
            refine zr_iadd (eX11_weightsOf 51 rfl) ?_
            refine v_nn (fun a38 ea38 => ?_)
            subst ea38
            refine zr_iald (eX11_weightsOf 52 rfl) ?_
            refine v_leti (fun x39 => ?_)
            refine zr_istore (ls2 := [some (.ref a0, 11), some (.int x1, 0), some (.int x2, 0), some (.int x3, 0), some (.int x4, 0), some (.ref a30, 6), some (.int x27, 0), some (.int x33, 0), some (.int x36, 0), some (.int x39, 0)]) (eX11_weightsOf 53 rfl) (Nat.le_of_ble_eq_true rfl) rfl ?_
            refine zr_iload (eX11_weightsOf 54 rfl) rfl ?_
            refine zr_iload (eX11_weightsOf 55 rfl) rfl ?_
            refine zr_iload (eX11_weightsOf 56 rfl) rfl ?_
            refine zr_invS_i (as := [(.int x33, 0), (.int x36, 0), (.int x39, 0)]) (cX11_noWeights_ok l h1 x33 x36 x39) rfl zcd_X11_noWeights ⟨zw_523, zw_524, zw_57⟩ ⟨Nat.le_of_ble_eq_true rfl, Nat.le_of_ble_eq_true rfl⟩ rfl (Nat.le_of_ble_eq_true rfl) (eX11_weightsOf 57 rfl) (fun x40 => ?_)
            refine zr_if_eq (eX11_weightsOf 58 rfl) (t := 118) (by decide) ?_ ?_
            · refine zr_aload_n (r := (some a0)) (eX11_weightsOf 61 rfl) rfl rfl ?_
              refine zr_iload_n (eX11_weightsOf 62 rfl) rfl rfl ?_
              refine zr_iload (eX11_weightsOf 63 rfl) rfl ?_
              refine zr_iload (eX11_weightsOf 64 rfl) rfl ?_
              refine zr_iload (eX11_weightsOf 65 rfl) rfl ?_
              refine zr_invV_I (as := [(.int x1, 0), (.int x33, 0), (.int x36, 0), (.int x39, 0)]) (cX11_take_ok l h1 a0 x1 x33 x36 x39) rfl rfl ⟨by decide, by decide, by decide⟩ zcd_X11_take rfl ⟨zw_526, zw_528, zw_4, zw_57⟩ ⟨Nat.le_of_ble_eq_true rfl, Nat.le_of_ble_eq_true rfl⟩ rfl (Nat.le_of_ble_eq_true rfl) (eX11_weightsOf 66 rfl) (fun x41 h3 => ?_)
              exact zr_iret rfl rfl (eX11_weightsOf 67 rfl)
            · refine zr_bipush (eX11_weightsOf 59 rfl) zk_bipush_m2 ?_
              refine zr_goto (eX11_weightsOf 60 rfl) (t := 129) (by decide) ?_
              exact zr_iret rfl rfl (eX11_weightsOf 67 rfl)
      · refine zr_bipush (eX11_weightsOf 14 rfl) zk_bipush_m2 ?_
        exact zr_iret rfl rfl (eX11_weightsOf 15 rfl)
  · refine zr_iconst (eX11_weightsOf 6 rfl) zk_iconst_m1 ?_
    exact zr_iret rfl rfl (eX11_weightsOf 7 rfl)
def gX11_weightsAt_J1 : Option (Option Nat) :=
  (some none)
def gX11_weightsAt (h : Zh) (a0 : Nat) (x1 : Int32) : Option (Option Nat) :=
  zjn gX11_weightsAt_J1 (fun (k21 : Option (Option Nat)) =>
  (if (x1 : Int32) < 0 then k21
  else (if (x1 : Int32) < (zI h a0 4) then zlt (zR h a0 1) (fun r22 => Option.bind r22 (fun a23 => zg (zin x1 (zL h a23)) (zlt (zR h a23 (zx x1)) (fun r24 => (some r24)))))
  else k21)))
set_option maxRecDepth 20000 in
theorem cX11_weightsAt_ok (l : Launch) (h : Zh) (a0 : Nat) (x1 : Int32) : Zc l yX11_weightsAt mX11_weightsAt 4 h [(.ref a0, 11), (.int x1, 0)] ((gX11_weightsAt h a0 x1).map (zor h)) := by
  refine zc_of2 (ls := [some (.ref a0, 11), some (.int x1, 0)]) (j := 0) (by decide +kernel) rfl rfl (zEn_ca (zEn_ci rfl)) (Nat.le_of_ble_eq_true rfl) rfl ?_
  unfold gX11_weightsAt
  refine zr_iload_n (eX11_weightsAt 0 rfl) rfl rfl ?_
  refine v_jn (fun (k21 : Option (Option Nat)) => V l mX11_weightsAt (zN h) (zS h) 4 (zor h) 12 [none, none] [] h k21) ?_ ?_
  · skip
    unfold gX11_weightsAt_J1
    refine zr_null (a := 4) (eX11_weightsAt 6 rfl) ?_
    refine zr_goto (eX11_weightsAt 7 rfl) (t := 22) (by decide) ?_
    exact zr_aret (r := none) rfl rfl (Or.inl ⟨_, rfl⟩) (eX11_weightsAt 12 rfl)
  intro k21 hk21
  refine zr_if_lt (eX11_weightsAt 1 rfl) (t := 12) (by decide) ?_ ?_
  · exact v_drop [false, false] rfl (hk21)
  · refine zr_iload_n (eX11_weightsAt 2 rfl) rfl rfl ?_
    refine zr_aload_n (r := (some a0)) (eX11_weightsAt 3 rfl) rfl rfl ?_
    refine zr_getI zf_RX11_44 ⟨by decide, by decide⟩ (eX11_weightsAt 4 rfl) ?_
    refine zr_icmp_lt (eX11_weightsAt 5 rfl) (t := 16) (by decide) ?_ ?_
    · refine zr_aload_n (r := (some a0)) (eX11_weightsAt 8 rfl) rfl rfl ?_
      refine zr_getR2 zf_RX11_27 (τ2 := 23) rfl (eX11_weightsAt 9 rfl) ?_
      refine v_letr (fun r22 => ?_)
      refine zr_iload_n (eX11_weightsAt 10 rfl) rfl rfl ?_
      refine v_nn (fun a23 ea23 => ?_)
      subst ea23
      refine zr_aald zQa_23 (eX11_weightsAt 11 rfl) ?_
      refine v_letr (fun r24 => ?_)
      exact zr_aret (r := r24) rfl rfl (Or.inl ⟨_, rfl⟩) (eX11_weightsAt 12 rfl)
    · exact v_drop [false, false] rfl (hk21)
def gX11_weight_J1 : Int32 → Option (Int64) :=
  fun (x23 : Int32) => (some ((x23 : Int32).toInt64))
def gX11_weight (h : Zh) (a0 : Nat) (x1 : Int32) (x2 : Int32) : Option (Int64) :=
  zbr (gX11_weightsAt h a0 x1) (fun r21 => (zcs r21 ((some (-9223372036854775808))) (fun a22 => (if (x2 : Int32) = 0 then (some (((zI h a22 1) : Int32).toInt64))
  else (if (x2 : Int32) = 1 then (some (((zI h a22 2) : Int32).toInt64))
  else (if (x2 : Int32) = 2 then (some (((zI h a22 3) : Int32).toInt64))
  else (if (x2 : Int32) = 3 then zjn gX11_weight_J1 (fun (k24 : Int32 → Option (Int64)) =>
  zdp h a22 (zbi (gX4_kind a22) (fun b => k24 b)) (zbi (gX10_kind a22) (fun b => k24 b)) (zbi (gX7_kind a22) (fun b => k24 b)))
  else (some (-9223372036854775808)))))))))
set_option maxRecDepth 20000 in
theorem cX11_weight_ok (l : Launch) (h : Zh) (a0 : Nat) (x1 : Int32) (x2 : Int32) : Zc l yX11_weight mX11_weight 0 h [(.ref a0, 11), (.int x1, 0), (.int x2, 0)] ((gX11_weight h a0 x1 x2).map (zoj h)) := by
  refine zc_of2 (ls := [some (.ref a0, 11), some (.int x1, 0), some (.int x2, 0), none]) (j := 1) (by decide +kernel) rfl rfl (zEn_ca (zEn_ci (zEn_ci rfl))) (Nat.le_of_ble_eq_true rfl) rfl ?_
  unfold gX11_weight
  refine zr_aload_n (r := (some a0)) (eX11_weight 0 rfl) rfl rfl ?_
  refine zr_iload_n (eX11_weight 1 rfl) rfl rfl ?_
  refine zr_invV_r (as := [(.int x1, 0)]) (cX11_weightsAt_ok l h a0 x1) rfl rfl ⟨by decide, by decide, by decide⟩ zcd_X11_weightsAt rfl ⟨zw_598, zw_600, zw_6, zw_57⟩ ⟨Nat.le_of_ble_eq_true rfl, Nat.le_of_ble_eq_true rfl⟩ rfl (Nat.le_of_ble_eq_true rfl) (eX11_weight 2 rfl) (fun r21 => ?_)
  refine zr_astore_n (r := r21) (ls2 := [some (.ref a0, 11), some (.int x1, 0), some (.int x2, 0), some (va_rf r21, 4)]) (eX11_weight 3 rfl) rfl (Nat.le_of_ble_eq_true rfl) rfl ?_
  refine zr_aload_n (r := r21) (eX11_weight 4 rfl) rfl rfl ?_
  refine zr_nonnull2 (eX11_weight 5 rfl) (t := 14) (by decide) (fun ea22 => ?_) (fun a22 ea22 => ?_)
  · subst ea22
    refine zr_ldc2 (eX11_weight 6 rfl) zw_238 ?_
    exact zr_lret rfl rfl (eX11_weight 7 rfl)
  · subst ea22
    refine zr_iload_n (eX11_weight 8 rfl) rfl rfl ?_
    refine zr_tab (c := 0) (t := 44) (off := 29) (eX11_weight 9 rfl) (by decide) (by decide) ?_ (fun q0 => ?_)
    · refine zr_aload_n (r := (some a22)) (eX11_weight 10 rfl) rfl rfl ?_
      refine zr_getI zf_RX11_182 ⟨by decide, by decide⟩ (eX11_weight 11 rfl) ?_
      refine zr_i2l (eX11_weight 12 rfl) ?_
      exact zr_lret rfl rfl (eX11_weight 13 rfl)
    refine zr_tab (c := 1) (t := 50) (off := 35) (eX11_weight 9 rfl) (by decide) (by decide) ?_ (fun q1 => ?_)
    · refine zr_aload_n (r := (some a22)) (eX11_weight 14 rfl) rfl rfl ?_
      refine zr_getI zf_RX11_185 ⟨by decide, by decide⟩ (eX11_weight 15 rfl) ?_
      refine zr_i2l (eX11_weight 16 rfl) ?_
      exact zr_lret rfl rfl (eX11_weight 17 rfl)
    refine zr_tab (c := 2) (t := 56) (off := 41) (eX11_weight 9 rfl) (by decide) (by decide) ?_ (fun q2 => ?_)
    · refine zr_aload_n (r := (some a22)) (eX11_weight 18 rfl) rfl rfl ?_
      refine zr_getI zf_RX11_188 ⟨by decide, by decide⟩ (eX11_weight 19 rfl) ?_
      refine zr_i2l (eX11_weight 20 rfl) ?_
      exact zr_lret rfl rfl (eX11_weight 21 rfl)
    refine zr_tab (c := 3) (t := 62) (off := 47) (eX11_weight 9 rfl) (by decide) (by decide) ?_ (fun q3 => ?_)
    · refine zr_aload_n (r := (some a22)) (eX11_weight 22 rfl) rfl rfl ?_
      refine v_jn (fun (k24 : Int32 → Option (Int64)) => ∀ (x23 : Int32), V l mX11_weight (zN h) (zS h) 0 (zoj h) 66 [some (.ref a0, 11), some (.int x1, 0), some (.int x2, 0), some (.ref a22, 4)] [(.int x23, 0)] h (k24 x23)) ?_ ?_
      · intro x23
        unfold gX11_weight_J1
        refine zr_i2l (eX11_weight 24 rfl) ?_
        exact zr_lret rfl rfl (eX11_weight 25 rfl)
      intro k24 hk24
      refine zr_dsp (fun qk => ?_) (fun qk => ?_) (fun qk => ?_)
      · exact zr_invU_i (x := yX4_kind) (owner := RX4) (n := 0) (as := []) qk (cX4_kind_ok l h a22) rfl rfl (by decide) zw_612 ⟨by decide, by decide, by decide +kernel⟩ ⟨zw_602, zw_605, zw_603, zw_604, zw_603, zw_68⟩ zw_612 ⟨Nat.le_of_ble_eq_true rfl, Nat.le_of_ble_eq_true rfl⟩ rfl (Nat.le_of_ble_eq_true rfl) (eX11_weight 23 rfl) (fun b => hk24 b)
      · refine zr_cast2 [(.ref a22, 10)] rfl (fun t => (zTo_cons (zTok_k qk (by decide) t.hd) t.tl)) ?_
        exact zr_invU_i (x := yX4_kind) (owner := RX4) (n := 0) (as := []) qk (cX10_kind_ok l h a22) rfl rfl (by decide) zw_611 ⟨by decide, by decide, by decide +kernel⟩ ⟨zw_602, zw_605, zw_603, zw_609, zw_610, zw_69⟩ zw_612 ⟨Nat.le_of_ble_eq_true rfl, Nat.le_of_ble_eq_true rfl⟩ rfl (Nat.le_of_ble_eq_true rfl) (eX11_weight 23 rfl) (fun b => hk24 b)
      · refine zr_cast2 [(.ref a22, 7)] rfl (fun t => (zTo_cons (zTok_k qk (by decide) t.hd) t.tl)) ?_
        exact zr_invU_i (x := yX4_kind) (owner := RX4) (n := 0) (as := []) qk (cX7_kind_ok l h a22) rfl rfl (by decide) zw_608 ⟨by decide, by decide, by decide +kernel⟩ ⟨zw_602, zw_605, zw_603, zw_606, zw_607, zw_70⟩ zw_612 ⟨Nat.le_of_ble_eq_true rfl, Nat.le_of_ble_eq_true rfl⟩ rfl (Nat.le_of_ble_eq_true rfl) (eX11_weight 23 rfl) (fun b => hk24 b)
    have q0' := zne (c := 0) (n := 0) (by decide) q0
    have q1' := zne (c := 1) (n := 1) (by decide) q1
    have q2' := zne (c := 2) (n := 2) (by decide) q2
    have q3' := zne (c := 3) (n := 3) (by decide) q3
    refine zr_tabD (t := 68) (eX11_weight 9 rfl) (by omega) (by decide) ?_
    refine zr_ldc2 (eX11_weight 26 rfl) zw_238 ?_
    exact zr_lret rfl rfl (eX11_weight 27 rfl)
def gX11_noRow_J1 : Option (Int32) :=
  (some 1)
def gX11_noRow (x0 : Int32) : Option (Int32) :=
  zjn gX11_noRow_J1 (fun (k21 : Option (Int32)) =>
  (if (x0 : Int32) < 2 then k21
  else (if (x0 : Int32) ≤ 6 then (some 0)
  else k21)))
set_option maxRecDepth 20000 in
theorem cX11_noRow_ok (l : Launch) (h : Zh) (x0 : Int32) : Zc l yX11_noRow mX11_noRow 0 h [(.int x0, 0)] ((gX11_noRow x0).map (zoi h)) := by
  refine zc_of2 (ls := [some (.int x0, 0)]) (j := 0) (by decide +kernel) rfl rfl (zEn_ci rfl) (Nat.le_of_ble_eq_true rfl) rfl ?_
  unfold gX11_noRow
  refine zr_iload_n (eX11_noRow 0 rfl) rfl rfl ?_
  refine zr_iconst (eX11_noRow 1 rfl) zk_iconst_2 ?_
  refine v_jn (fun (k21 : Option (Int32)) => V l mX11_noRow (zN h) (zS h) 0 (zoi h) 11 [none] [] h k21) ?_ ?_
  · skip
    unfold gX11_noRow_J1
    refine zr_iconst (eX11_noRow 6 rfl) zk_iconst_1 ?_
    refine zr_goto (eX11_noRow 7 rfl) (t := 16) (by decide) ?_
    exact zr_zret rfl (by decide) rfl (eX11_noRow 9 rfl)
  intro k21 hk21
  refine zr_icmp_lt (eX11_noRow 2 rfl) (t := 11) (by decide) ?_ ?_
  · exact v_drop [false] rfl (hk21)
  · refine zr_iload_n (eX11_noRow 3 rfl) rfl rfl ?_
    refine zr_bipush (eX11_noRow 4 rfl) zk_bipush_6 ?_
    refine zr_icmp_le (eX11_noRow 5 rfl) (t := 15) (by decide) ?_ ?_
    · refine zr_iconst (eX11_noRow 8 rfl) zk_iconst_0 ?_
      exact zr_zret rfl (by decide) rfl (eX11_noRow 9 rfl)
    · exact v_drop [false] rfl (hk21)
def gX11_rowEntry (h : Zh) (a0 : Nat) (x1 : Int32) (x2 : Int32) (x3 : Int32) (x4 : Int32) : Option (Int64) :=
  zbr (gX11_weightsAt h a0 x1) (fun r21 => (zcs r21 ((some (-9223372036854775808))) (fun a22 => zbi (gX11_noRow x2) (fun x23 => (if (x23 : Int32) = 0 then zbi (gX11_noState x3 x2) (fun x24 => (if (x24 : Int32) = 0 then zbi (gX11_noState x4 x2) (fun x25 => (if (x25 : Int32) = 0 then zbj (gX1_around h (some a22) x2 x3 x4) (fun x26 => (some x26))
  else (some (-9223372036854775808))))
  else (some (-9223372036854775808))))
  else (some (-9223372036854775808)))))))
set_option maxRecDepth 20000 in
theorem cX11_rowEntry_ok (l : Launch) (h : Zh) (a0 : Nat) (x1 : Int32) (x2 : Int32) (x3 : Int32) (x4 : Int32) : Zc l yX11_rowEntry mX11_rowEntry 0 h [(.ref a0, 11), (.int x1, 0), (.int x2, 0), (.int x3, 0), (.int x4, 0)] ((gX11_rowEntry h a0 x1 x2 x3 x4).map (zoj h)) := by
  refine zc_of2 (ls := [some (.ref a0, 11), some (.int x1, 0), some (.int x2, 0), some (.int x3, 0), some (.int x4, 0), none]) (j := 1) (by decide +kernel) rfl rfl (zEn_ca (zEn_ci (zEn_ci (zEn_ci (zEn_ci rfl))))) (Nat.le_of_ble_eq_true rfl) rfl ?_
  unfold gX11_rowEntry
  refine zr_aload_n (r := (some a0)) (eX11_rowEntry 0 rfl) rfl rfl ?_
  refine zr_iload_n (eX11_rowEntry 1 rfl) rfl rfl ?_
  refine zr_invV_r (as := [(.int x1, 0)]) (cX11_weightsAt_ok l h a0 x1) rfl rfl ⟨by decide, by decide, by decide⟩ zcd_X11_weightsAt rfl ⟨zw_598, zw_600, zw_6, zw_57⟩ ⟨Nat.le_of_ble_eq_true rfl, Nat.le_of_ble_eq_true rfl⟩ rfl (Nat.le_of_ble_eq_true rfl) (eX11_rowEntry 2 rfl) (fun r21 => ?_)
  refine zr_astore (r := r21) (ls2 := [some (.ref a0, 11), some (.int x1, 0), some (.int x2, 0), some (.int x3, 0), some (.int x4, 0), some (va_rf r21, 4)]) (eX11_rowEntry 3 rfl) (Nat.le_of_ble_eq_true rfl) rfl ?_
  refine zr_aload (r := r21) (eX11_rowEntry 4 rfl) rfl ?_
  refine zr_null2 (eX11_rowEntry 5 rfl) (t := 36) (by decide) (fun ea22 => ?_) (fun a22 ea22 => ?_)
  · subst ea22
    refine zr_ldc2 (eX11_rowEntry 17 rfl) zw_238 ?_
    exact zr_lret rfl rfl (eX11_rowEntry 18 rfl)
  · subst ea22
    refine zr_iload_n (eX11_rowEntry 6 rfl) rfl rfl ?_
    refine zr_invS_i (as := [(.int x2, 0)]) (cX11_noRow_ok l h x2) rfl zcd_X11_noRow ⟨zw_617, zw_618, zw_57⟩ ⟨Nat.le_of_ble_eq_true rfl, Nat.le_of_ble_eq_true rfl⟩ rfl (Nat.le_of_ble_eq_true rfl) (eX11_rowEntry 7 rfl) (fun x23 => ?_)
    refine zr_if_ne (eX11_rowEntry 8 rfl) (t := 36) (by decide) ?_ ?_
    · refine zr_ldc2 (eX11_rowEntry 17 rfl) zw_238 ?_
      exact zr_lret rfl rfl (eX11_rowEntry 18 rfl)
    · refine zr_iload_n (eX11_rowEntry 9 rfl) rfl rfl ?_
      refine zr_iload_n (eX11_rowEntry 10 rfl) rfl rfl ?_
      refine zr_invS_i (as := [(.int x3, 0), (.int x2, 0)]) (cX11_noState_ok l h x3 x2) rfl zcd_X11_noState ⟨zw_235, zw_236, zw_57⟩ ⟨Nat.le_of_ble_eq_true rfl, Nat.le_of_ble_eq_true rfl⟩ rfl (Nat.le_of_ble_eq_true rfl) (eX11_rowEntry 11 rfl) (fun x24 => ?_)
      refine zr_if_ne (eX11_rowEntry 12 rfl) (t := 36) (by decide) ?_ ?_
      · refine zr_ldc2 (eX11_rowEntry 17 rfl) zw_238 ?_
        exact zr_lret rfl rfl (eX11_rowEntry 18 rfl)
      · refine zr_iload (eX11_rowEntry 13 rfl) rfl ?_
        refine zr_iload_n (eX11_rowEntry 14 rfl) rfl rfl ?_
        refine zr_invS_i (as := [(.int x4, 0), (.int x2, 0)]) (cX11_noState_ok l h x4 x2) rfl zcd_X11_noState ⟨zw_235, zw_236, zw_57⟩ ⟨Nat.le_of_ble_eq_true rfl, Nat.le_of_ble_eq_true rfl⟩ rfl (Nat.le_of_ble_eq_true rfl) (eX11_rowEntry 15 rfl) (fun x25 => ?_)
        refine zr_if_eq (eX11_rowEntry 16 rfl) (t := 40) (by decide) ?_ ?_
        · refine zr_aload (r := (some a22)) (eX11_rowEntry 19 rfl) rfl ?_
          refine zr_iload_n (eX11_rowEntry 20 rfl) rfl rfl ?_
          refine zr_iload_n (eX11_rowEntry 21 rfl) rfl rfl ?_
          refine zr_iload (eX11_rowEntry 22 rfl) rfl ?_
          refine zr_invS_j (as := [(.ref a22, 4), (.int x2, 0), (.int x3, 0), (.int x4, 0)]) (cX1_around_ok l h (some a22) x2 x3 x4) rfl zcd_X1_around ⟨zw_620, zw_621, zw_71⟩ ⟨Nat.le_of_ble_eq_true rfl, Nat.le_of_ble_eq_true rfl⟩ rfl (Nat.le_of_ble_eq_true rfl) (eX11_rowEntry 23 rfl) (fun x26 => ?_)
          exact zr_lret rfl rfl (eX11_rowEntry 24 rfl)
        · refine zr_ldc2 (eX11_rowEntry 17 rfl) zw_238 ?_
          exact zr_lret rfl rfl (eX11_rowEntry 18 rfl)
def gX11_iceRows_J1 (a0 : Nat) : Zh → Option (Option Nat × Zh) :=
  fun (h1 : Zh) => zlt (zR h1 a0 7) (fun r22 => (some (r22, h1)))
def gX11_iceRows (h : Zh) (a0 : Nat) : Option (Option Nat × Zh) :=
  zlt (zR h a0 7) (fun r21 => zjn (gX11_iceRows_J1 a0) (fun (k23 : Zh → Option (Option Nat × Zh)) =>
  (zcs r21 (zlt (zN h) (fun a24 => zlt (zA h 1 9) (fun (h2 : Zh) => zbV (gX1_init h2 a24) (fun h3 => zlt (zsR h3 a0 7 (some a24)) (fun (h4 : Zh) => k23 h4))))) (fun a25 => k23 h))))
set_option maxRecDepth 20000 in
theorem cX11_iceRows_ok (l : Launch) (h : Zh) (a0 : Nat) : Zc l yX11_iceRows mX11_iceRows 1 h [(.ref a0, 11)] ((gX11_iceRows h a0).map zoR) := by
  refine zc_of2 (ls := [some (.ref a0, 11)]) (j := 0) (by decide +kernel) rfl rfl (zEn_ca rfl) (Nat.le_of_ble_eq_true rfl) rfl ?_
  unfold gX11_iceRows
  refine zr_aload_n (r := (some a0)) (eX11_iceRows 0 rfl) rfl rfl ?_
  refine zr_getR2 zf_RX11_55 (τ2 := 1) rfl (eX11_iceRows 1 rfl) ?_
  refine v_letr (fun r21 => ?_)
  refine v_jn (fun (k23 : Zh → Option (Option Nat × Zh)) => ∀ (h1 : Zh), V l mX11_iceRows (zN h) (zS h) 1 zoR 18 [some (.ref a0, 11)] [] h1 (k23 h1)) ?_ ?_
  · intro h1
    unfold gX11_iceRows_J1
    refine zr_aload_n (r := (some a0)) (eX11_iceRows 8 rfl) rfl rfl ?_
    refine zr_getR2 zf_RX11_55 (τ2 := 1) rfl (eX11_iceRows 9 rfl) ?_
    refine v_letr (fun r22 => ?_)
    exact zr_aret (r := r22) rfl rfl (Or.inl ⟨_, rfl⟩) (eX11_iceRows 10 rfl)
  intro k23 hk23
  refine zr_nonnull2 (eX11_iceRows 2 rfl) (t := 18) (by decide) (fun ea25 => ?_) (fun a25 ea25 => ?_)
  · subst ea25
    refine zr_aload_n (r := (some a0)) (eX11_iceRows 3 rfl) rfl rfl ?_
    refine zr_new zci1 zw_641 zw_642 zw_71 (eX11_iceRows 4 rfl) ?_
    refine zr_leta (fun a24 => ?_)
    refine v_leth (fun h2 => ?_)
    refine zr_dup (eX11_iceRows 5 rfl) rfl ?_
    refine zr_invN_V (as := []) (host := "MagnetRows") (cX1_init_ok l h2 a24) rfl zcd_X1_init rfl rfl (by decide +kernel) ⟨zw_644, zw_71⟩ ⟨Nat.le_of_ble_eq_true rfl, Nat.le_of_ble_eq_true rfl⟩ rfl (Nat.le_of_ble_eq_true rfl) (eX11_iceRows 6 rfl) (fun h3 => ?_)
    refine zr_putR (x := (some a24)) zf_RX11_55 (by decide) (fun _ h => h) (Or.inl rfl) (eX11_iceRows 7 rfl) ?_
    refine v_leth (fun h4 => ?_)
    exact v_drop [true] rfl (hk23 h4)
  · subst ea25
    exact v_drop [true] rfl (hk23 h)
def gX11_unlike (h : Zh) (a0 : Nat) (x1 : Int32) (x2 : Int32) (x3 : Int32) : Option (Int32 × Zh) :=
  zbr (gX11_weightsAt h a0 x1) (fun r21 => zbr (gX11_weightsAt h a0 x2) (fun r22 => (zcs r21 ((some ((-1), h))) (fun a23 => (zcs r22 ((some ((-1), h))) (fun a24 => zbi (gX11_noRow x3) (fun x25 => (if (x25 : Int32) = 0 then zbR (gX11_iceRows h a0) (fun r26 h1 => Option.bind r26 (fun a27 => zbI (gX1_countUnlike h1 a27 (some a23) (some a24) x3) (fun x28 h2 => (some (x28, h2)))))
  else (some ((-2), h))))))))))
set_option maxRecDepth 20000 in
theorem cX11_unlike_ok (l : Launch) (h : Zh) (a0 : Nat) (x1 : Int32) (x2 : Int32) (x3 : Int32) : Zc l yX11_unlike mX11_unlike 0 h [(.ref a0, 11), (.int x1, 0), (.int x2, 0), (.int x3, 0)] ((gX11_unlike h a0 x1 x2 x3).map zoI) := by
  refine zc_of2 (ls := [some (.ref a0, 11), some (.int x1, 0), some (.int x2, 0), some (.int x3, 0), none, none]) (j := 2) (by decide +kernel) rfl rfl (zEn_ca (zEn_ci (zEn_ci (zEn_ci rfl)))) (Nat.le_of_ble_eq_true rfl) rfl ?_
  unfold gX11_unlike
  refine zr_aload_n (r := (some a0)) (eX11_unlike 0 rfl) rfl rfl ?_
  refine zr_iload_n (eX11_unlike 1 rfl) rfl rfl ?_
  refine zr_invV_r (as := [(.int x1, 0)]) (cX11_weightsAt_ok l h a0 x1) rfl rfl ⟨by decide, by decide, by decide⟩ zcd_X11_weightsAt rfl ⟨zw_598, zw_600, zw_6, zw_57⟩ ⟨Nat.le_of_ble_eq_true rfl, Nat.le_of_ble_eq_true rfl⟩ rfl (Nat.le_of_ble_eq_true rfl) (eX11_unlike 2 rfl) (fun r21 => ?_)
  refine zr_astore (r := r21) (ls2 := [some (.ref a0, 11), some (.int x1, 0), some (.int x2, 0), some (.int x3, 0), some (va_rf r21, 4), none]) (eX11_unlike 3 rfl) (Nat.le_of_ble_eq_true rfl) rfl ?_
  refine zr_aload_n (r := (some a0)) (eX11_unlike 4 rfl) rfl rfl ?_
  refine zr_iload_n (eX11_unlike 5 rfl) rfl rfl ?_
  refine zr_invV_r (as := [(.int x2, 0)]) (cX11_weightsAt_ok l h a0 x2) rfl rfl ⟨by decide, by decide, by decide⟩ zcd_X11_weightsAt rfl ⟨zw_598, zw_600, zw_6, zw_57⟩ ⟨Nat.le_of_ble_eq_true rfl, Nat.le_of_ble_eq_true rfl⟩ rfl (Nat.le_of_ble_eq_true rfl) (eX11_unlike 6 rfl) (fun r22 => ?_)
  refine zr_astore (r := r22) (ls2 := [some (.ref a0, 11), some (.int x1, 0), some (.int x2, 0), some (.int x3, 0), some (va_rf r21, 4), some (va_rf r22, 4)]) (eX11_unlike 7 rfl) (Nat.le_of_ble_eq_true rfl) (by simp only [zst1, zst2, zcl_rf]) ?_
  refine zr_aload (r := r21) (eX11_unlike 8 rfl) rfl ?_
  refine zr_null2 (eX11_unlike 9 rfl) (t := 24) (by decide) (fun ea23 => ?_) (fun a23 ea23 => ?_)
  · subst ea23
    refine zr_iconst (eX11_unlike 12 rfl) zk_iconst_m1 ?_
    exact zr_iret rfl rfl (eX11_unlike 13 rfl)
  · subst ea23
    refine zr_aload (r := r22) (eX11_unlike 10 rfl) rfl ?_
    refine zr_nonnull2 (eX11_unlike 11 rfl) (t := 26) (by decide) (fun ea24 => ?_) (fun a24 ea24 => ?_)
    · subst ea24
      refine zr_iconst (eX11_unlike 12 rfl) zk_iconst_m1 ?_
      exact zr_iret rfl rfl (eX11_unlike 13 rfl)
    · subst ea24
      refine zr_iload_n (eX11_unlike 14 rfl) rfl rfl ?_
      refine zr_invS_i (as := [(.int x3, 0)]) (cX11_noRow_ok l h x3) rfl zcd_X11_noRow ⟨zw_617, zw_618, zw_57⟩ ⟨Nat.le_of_ble_eq_true rfl, Nat.le_of_ble_eq_true rfl⟩ rfl (Nat.le_of_ble_eq_true rfl) (eX11_unlike 15 rfl) (fun x25 => ?_)
      refine zr_if_eq (eX11_unlike 16 rfl) (t := 38) (by decide) ?_ ?_
      · refine zr_aload_n (r := (some a0)) (eX11_unlike 19 rfl) rfl rfl ?_
        refine zr_invV_R (as := []) (cX11_iceRows_ok l h a0) rfl rfl ⟨by decide, by decide, by decide⟩ zcd_X11_iceRows rfl ⟨zw_637, zw_639, zw_7, zw_57⟩ ⟨Nat.le_of_ble_eq_true rfl, Nat.le_of_ble_eq_true rfl⟩ rfl (Nat.le_of_ble_eq_true rfl) (eX11_unlike 20 rfl) (fun r26 h1 => ?_)
        refine zr_aload (r := (some a23)) (eX11_unlike 21 rfl) rfl ?_
        refine zr_aload (r := (some a24)) (eX11_unlike 22 rfl) rfl ?_
        refine zr_iload_n (eX11_unlike 23 rfl) rfl rfl ?_
        refine v_nn (fun a27 ea27 => ?_)
        subst ea27
        refine zr_invV_I (as := [(.ref a23, 4), (.ref a24, 4), (.int x3, 0)]) (cX1_countUnlike_ok l h1 a27 (some a23) (some a24) x3) rfl rfl ⟨by decide, by decide, by decide⟩ zcd_X1_countUnlike rfl ⟨zw_675, zw_676, zw_677, zw_71⟩ ⟨Nat.le_of_ble_eq_true rfl, Nat.le_of_ble_eq_true rfl⟩ rfl (Nat.le_of_ble_eq_true rfl) (eX11_unlike 24 rfl) (fun x28 h2 => ?_)
        exact zr_iret rfl rfl (eX11_unlike 25 rfl)
      · refine zr_bipush (eX11_unlike 17 rfl) zk_bipush_m2 ?_
        refine zr_goto (eX11_unlike 18 rfl) (t := 50) (by decide) ?_
        exact zr_iret rfl rfl (eX11_unlike 25 rfl)
def gX11_ice_J1 (h : Zh) : Option (Int32 × Zh) :=
  (some ((-2), h))
def gX11_ice (h : Zh) (a0 : Nat) (x1 : Int32) (x2 : Int32) (x3 : Int32) : Option (Int32 × Zh) :=
  zbr (gX11_weightsAt h a0 x1) (fun r21 => (zcs r21 ((some ((-1), h))) (fun a22 => zbi (gX11_noRow x2) (fun x23 => zjn (gX11_ice_J1 h) (fun (k24 : Option (Int32 × Zh)) =>
  (if (x23 : Int32) = 0 then (if (x3 : Int32) < 1 then k24
  else (if (x3 : Int32) ≤ 8 then zbR (gX11_iceRows h a0) (fun r25 h1 => Option.bind r25 (fun a26 => zbI (gX1_onRings h1 a26 (some a22) x2 x3) (fun x27 h2 => (some (x27, h2)))))
  else k24))
  else k24))))))
set_option maxRecDepth 20000 in
theorem cX11_ice_ok (l : Launch) (h : Zh) (a0 : Nat) (x1 : Int32) (x2 : Int32) (x3 : Int32) : Zc l yX11_ice mX11_ice 0 h [(.ref a0, 11), (.int x1, 0), (.int x2, 0), (.int x3, 0)] ((gX11_ice h a0 x1 x2 x3).map zoI) := by
  refine zc_of2 (ls := [some (.ref a0, 11), some (.int x1, 0), some (.int x2, 0), some (.int x3, 0), none]) (j := 1) (by decide +kernel) rfl rfl (zEn_ca (zEn_ci (zEn_ci (zEn_ci rfl)))) (Nat.le_of_ble_eq_true rfl) rfl ?_
  unfold gX11_ice
  refine zr_aload_n (r := (some a0)) (eX11_ice 0 rfl) rfl rfl ?_
  refine zr_iload_n (eX11_ice 1 rfl) rfl rfl ?_
  refine zr_invV_r (as := [(.int x1, 0)]) (cX11_weightsAt_ok l h a0 x1) rfl rfl ⟨by decide, by decide, by decide⟩ zcd_X11_weightsAt rfl ⟨zw_598, zw_600, zw_6, zw_57⟩ ⟨Nat.le_of_ble_eq_true rfl, Nat.le_of_ble_eq_true rfl⟩ rfl (Nat.le_of_ble_eq_true rfl) (eX11_ice 2 rfl) (fun r21 => ?_)
  refine zr_astore (r := r21) (ls2 := [some (.ref a0, 11), some (.int x1, 0), some (.int x2, 0), some (.int x3, 0), some (va_rf r21, 4)]) (eX11_ice 3 rfl) (Nat.le_of_ble_eq_true rfl) rfl ?_
  refine zr_aload (r := r21) (eX11_ice 4 rfl) rfl ?_
  refine zr_nonnull2 (eX11_ice 5 rfl) (t := 14) (by decide) (fun ea22 => ?_) (fun a22 ea22 => ?_)
  · subst ea22
    refine zr_iconst (eX11_ice 6 rfl) zk_iconst_m1 ?_
    exact zr_iret rfl rfl (eX11_ice 7 rfl)
  · subst ea22
    refine zr_iload_n (eX11_ice 8 rfl) rfl rfl ?_
    refine zr_invS_i (as := [(.int x2, 0)]) (cX11_noRow_ok l h x2) rfl zcd_X11_noRow ⟨zw_617, zw_618, zw_57⟩ ⟨Nat.le_of_ble_eq_true rfl, Nat.le_of_ble_eq_true rfl⟩ rfl (Nat.le_of_ble_eq_true rfl) (eX11_ice 9 rfl) (fun x23 => ?_)
    refine v_jn (fun (k24 : Option (Int32 × Zh)) => V l mX11_ice (zN h) (zS h) 0 zoI 32 [none, none, none, none, none] [] h k24) ?_ ?_
    · skip
      unfold gX11_ice_J1
      refine zr_bipush (eX11_ice 17 rfl) zk_bipush_m2 ?_
      refine zr_goto (eX11_ice 18 rfl) (t := 48) (by decide) ?_
      exact zr_iret rfl rfl (eX11_ice 25 rfl)
    intro k24 hk24
    refine zr_if_ne (eX11_ice 10 rfl) (t := 32) (by decide) ?_ ?_
    · exact v_drop [false, false, false, false, false] rfl (hk24)
    · refine zr_iload_n (eX11_ice 11 rfl) rfl rfl ?_
      refine zr_iconst (eX11_ice 12 rfl) zk_iconst_1 ?_
      refine zr_icmp_lt (eX11_ice 13 rfl) (t := 32) (by decide) ?_ ?_
      · exact v_drop [false, false, false, false, false] rfl (hk24)
      · refine zr_iload_n (eX11_ice 14 rfl) rfl rfl ?_
        refine zr_bipush (eX11_ice 15 rfl) zk_bipush_8 ?_
        refine zr_icmp_le (eX11_ice 16 rfl) (t := 37) (by decide) ?_ ?_
        · refine zr_aload_n (r := (some a0)) (eX11_ice 19 rfl) rfl rfl ?_
          refine zr_invV_R (as := []) (cX11_iceRows_ok l h a0) rfl rfl ⟨by decide, by decide, by decide⟩ zcd_X11_iceRows rfl ⟨zw_637, zw_639, zw_7, zw_57⟩ ⟨Nat.le_of_ble_eq_true rfl, Nat.le_of_ble_eq_true rfl⟩ rfl (Nat.le_of_ble_eq_true rfl) (eX11_ice 20 rfl) (fun r25 h1 => ?_)
          refine zr_aload (r := (some a22)) (eX11_ice 21 rfl) rfl ?_
          refine zr_iload_n (eX11_ice 22 rfl) rfl rfl ?_
          refine zr_iload_n (eX11_ice 23 rfl) rfl rfl ?_
          refine v_nn (fun a26 ea26 => ?_)
          subst ea26
          refine zr_invV_I (as := [(.ref a22, 4), (.int x2, 0), (.int x3, 0)]) (cX1_onRings_ok l h1 a26 (some a22) x2 x3) rfl rfl ⟨by decide, by decide, by decide⟩ zcd_X1_onRings rfl ⟨zw_699, zw_700, zw_701, zw_71⟩ ⟨Nat.le_of_ble_eq_true rfl, Nat.le_of_ble_eq_true rfl⟩ rfl (Nat.le_of_ble_eq_true rfl) (eX11_ice 24 rfl) (fun x27 h2 => ?_)
          exact zr_iret rfl rfl (eX11_ice 25 rfl)
        · exact v_drop [false, false, false, false, false] rfl (hk24)
def gX11_walls_J1 (h : Zh) : Option (Int32 × Zh) :=
  (some ((-2), h))
def gX11_walls (h : Zh) (a0 : Nat) (x1 : Int32) (x2 : Int32) : Option (Int32 × Zh) :=
  zbr (gX11_weightsAt h a0 x1) (fun r21 => (zcs r21 ((some ((-1), h))) (fun a22 => zjn (gX11_walls_J1 h) (fun (k23 : Option (Int32 × Zh)) =>
  (if (x2 : Int32) < 1 then k23
  else (if (x2 : Int32) ≤ 6 then zbR (gX11_iceRows h a0) (fun r24 h1 => Option.bind r24 (fun a25 => zbI (gX1_betweenWalls h1 a25 (some a22) x2) (fun x26 h2 => (some (x26, h2)))))
  else k23))))))
set_option maxRecDepth 20000 in
theorem cX11_walls_ok (l : Launch) (h : Zh) (a0 : Nat) (x1 : Int32) (x2 : Int32) : Zc l yX11_walls mX11_walls 0 h [(.ref a0, 11), (.int x1, 0), (.int x2, 0)] ((gX11_walls h a0 x1 x2).map zoI) := by
  refine zc_of2 (ls := [some (.ref a0, 11), some (.int x1, 0), some (.int x2, 0), none]) (j := 1) (by decide +kernel) rfl rfl (zEn_ca (zEn_ci (zEn_ci rfl))) (Nat.le_of_ble_eq_true rfl) rfl ?_
  unfold gX11_walls
  refine zr_aload_n (r := (some a0)) (eX11_walls 0 rfl) rfl rfl ?_
  refine zr_iload_n (eX11_walls 1 rfl) rfl rfl ?_
  refine zr_invV_r (as := [(.int x1, 0)]) (cX11_weightsAt_ok l h a0 x1) rfl rfl ⟨by decide, by decide, by decide⟩ zcd_X11_weightsAt rfl ⟨zw_598, zw_600, zw_6, zw_57⟩ ⟨Nat.le_of_ble_eq_true rfl, Nat.le_of_ble_eq_true rfl⟩ rfl (Nat.le_of_ble_eq_true rfl) (eX11_walls 2 rfl) (fun r21 => ?_)
  refine zr_astore_n (r := r21) (ls2 := [some (.ref a0, 11), some (.int x1, 0), some (.int x2, 0), some (va_rf r21, 4)]) (eX11_walls 3 rfl) rfl (Nat.le_of_ble_eq_true rfl) rfl ?_
  refine zr_aload_n (r := r21) (eX11_walls 4 rfl) rfl rfl ?_
  refine zr_nonnull2 (eX11_walls 5 rfl) (t := 12) (by decide) (fun ea22 => ?_) (fun a22 ea22 => ?_)
  · subst ea22
    refine zr_iconst (eX11_walls 6 rfl) zk_iconst_m1 ?_
    exact zr_iret rfl rfl (eX11_walls 7 rfl)
  · subst ea22
    refine zr_iload_n (eX11_walls 8 rfl) rfl rfl ?_
    refine zr_iconst (eX11_walls 9 rfl) zk_iconst_1 ?_
    refine v_jn (fun (k23 : Option (Int32 × Zh)) => V l mX11_walls (zN h) (zS h) 0 zoI 23 [none, none, none, none] [] h k23) ?_ ?_
    · skip
      unfold gX11_walls_J1
      refine zr_bipush (eX11_walls 14 rfl) zk_bipush_m2 ?_
      refine zr_goto (eX11_walls 15 rfl) (t := 37) (by decide) ?_
      exact zr_iret rfl rfl (eX11_walls 21 rfl)
    intro k23 hk23
    refine zr_icmp_lt (eX11_walls 10 rfl) (t := 23) (by decide) ?_ ?_
    · exact v_drop [false, false, false, false] rfl (hk23)
    · refine zr_iload_n (eX11_walls 11 rfl) rfl rfl ?_
      refine zr_bipush (eX11_walls 12 rfl) zk_bipush_6 ?_
      refine zr_icmp_le (eX11_walls 13 rfl) (t := 28) (by decide) ?_ ?_
      · refine zr_aload_n (r := (some a0)) (eX11_walls 16 rfl) rfl rfl ?_
        refine zr_invV_R (as := []) (cX11_iceRows_ok l h a0) rfl rfl ⟨by decide, by decide, by decide⟩ zcd_X11_iceRows rfl ⟨zw_637, zw_639, zw_7, zw_57⟩ ⟨Nat.le_of_ble_eq_true rfl, Nat.le_of_ble_eq_true rfl⟩ rfl (Nat.le_of_ble_eq_true rfl) (eX11_walls 17 rfl) (fun r24 h1 => ?_)
        refine zr_aload_n (r := (some a22)) (eX11_walls 18 rfl) rfl rfl ?_
        refine zr_iload_n (eX11_walls 19 rfl) rfl rfl ?_
        refine v_nn (fun a25 ea25 => ?_)
        subst ea25
        refine zr_invV_I (as := [(.ref a22, 4), (.int x2, 0)]) (cX1_betweenWalls_ok l h1 a25 (some a22) x2) rfl rfl ⟨by decide, by decide, by decide⟩ zcd_X1_betweenWalls rfl ⟨zw_722, zw_723, zw_724, zw_71⟩ ⟨Nat.le_of_ble_eq_true rfl, Nat.le_of_ble_eq_true rfl⟩ rfl (Nat.le_of_ble_eq_true rfl) (eX11_walls 20 rfl) (fun x26 h2 => ?_)
        exact zr_iret rfl rfl (eX11_walls 21 rfl)
      · exact v_drop [false, false, false, false] rfl (hk23)
def gX11_exchange (h : Zh) (a0 : Nat) (x1 : Int32) (x2 : Int32) (x3 : Int32) : Option (Int32 × Zh) :=
  zbr (gX11_weightsAt h a0 x1) (fun r21 => zbr (gX11_weightsAt h a0 x2) (fun r22 => zbr (gX11_weightsAt h a0 x3) (fun r23 => (zcs r21 ((some ((-1), h))) (fun a24 => (zcs r22 ((some ((-1), h))) (fun a25 => (zcs r23 ((some ((-1), h))) (fun a26 => zbR (gX11_iceRows h a0) (fun r27 h1 => Option.bind r27 (fun a28 => zbI (gX1_countExchange h1 a28 (some a24) (some a25) (some a26)) (fun x29 h2 => (some (x29, h2))))))))))))))
set_option maxRecDepth 20000 in
theorem cX11_exchange_ok (l : Launch) (h : Zh) (a0 : Nat) (x1 : Int32) (x2 : Int32) (x3 : Int32) : Zc l yX11_exchange mX11_exchange 0 h [(.ref a0, 11), (.int x1, 0), (.int x2, 0), (.int x3, 0)] ((gX11_exchange h a0 x1 x2 x3).map zoI) := by
  refine zc_of2 (ls := [some (.ref a0, 11), some (.int x1, 0), some (.int x2, 0), some (.int x3, 0), none, none, none]) (j := 3) (by decide +kernel) rfl rfl (zEn_ca (zEn_ci (zEn_ci (zEn_ci rfl)))) (Nat.le_of_ble_eq_true rfl) rfl ?_
  unfold gX11_exchange
  refine zr_aload_n (r := (some a0)) (eX11_exchange 0 rfl) rfl rfl ?_
  refine zr_iload_n (eX11_exchange 1 rfl) rfl rfl ?_
  refine zr_invV_r (as := [(.int x1, 0)]) (cX11_weightsAt_ok l h a0 x1) rfl rfl ⟨by decide, by decide, by decide⟩ zcd_X11_weightsAt rfl ⟨zw_598, zw_600, zw_6, zw_57⟩ ⟨Nat.le_of_ble_eq_true rfl, Nat.le_of_ble_eq_true rfl⟩ rfl (Nat.le_of_ble_eq_true rfl) (eX11_exchange 2 rfl) (fun r21 => ?_)
  refine zr_astore (r := r21) (ls2 := [some (.ref a0, 11), some (.int x1, 0), some (.int x2, 0), some (.int x3, 0), some (va_rf r21, 4), none, none]) (eX11_exchange 3 rfl) (Nat.le_of_ble_eq_true rfl) rfl ?_
  refine zr_aload_n (r := (some a0)) (eX11_exchange 4 rfl) rfl rfl ?_
  refine zr_iload_n (eX11_exchange 5 rfl) rfl rfl ?_
  refine zr_invV_r (as := [(.int x2, 0)]) (cX11_weightsAt_ok l h a0 x2) rfl rfl ⟨by decide, by decide, by decide⟩ zcd_X11_weightsAt rfl ⟨zw_598, zw_600, zw_6, zw_57⟩ ⟨Nat.le_of_ble_eq_true rfl, Nat.le_of_ble_eq_true rfl⟩ rfl (Nat.le_of_ble_eq_true rfl) (eX11_exchange 6 rfl) (fun r22 => ?_)
  refine zr_astore (r := r22) (ls2 := [some (.ref a0, 11), some (.int x1, 0), some (.int x2, 0), some (.int x3, 0), some (va_rf r21, 4), some (va_rf r22, 4), none]) (eX11_exchange 7 rfl) (Nat.le_of_ble_eq_true rfl) (by simp only [zst1, zst2, zcl_rf]) ?_
  refine zr_aload_n (r := (some a0)) (eX11_exchange 8 rfl) rfl rfl ?_
  refine zr_iload_n (eX11_exchange 9 rfl) rfl rfl ?_
  refine zr_invV_r (as := [(.int x3, 0)]) (cX11_weightsAt_ok l h a0 x3) rfl rfl ⟨by decide, by decide, by decide⟩ zcd_X11_weightsAt rfl ⟨zw_598, zw_600, zw_6, zw_57⟩ ⟨Nat.le_of_ble_eq_true rfl, Nat.le_of_ble_eq_true rfl⟩ rfl (Nat.le_of_ble_eq_true rfl) (eX11_exchange 10 rfl) (fun r23 => ?_)
  refine zr_astore (r := r23) (ls2 := [some (.ref a0, 11), some (.int x1, 0), some (.int x2, 0), some (.int x3, 0), some (va_rf r21, 4), some (va_rf r22, 4), some (va_rf r23, 4)]) (eX11_exchange 11 rfl) (Nat.le_of_ble_eq_true rfl) (by simp only [zst1, zst2, zcl_rf]) ?_
  refine zr_aload (r := r21) (eX11_exchange 12 rfl) rfl ?_
  refine zr_null2 (eX11_exchange 13 rfl) (t := 36) (by decide) (fun ea24 => ?_) (fun a24 ea24 => ?_)
  · subst ea24
    refine zr_iconst (eX11_exchange 18 rfl) zk_iconst_m1 ?_
    exact zr_iret rfl rfl (eX11_exchange 19 rfl)
  · subst ea24
    refine zr_aload (r := r22) (eX11_exchange 14 rfl) rfl ?_
    refine zr_null2 (eX11_exchange 15 rfl) (t := 36) (by decide) (fun ea25 => ?_) (fun a25 ea25 => ?_)
    · subst ea25
      refine zr_iconst (eX11_exchange 18 rfl) zk_iconst_m1 ?_
      exact zr_iret rfl rfl (eX11_exchange 19 rfl)
    · subst ea25
      refine zr_aload (r := r23) (eX11_exchange 16 rfl) rfl ?_
      refine zr_nonnull2 (eX11_exchange 17 rfl) (t := 38) (by decide) (fun ea26 => ?_) (fun a26 ea26 => ?_)
      · subst ea26
        refine zr_iconst (eX11_exchange 18 rfl) zk_iconst_m1 ?_
        exact zr_iret rfl rfl (eX11_exchange 19 rfl)
      · subst ea26
        refine zr_aload_n (r := (some a0)) (eX11_exchange 20 rfl) rfl rfl ?_
        refine zr_invV_R (as := []) (cX11_iceRows_ok l h a0) rfl rfl ⟨by decide, by decide, by decide⟩ zcd_X11_iceRows rfl ⟨zw_637, zw_639, zw_7, zw_57⟩ ⟨Nat.le_of_ble_eq_true rfl, Nat.le_of_ble_eq_true rfl⟩ rfl (Nat.le_of_ble_eq_true rfl) (eX11_exchange 21 rfl) (fun r27 h1 => ?_)
        refine zr_aload (r := (some a24)) (eX11_exchange 22 rfl) rfl ?_
        refine zr_aload (r := (some a25)) (eX11_exchange 23 rfl) rfl ?_
        refine zr_aload (r := (some a26)) (eX11_exchange 24 rfl) rfl ?_
        refine v_nn (fun a28 ea28 => ?_)
        subst ea28
        refine zr_invV_I (as := [(.ref a24, 4), (.ref a25, 4), (.ref a26, 4)]) (cX1_countExchange_ok l h1 a28 (some a24) (some a25) (some a26)) rfl rfl ⟨by decide, by decide, by decide⟩ zcd_X1_countExchange rfl ⟨zw_735, zw_736, zw_737, zw_71⟩ ⟨Nat.le_of_ble_eq_true rfl, Nat.le_of_ble_eq_true rfl⟩ rfl (Nat.le_of_ble_eq_true rfl) (eX11_exchange 25 rfl) (fun x29 h2 => ?_)
        exact zr_iret rfl rfl (eX11_exchange 26 rfl)
def gX11_noSum_J1 : Option (Int32) :=
  (some 1)
def gX11_noSum (x0 : Int32) : Option (Int32) :=
  zjn gX11_noSum_J1 (fun (k21 : Option (Int32)) =>
  (if (x0 : Int32) < 0 then k21
  else (if (x0 : Int32) < 4 then (some 0)
  else k21)))
set_option maxRecDepth 20000 in
theorem cX11_noSum_ok (l : Launch) (h : Zh) (x0 : Int32) : Zc l yX11_noSum mX11_noSum 0 h [(.int x0, 0)] ((gX11_noSum x0).map (zoi h)) := by
  refine zc_of2 (ls := [some (.int x0, 0)]) (j := 0) (by decide +kernel) rfl rfl (zEn_ci rfl) (Nat.le_of_ble_eq_true rfl) rfl ?_
  unfold gX11_noSum
  refine zr_iload_n (eX11_noSum 0 rfl) rfl rfl ?_
  refine v_jn (fun (k21 : Option (Int32)) => V l mX11_noSum (zN h) (zS h) 0 (zoi h) 9 [none] [] h k21) ?_ ?_
  · skip
    unfold gX11_noSum_J1
    refine zr_iconst (eX11_noSum 5 rfl) zk_iconst_1 ?_
    refine zr_goto (eX11_noSum 6 rfl) (t := 14) (by decide) ?_
    exact zr_zret rfl (by decide) rfl (eX11_noSum 8 rfl)
  intro k21 hk21
  refine zr_if_lt (eX11_noSum 1 rfl) (t := 9) (by decide) ?_ ?_
  · exact v_drop [false] rfl (hk21)
  · refine zr_iload_n (eX11_noSum 2 rfl) rfl rfl ?_
    refine zr_iconst (eX11_noSum 3 rfl) zk_iconst_4 ?_
    refine zr_icmp_lt (eX11_noSum 4 rfl) (t := 13) (by decide) ?_ ?_
    · refine zr_iconst (eX11_noSum 7 rfl) zk_iconst_0 ?_
      exact zr_zret rfl (by decide) rfl (eX11_noSum 8 rfl)
    · exact v_drop [false] rfl (hk21)
def gX11_wordRows_J1 (a0 : Nat) : Zh → Option (Option Nat × Zh) :=
  fun (h1 : Zh) => zlt (zR h1 a0 8) (fun r22 => (some (r22, h1)))
def gX11_wordRows (h : Zh) (a0 : Nat) : Option (Option Nat × Zh) :=
  zlt (zR h a0 8) (fun r21 => zjn (gX11_wordRows_J1 a0) (fun (k23 : Zh → Option (Option Nat × Zh)) =>
  (zcs r21 (zlt (zN h) (fun a24 => zlt (zA h 3 10) (fun (h2 : Zh) => zbV (gX3_init h2 a24) (fun h3 => zlt (zsR h3 a0 8 (some a24)) (fun (h4 : Zh) => k23 h4))))) (fun a25 => k23 h))))
set_option maxRecDepth 20000 in
theorem cX11_wordRows_ok (l : Launch) (h : Zh) (a0 : Nat) : Zc l yX11_wordRows mX11_wordRows 3 h [(.ref a0, 11)] ((gX11_wordRows h a0).map zoR) := by
  refine zc_of2 (ls := [some (.ref a0, 11)]) (j := 0) (by decide +kernel) rfl rfl (zEn_ca rfl) (Nat.le_of_ble_eq_true rfl) rfl ?_
  unfold gX11_wordRows
  refine zr_aload_n (r := (some a0)) (eX11_wordRows 0 rfl) rfl rfl ?_
  refine zr_getR2 zf_RX11_59 (τ2 := 3) rfl (eX11_wordRows 1 rfl) ?_
  refine v_letr (fun r21 => ?_)
  refine v_jn (fun (k23 : Zh → Option (Option Nat × Zh)) => ∀ (h1 : Zh), V l mX11_wordRows (zN h) (zS h) 3 zoR 18 [some (.ref a0, 11)] [] h1 (k23 h1)) ?_ ?_
  · intro h1
    unfold gX11_wordRows_J1
    refine zr_aload_n (r := (some a0)) (eX11_wordRows 8 rfl) rfl rfl ?_
    refine zr_getR2 zf_RX11_59 (τ2 := 3) rfl (eX11_wordRows 9 rfl) ?_
    refine v_letr (fun r22 => ?_)
    exact zr_aret (r := r22) rfl rfl (Or.inl ⟨_, rfl⟩) (eX11_wordRows 10 rfl)
  intro k23 hk23
  refine zr_nonnull2 (eX11_wordRows 2 rfl) (t := 18) (by decide) (fun ea25 => ?_) (fun a25 ea25 => ?_)
  · subst ea25
    refine zr_aload_n (r := (some a0)) (eX11_wordRows 3 rfl) rfl rfl ?_
    refine zr_new zci3 zw_755 zw_756 zw_72 (eX11_wordRows 4 rfl) ?_
    refine zr_leta (fun a24 => ?_)
    refine v_leth (fun h2 => ?_)
    refine zr_dup (eX11_wordRows 5 rfl) rfl ?_
    refine zr_invN_V (as := []) (host := "MagnetRows") (cX3_init_ok l h2 a24) rfl zcd_X3_init rfl rfl (by decide +kernel) ⟨zw_758, zw_72⟩ ⟨Nat.le_of_ble_eq_true rfl, Nat.le_of_ble_eq_true rfl⟩ rfl (Nat.le_of_ble_eq_true rfl) (eX11_wordRows 6 rfl) (fun h3 => ?_)
    refine zr_putR (x := (some a24)) zf_RX11_59 (by decide) (fun _ h => h) (Or.inl rfl) (eX11_wordRows 7 rfl) ?_
    refine v_leth (fun h4 => ?_)
    exact v_drop [true] rfl (hk23 h4)
  · subst ea25
    exact v_drop [true] rfl (hk23 h)
def gX11_keep (h : Zh) (a0 : Nat) (x1 : Int32) (r2 : Option Nat) : Option (Int32 × Zh) :=
  Option.bind r2 (fun a21 => zbi (gX3_fits h a21) (fun x22 => (if (x22 : Int32) = 0 then (some ((-6), h))
  else zlt (zR h a0 0) (fun r23 => zbR (gX3_result h a21) (fun r24 h1 => Option.bind r23 (fun a25 => zbV (gX2_recordSum h1 a25 x1 r24) (fun h2 => (some ((zI h2 a21 6), h2)))))))))
set_option maxRecDepth 20000 in
theorem cX11_keep_ok (l : Launch) (h : Zh) (a0 : Nat) (x1 : Int32) (r2 : Option Nat) : Zc l yX11_keep mX11_keep 0 h [(.ref a0, 11), (.int x1, 0), (va_rf r2, 3)] ((gX11_keep h a0 x1 r2).map zoI) := by
  refine zc_of2 (ls := [some (.ref a0, 11), some (.int x1, 0), some (va_rf r2, 3)]) (j := 0) (by decide +kernel) rfl rfl (zEn_ca (zEn_ci (zEn_cr rfl))) (Nat.le_of_ble_eq_true rfl) rfl ?_
  unfold gX11_keep
  refine zr_aload_n (r := r2) (eX11_keep 0 rfl) rfl rfl ?_
  refine v_nn (fun a21 ea21 => ?_)
  subst ea21
  refine zr_invV_i (as := []) (cX3_fits_ok l h a21) rfl rfl ⟨by decide, by decide, by decide⟩ zcd_X3_fits rfl ⟨zw_822, zw_823, zw_824, zw_72⟩ ⟨Nat.le_of_ble_eq_true rfl, Nat.le_of_ble_eq_true rfl⟩ rfl (Nat.le_of_ble_eq_true rfl) (eX11_keep 1 rfl) (fun x22 => ?_)
  refine zr_if_ne (eX11_keep 2 rfl) (t := 10) (by decide) ?_ ?_
  · refine zr_aload_n (r := (some a0)) (eX11_keep 5 rfl) rfl rfl ?_
    refine zr_getR2 zf_RX11_19 (τ2 := 2) rfl (eX11_keep 6 rfl) ?_
    refine v_letr (fun r23 => ?_)
    refine zr_iload_n (eX11_keep 7 rfl) rfl rfl ?_
    refine zr_aload_n (r := (some a21)) (eX11_keep 8 rfl) rfl rfl ?_
    refine zr_invV_R (as := []) (cX3_result_ok l h a21) rfl rfl ⟨by decide, by decide, by decide⟩ zcd_X3_result rfl ⟨zw_826, zw_827, zw_828, zw_72⟩ ⟨Nat.le_of_ble_eq_true rfl, Nat.le_of_ble_eq_true rfl⟩ rfl (Nat.le_of_ble_eq_true rfl) (eX11_keep 9 rfl) (fun r24 h1 => ?_)
    refine v_nn (fun a25 ea25 => ?_)
    subst ea25
    refine zr_invV_V (as := [(.int x1, 0), (va_rf r24, 8)]) (cX2_recordSum_ok l h1 a25 x1 r24) rfl rfl ⟨by decide, by decide, by decide⟩ zcd_X2_recordSum rfl ⟨zw_847, zw_848, zw_849, zw_58⟩ ⟨Nat.le_of_ble_eq_true rfl, Nat.le_of_ble_eq_true rfl⟩ rfl (Nat.le_of_ble_eq_true rfl) (eX11_keep 10 rfl) (fun h2 => ?_)
    refine zr_aload_n (r := (some a21)) (eX11_keep 11 rfl) rfl rfl ?_
    refine zr_getI zf_RX11_286 ⟨by decide, by decide⟩ (eX11_keep 12 rfl) ?_
    exact zr_iret rfl rfl (eX11_keep 13 rfl)
  · refine zr_bipush (eX11_keep 3 rfl) zk_bipush_m6 ?_
    exact zr_iret rfl rfl (eX11_keep 4 rfl)
def gX11_add (h : Zh) (a0 : Nat) (x1 : Int32) (x2 : Int32) (x3 : Int32) (x4 : Int32) (x5 : Int32) : Option (Int32 × Zh) :=
  zbi (gX11_noSum x1) (fun x21 => (if (x21 : Int32) = 0 then (if (x2 : Int32) < 0 then (some ((-2), h))
  else (if (255 : Int32) < x2 then (some ((-2), h))
  else (if (x3 : Int32) < 0 then (some ((-2), h))
  else (if (x3 : Int32) ≤ 255 then zbR (gX11_wordRows h a0) (fun r22 h1 => zlt (zR h1 a0 0) (fun r23 => Option.bind r23 (fun a24 => zbr (gX2_sumNow h1 a24 x1) (fun r25 => zbR (gX8_ofOne h1 ((x2 <<< ((8 : Int32) &&& 31)) ||| x3) x4 x5) (fun r26 h2 => Option.bind r22 (fun a27 => zbV (gX3_merge h2 a27 r25 r26 1) (fun h3 => zbI (gX11_keep h3 a0 x1 (some a27)) (fun x28 h4 => (some (x28, h4))))))))))
  else (some ((-2), h))))))
  else (some ((-1), h))))
set_option maxRecDepth 20000 in
theorem cX11_add_ok (l : Launch) (h : Zh) (a0 : Nat) (x1 : Int32) (x2 : Int32) (x3 : Int32) (x4 : Int32) (x5 : Int32) : Zc l yX11_add mX11_add 0 h [(.ref a0, 11), (.int x1, 0), (.int x2, 0), (.int x3, 0), (.int x4, 0), (.int x5, 0)] ((gX11_add h a0 x1 x2 x3 x4 x5).map zoI) := by
  refine zc_of2 (ls := [some (.ref a0, 11), some (.int x1, 0), some (.int x2, 0), some (.int x3, 0), some (.int x4, 0), some (.int x5, 0), none]) (j := 1) (by decide +kernel) rfl rfl (zEn_ca (zEn_ci (zEn_ci (zEn_ci (zEn_ci (zEn_ci rfl)))))) (Nat.le_of_ble_eq_true rfl) rfl ?_
  unfold gX11_add
  refine zr_iload_n (eX11_add 0 rfl) rfl rfl ?_
  refine zr_invS_i (as := [(.int x1, 0)]) (cX11_noSum_ok l h x1) rfl zcd_X11_noSum ⟨zw_748, zw_749, zw_57⟩ ⟨Nat.le_of_ble_eq_true rfl, Nat.le_of_ble_eq_true rfl⟩ rfl (Nat.le_of_ble_eq_true rfl) (eX11_add 1 rfl) (fun x21 => ?_)
  refine zr_if_eq (eX11_add 2 rfl) (t := 9) (by decide) ?_ ?_
  · refine zr_iload_n (eX11_add 5 rfl) rfl rfl ?_
    refine zr_if_lt (eX11_add 6 rfl) (t := 31) (by decide) ?_ ?_
    · refine zr_bipush (eX11_add 15 rfl) zk_bipush_m2 ?_
      exact zr_iret rfl rfl (eX11_add 16 rfl)
    · refine zr_iload_n (eX11_add 7 rfl) rfl rfl ?_
      refine zr_sipush (eX11_add 8 rfl) zk_sipush_255 ?_
      refine zr_icmp_gt (eX11_add 9 rfl) (t := 31) (by decide) ?_ ?_
      · refine zr_bipush (eX11_add 15 rfl) zk_bipush_m2 ?_
        exact zr_iret rfl rfl (eX11_add 16 rfl)
      · refine zr_iload_n (eX11_add 10 rfl) rfl rfl ?_
        refine zr_if_lt (eX11_add 11 rfl) (t := 31) (by decide) ?_ ?_
        · refine zr_bipush (eX11_add 15 rfl) zk_bipush_m2 ?_
          exact zr_iret rfl rfl (eX11_add 16 rfl)
        · refine zr_iload_n (eX11_add 12 rfl) rfl rfl ?_
          refine zr_sipush (eX11_add 13 rfl) zk_sipush_255 ?_
          refine zr_icmp_le (eX11_add 14 rfl) (t := 34) (by decide) ?_ ?_
          · refine zr_aload_n (r := (some a0)) (eX11_add 17 rfl) rfl rfl ?_
            refine zr_invV_R (as := []) (cX11_wordRows_ok l h a0) rfl rfl ⟨by decide, by decide, by decide⟩ zcd_X11_wordRows rfl ⟨zw_751, zw_753, zw_8, zw_57⟩ ⟨Nat.le_of_ble_eq_true rfl, Nat.le_of_ble_eq_true rfl⟩ rfl (Nat.le_of_ble_eq_true rfl) (eX11_add 18 rfl) (fun r22 h1 => ?_)
            refine zr_astore (r := r22) (ls2 := [some (.ref a0, 11), some (.int x1, 0), some (.int x2, 0), some (.int x3, 0), some (.int x4, 0), some (.int x5, 0), some (va_rf r22, 3)]) (eX11_add 19 rfl) (Nat.le_of_ble_eq_true rfl) rfl ?_
            refine zr_aload (r := r22) (eX11_add 20 rfl) rfl ?_
            refine zr_aload_n (r := (some a0)) (eX11_add 21 rfl) rfl rfl ?_
            refine zr_getR2 zf_RX11_19 (τ2 := 2) rfl (eX11_add 22 rfl) ?_
            refine v_letr (fun r23 => ?_)
            refine zr_iload_n (eX11_add 23 rfl) rfl rfl ?_
            refine v_nn (fun a24 ea24 => ?_)
            subst ea24
            refine zr_invV_r (as := [(.int x1, 0)]) (cX2_sumNow_ok l h1 a24 x1) rfl rfl ⟨by decide, by decide, by decide⟩ zcd_X2_sumNow rfl ⟨zw_793, zw_794, zw_795, zw_58⟩ ⟨Nat.le_of_ble_eq_true rfl, Nat.le_of_ble_eq_true rfl⟩ rfl (Nat.le_of_ble_eq_true rfl) (eX11_add 24 rfl) (fun r25 => ?_)
            refine zr_iload_n (eX11_add 25 rfl) rfl rfl ?_
            refine zr_bipush (eX11_add 26 rfl) zk_bipush_8 ?_
            refine zr_ishl (eX11_add 27 rfl) ?_
            refine zr_iload_n (eX11_add 28 rfl) rfl rfl ?_
            refine zr_ior (eX11_add 29 rfl) ?_
            refine zr_iload (eX11_add 30 rfl) rfl ?_
            refine zr_iload (eX11_add 31 rfl) rfl ?_
            refine zr_invS_R (as := [(.int ((x2 <<< ((8 : Int32) &&& 31)) ||| x3), 0), (.int x4, 0), (.int x5, 0)]) (cX8_ofOne_ok l h1 ((x2 <<< ((8 : Int32) &&& 31)) ||| x3) x4 x5) rfl zcd_X8_ofOne ⟨zw_797, zw_798, zw_60⟩ ⟨Nat.le_of_ble_eq_true rfl, Nat.le_of_ble_eq_true rfl⟩ rfl (Nat.le_of_ble_eq_true rfl) (eX11_add 32 rfl) (fun r26 h2 => ?_)
            refine zr_lconst (eX11_add 33 rfl) zk_lconst_1 ?_
            refine v_nn (fun a27 ea27 => ?_)
            subst ea27
            refine zr_invV_V (as := [(va_rf r25, 8), (va_rf r26, 8), (.long 1, 0)]) (cX3_merge_ok l h2 a27 r25 r26 1) rfl rfl ⟨by decide, by decide, by decide⟩ zcd_X3_merge rfl ⟨zw_800, zw_801, zw_802, zw_72⟩ ⟨Nat.le_of_ble_eq_true rfl, Nat.le_of_ble_eq_true rfl⟩ rfl (Nat.le_of_ble_eq_true rfl) (eX11_add 34 rfl) (fun h3 => ?_)
            refine zr_aload_n (r := (some a0)) (eX11_add 35 rfl) rfl rfl ?_
            refine zr_iload_n (eX11_add 36 rfl) rfl rfl ?_
            refine zr_aload (r := (some a27)) (eX11_add 37 rfl) rfl ?_
            refine zr_invV_I (as := [(.int x1, 0), (.ref a27, 3)]) (cX11_keep_ok l h3 a0 x1 (some a27)) rfl rfl ⟨by decide, by decide, by decide⟩ zcd_X11_keep rfl ⟨zw_818, zw_820, zw_9, zw_57⟩ ⟨Nat.le_of_ble_eq_true rfl, Nat.le_of_ble_eq_true rfl⟩ rfl (Nat.le_of_ble_eq_true rfl) (eX11_add 38 rfl) (fun x28 h4 => ?_)
            exact zr_iret rfl rfl (eX11_add 39 rfl)
          · refine zr_bipush (eX11_add 15 rfl) zk_bipush_m2 ?_
            exact zr_iret rfl rfl (eX11_add 16 rfl)
  · refine zr_iconst (eX11_add 3 rfl) zk_iconst_m1 ?_
    exact zr_iret rfl rfl (eX11_add 4 rfl)
def gX11_clear (h : Zh) (a0 : Nat) (x1 : Int32) : Option (Int32 × Zh) :=
  zbi (gX11_noSum x1) (fun x21 => (if (x21 : Int32) = 0 then zlt (zR h a0 0) (fun r22 => Option.bind r22 (fun a23 => zbr (gX2_sumNow h a23 x1) (fun r24 => Option.bind r24 (fun a25 => zbi (gX8_count h a25) (fun x26 => zlt (zR h a0 0) (fun r27 => zbR (gX8_ofNone h ) (fun r28 h1 => Option.bind r27 (fun a29 => zbV (gX2_recordSum h1 a29 x1 r28) (fun h2 => (some (x26, h2)))))))))))
  else (some ((-1), h))))
set_option maxRecDepth 20000 in
theorem cX11_clear_ok (l : Launch) (h : Zh) (a0 : Nat) (x1 : Int32) : Zc l yX11_clear mX11_clear 0 h [(.ref a0, 11), (.int x1, 0)] ((gX11_clear h a0 x1).map zoI) := by
  refine zc_of2 (ls := [some (.ref a0, 11), some (.int x1, 0), none]) (j := 1) (by decide +kernel) rfl rfl (zEn_ca (zEn_ci rfl)) (Nat.le_of_ble_eq_true rfl) rfl ?_
  unfold gX11_clear
  refine zr_iload_n (eX11_clear 0 rfl) rfl rfl ?_
  refine zr_invS_i (as := [(.int x1, 0)]) (cX11_noSum_ok l h x1) rfl zcd_X11_noSum ⟨zw_748, zw_749, zw_57⟩ ⟨Nat.le_of_ble_eq_true rfl, Nat.le_of_ble_eq_true rfl⟩ rfl (Nat.le_of_ble_eq_true rfl) (eX11_clear 1 rfl) (fun x21 => ?_)
  refine zr_if_eq (eX11_clear 2 rfl) (t := 9) (by decide) ?_ ?_
  · refine zr_aload_n (r := (some a0)) (eX11_clear 5 rfl) rfl rfl ?_
    refine zr_getR2 zf_RX11_19 (τ2 := 2) rfl (eX11_clear 6 rfl) ?_
    refine v_letr (fun r22 => ?_)
    refine zr_iload_n (eX11_clear 7 rfl) rfl rfl ?_
    refine v_nn (fun a23 ea23 => ?_)
    subst ea23
    refine zr_invV_r (as := [(.int x1, 0)]) (cX2_sumNow_ok l h a23 x1) rfl rfl ⟨by decide, by decide, by decide⟩ zcd_X2_sumNow rfl ⟨zw_793, zw_794, zw_795, zw_58⟩ ⟨Nat.le_of_ble_eq_true rfl, Nat.le_of_ble_eq_true rfl⟩ rfl (Nat.le_of_ble_eq_true rfl) (eX11_clear 8 rfl) (fun r24 => ?_)
    refine v_nn (fun a25 ea25 => ?_)
    subst ea25
    refine zr_invV_i (as := []) (cX8_count_ok l h a25) rfl rfl ⟨by decide, by decide, by decide⟩ zcd_X8_count rfl ⟨zw_855, zw_809, zw_810, zw_60⟩ ⟨Nat.le_of_ble_eq_true rfl, Nat.le_of_ble_eq_true rfl⟩ rfl (Nat.le_of_ble_eq_true rfl) (eX11_clear 9 rfl) (fun x26 => ?_)
    refine zr_istore_n (ls2 := [some (.ref a0, 11), some (.int x1, 0), some (.int x26, 0)]) (eX11_clear 10 rfl) rfl (Nat.le_of_ble_eq_true rfl) rfl ?_
    refine zr_aload_n (r := (some a0)) (eX11_clear 11 rfl) rfl rfl ?_
    refine zr_getR2 zf_RX11_19 (τ2 := 2) rfl (eX11_clear 12 rfl) ?_
    refine v_letr (fun r27 => ?_)
    refine zr_iload_n (eX11_clear 13 rfl) rfl rfl ?_
    refine zr_invS_R (as := []) (cX8_ofNone_ok l h ) rfl zcd_X8_ofNone ⟨zw_856, zw_130, zw_60⟩ ⟨Nat.le_of_ble_eq_true rfl, Nat.le_of_ble_eq_true rfl⟩ rfl (Nat.le_of_ble_eq_true rfl) (eX11_clear 14 rfl) (fun r28 h1 => ?_)
    refine v_nn (fun a29 ea29 => ?_)
    subst ea29
    refine zr_invV_V (as := [(.int x1, 0), (va_rf r28, 8)]) (cX2_recordSum_ok l h1 a29 x1 r28) rfl rfl ⟨by decide, by decide, by decide⟩ zcd_X2_recordSum rfl ⟨zw_847, zw_848, zw_849, zw_58⟩ ⟨Nat.le_of_ble_eq_true rfl, Nat.le_of_ble_eq_true rfl⟩ rfl (Nat.le_of_ble_eq_true rfl) (eX11_clear 15 rfl) (fun h2 => ?_)
    refine zr_iload_n (eX11_clear 16 rfl) rfl rfl ?_
    exact zr_iret rfl rfl (eX11_clear 17 rfl)
  · refine zr_iconst (eX11_clear 3 rfl) zk_iconst_m1 ?_
    exact zr_iret rfl rfl (eX11_clear 4 rfl)
def gX11_asChain (h : Zh) (a0 : Nat) (x1 : Int32) : Option (Int32 × Zh) :=
  zbi (gX11_noSum x1) (fun x21 => (if (x21 : Int32) = 0 then zbR (gX11_wordRows h a0) (fun r22 h1 => zlt (zR h1 a0 0) (fun r23 => Option.bind r23 (fun a24 => zbr (gX2_chainNow h1 a24) (fun r25 => Option.bind r22 (fun a26 => zbV (gX3_spell h1 a26 r25) (fun h2 => zbI (gX11_keep h2 a0 x1 (some a26)) (fun x27 h3 => (some (x27, h3)))))))))
  else (some ((-1), h))))
set_option maxRecDepth 20000 in
theorem cX11_asChain_ok (l : Launch) (h : Zh) (a0 : Nat) (x1 : Int32) : Zc l yX11_asChain mX11_asChain 0 h [(.ref a0, 11), (.int x1, 0)] ((gX11_asChain h a0 x1).map zoI) := by
  refine zc_of2 (ls := [some (.ref a0, 11), some (.int x1, 0), none]) (j := 1) (by decide +kernel) rfl rfl (zEn_ca (zEn_ci rfl)) (Nat.le_of_ble_eq_true rfl) rfl ?_
  unfold gX11_asChain
  refine zr_iload_n (eX11_asChain 0 rfl) rfl rfl ?_
  refine zr_invS_i (as := [(.int x1, 0)]) (cX11_noSum_ok l h x1) rfl zcd_X11_noSum ⟨zw_748, zw_749, zw_57⟩ ⟨Nat.le_of_ble_eq_true rfl, Nat.le_of_ble_eq_true rfl⟩ rfl (Nat.le_of_ble_eq_true rfl) (eX11_asChain 1 rfl) (fun x21 => ?_)
  refine zr_if_eq (eX11_asChain 2 rfl) (t := 9) (by decide) ?_ ?_
  · refine zr_aload_n (r := (some a0)) (eX11_asChain 5 rfl) rfl rfl ?_
    refine zr_invV_R (as := []) (cX11_wordRows_ok l h a0) rfl rfl ⟨by decide, by decide, by decide⟩ zcd_X11_wordRows rfl ⟨zw_751, zw_753, zw_8, zw_57⟩ ⟨Nat.le_of_ble_eq_true rfl, Nat.le_of_ble_eq_true rfl⟩ rfl (Nat.le_of_ble_eq_true rfl) (eX11_asChain 6 rfl) (fun r22 h1 => ?_)
    refine zr_astore_n (r := r22) (ls2 := [some (.ref a0, 11), some (.int x1, 0), some (va_rf r22, 3)]) (eX11_asChain 7 rfl) rfl (Nat.le_of_ble_eq_true rfl) rfl ?_
    refine zr_aload_n (r := r22) (eX11_asChain 8 rfl) rfl rfl ?_
    refine zr_aload_n (r := (some a0)) (eX11_asChain 9 rfl) rfl rfl ?_
    refine zr_getR2 zf_RX11_19 (τ2 := 2) rfl (eX11_asChain 10 rfl) ?_
    refine v_letr (fun r23 => ?_)
    refine v_nn (fun a24 ea24 => ?_)
    subst ea24
    refine zr_invV_r (as := []) (cX2_chainNow_ok l h1 a24) rfl rfl ⟨by decide, by decide, by decide⟩ zcd_X2_chainNow rfl ⟨zw_231, zw_232, zw_233, zw_58⟩ ⟨Nat.le_of_ble_eq_true rfl, Nat.le_of_ble_eq_true rfl⟩ rfl (Nat.le_of_ble_eq_true rfl) (eX11_asChain 11 rfl) (fun r25 => ?_)
    refine v_nn (fun a26 ea26 => ?_)
    subst ea26
    refine zr_invV_V (as := [(va_rf r25, 0)]) (cX3_spell_ok l h1 a26 r25) rfl rfl ⟨by decide, by decide, by decide⟩ zcd_X3_spell rfl ⟨zw_861, zw_862, zw_863, zw_72⟩ ⟨Nat.le_of_ble_eq_true rfl, Nat.le_of_ble_eq_true rfl⟩ rfl (Nat.le_of_ble_eq_true rfl) (eX11_asChain 12 rfl) (fun h2 => ?_)
    refine zr_aload_n (r := (some a0)) (eX11_asChain 13 rfl) rfl rfl ?_
    refine zr_iload_n (eX11_asChain 14 rfl) rfl rfl ?_
    refine zr_aload_n (r := (some a26)) (eX11_asChain 15 rfl) rfl rfl ?_
    refine zr_invV_I (as := [(.int x1, 0), (.ref a26, 3)]) (cX11_keep_ok l h2 a0 x1 (some a26)) rfl rfl ⟨by decide, by decide, by decide⟩ zcd_X11_keep rfl ⟨zw_818, zw_820, zw_9, zw_57⟩ ⟨Nat.le_of_ble_eq_true rfl, Nat.le_of_ble_eq_true rfl⟩ rfl (Nat.le_of_ble_eq_true rfl) (eX11_asChain 16 rfl) (fun x27 h3 => ?_)
    exact zr_iret rfl rfl (eX11_asChain 17 rfl)
  · refine zr_iconst (eX11_asChain 3 rfl) zk_iconst_m1 ?_
    exact zr_iret rfl rfl (eX11_asChain 4 rfl)
def gX11_join_J1 (a0 : Nat) (x1 : Int32) (r24 : Option Nat) : Zh → Option (Int32 × Zh) :=
  fun (h2 : Zh) => zbI (gX11_keep h2 a0 x1 r24) (fun x31 h3 => (some (x31, h3)))
def gX11_join_J2 (r24 : Option Nat) (h1 : Zh) (r27 : Option Nat) (r30 : Option Nat) (k32 : Zh → Option (Int32 × Zh)) : Int64 → Option (Int32 × Zh) :=
  fun (x33 : Int64) => Option.bind r24 (fun a34 => zbV (gX3_merge h1 a34 r27 r30 x33) (fun h4 => k32 h4))
def gX11_join_J3 (r24 : Option Nat) (h1 : Zh) (r27 : Option Nat) (r30 : Option Nat) (k32 : Zh → Option (Int32 × Zh)) : Int32 → Option (Int32 × Zh) :=
  fun (x36 : Int32) => Option.bind r24 (fun a37 => zbV (gX3_multiply h1 a37 r27 r30 x36) (fun h5 => k32 h5))
def gX11_join (h : Zh) (a0 : Nat) (x1 : Int32) (x2 : Int32) (x3 : Int32) (x4 : Int32) : Option (Int32 × Zh) :=
  zbi (gX11_noSum x1) (fun x21 => (if (x21 : Int32) = 0 then zbi (gX11_noSum x2) (fun x22 => (if (x22 : Int32) = 0 then zbi (gX11_noSum x3) (fun x23 => (if (x23 : Int32) = 0 then (if (x4 : Int32) < 0 then (some ((-2), h))
  else (if (x4 : Int32) ≤ 3 then zbR (gX11_wordRows h a0) (fun r24 h1 => zlt (zR h1 a0 0) (fun r25 => Option.bind r25 (fun a26 => zbr (gX2_sumNow h1 a26 x2) (fun r27 => zlt (zR h1 a0 0) (fun r28 => Option.bind r28 (fun a29 => zbr (gX2_sumNow h1 a29 x3) (fun r30 => zjn (gX11_join_J1 a0 x1 r24) (fun (k32 : Zh → Option (Int32 × Zh)) =>
  (if (2 : Int32) ≤ x4 then zjn (gX11_join_J2 r24 h1 r27 r30 k32) (fun (k35 : Int64 → Option (Int32 × Zh)) =>
  (if (x4 : Int32) = 2 then k35 1
  else k35 (-1)))
  else zjn (gX11_join_J3 r24 h1 r27 r30 k32) (fun (k38 : Int32 → Option (Int32 × Zh)) =>
  (if (x4 : Int32) = 1 then k38 1
  else k38 0)))))))))))
  else (some ((-2), h))))
  else (some ((-1), h))))
  else (some ((-1), h))))
  else (some ((-1), h))))
set_option maxRecDepth 20000 in
theorem cX11_join_ok (l : Launch) (h : Zh) (a0 : Nat) (x1 : Int32) (x2 : Int32) (x3 : Int32) (x4 : Int32) : Zc l yX11_join mX11_join 0 h [(.ref a0, 11), (.int x1, 0), (.int x2, 0), (.int x3, 0), (.int x4, 0)] ((gX11_join h a0 x1 x2 x3 x4).map zoI) := by
  refine zc_of2 (ls := [some (.ref a0, 11), some (.int x1, 0), some (.int x2, 0), some (.int x3, 0), some (.int x4, 0), none, none, none]) (j := 3) (by decide +kernel) rfl rfl (zEn_ca (zEn_ci (zEn_ci (zEn_ci (zEn_ci rfl))))) (Nat.le_of_ble_eq_true rfl) rfl ?_
  unfold gX11_join
  refine zr_iload_n (eX11_join 0 rfl) rfl rfl ?_
  refine zr_invS_i (as := [(.int x1, 0)]) (cX11_noSum_ok l h x1) rfl zcd_X11_noSum ⟨zw_748, zw_749, zw_57⟩ ⟨Nat.le_of_ble_eq_true rfl, Nat.le_of_ble_eq_true rfl⟩ rfl (Nat.le_of_ble_eq_true rfl) (eX11_join 1 rfl) (fun x21 => ?_)
  refine zr_if_ne (eX11_join 2 rfl) (t := 21) (by decide) ?_ ?_
  · refine zr_iconst (eX11_join 9 rfl) zk_iconst_m1 ?_
    exact zr_iret rfl rfl (eX11_join 10 rfl)
  · refine zr_iload_n (eX11_join 3 rfl) rfl rfl ?_
    refine zr_invS_i (as := [(.int x2, 0)]) (cX11_noSum_ok l h x2) rfl zcd_X11_noSum ⟨zw_748, zw_749, zw_57⟩ ⟨Nat.le_of_ble_eq_true rfl, Nat.le_of_ble_eq_true rfl⟩ rfl (Nat.le_of_ble_eq_true rfl) (eX11_join 4 rfl) (fun x22 => ?_)
    refine zr_if_ne (eX11_join 5 rfl) (t := 21) (by decide) ?_ ?_
    · refine zr_iconst (eX11_join 9 rfl) zk_iconst_m1 ?_
      exact zr_iret rfl rfl (eX11_join 10 rfl)
    · refine zr_iload_n (eX11_join 6 rfl) rfl rfl ?_
      refine zr_invS_i (as := [(.int x3, 0)]) (cX11_noSum_ok l h x3) rfl zcd_X11_noSum ⟨zw_748, zw_749, zw_57⟩ ⟨Nat.le_of_ble_eq_true rfl, Nat.le_of_ble_eq_true rfl⟩ rfl (Nat.le_of_ble_eq_true rfl) (eX11_join 7 rfl) (fun x23 => ?_)
      refine zr_if_eq (eX11_join 8 rfl) (t := 23) (by decide) ?_ ?_
      · refine zr_iload (eX11_join 11 rfl) rfl ?_
        refine zr_if_lt (eX11_join 12 rfl) (t := 34) (by decide) ?_ ?_
        · refine zr_bipush (eX11_join 16 rfl) zk_bipush_m2 ?_
          exact zr_iret rfl rfl (eX11_join 17 rfl)
        · refine zr_iload (eX11_join 13 rfl) rfl ?_
          refine zr_iconst (eX11_join 14 rfl) zk_iconst_3 ?_
          refine zr_icmp_le (eX11_join 15 rfl) (t := 37) (by decide) ?_ ?_
          · refine zr_aload_n (r := (some a0)) (eX11_join 18 rfl) rfl rfl ?_
            refine zr_invV_R (as := []) (cX11_wordRows_ok l h a0) rfl rfl ⟨by decide, by decide, by decide⟩ zcd_X11_wordRows rfl ⟨zw_751, zw_753, zw_8, zw_57⟩ ⟨Nat.le_of_ble_eq_true rfl, Nat.le_of_ble_eq_true rfl⟩ rfl (Nat.le_of_ble_eq_true rfl) (eX11_join 19 rfl) (fun r24 h1 => ?_)
            refine zr_astore (r := r24) (ls2 := [some (.ref a0, 11), some (.int x1, 0), some (.int x2, 0), some (.int x3, 0), some (.int x4, 0), some (va_rf r24, 3), none, none]) (eX11_join 20 rfl) (Nat.le_of_ble_eq_true rfl) rfl ?_
            refine zr_aload_n (r := (some a0)) (eX11_join 21 rfl) rfl rfl ?_
            refine zr_getR2 zf_RX11_19 (τ2 := 2) rfl (eX11_join 22 rfl) ?_
            refine v_letr (fun r25 => ?_)
            refine zr_iload_n (eX11_join 23 rfl) rfl rfl ?_
            refine v_nn (fun a26 ea26 => ?_)
            subst ea26
            refine zr_invV_r (as := [(.int x2, 0)]) (cX2_sumNow_ok l h1 a26 x2) rfl rfl ⟨by decide, by decide, by decide⟩ zcd_X2_sumNow rfl ⟨zw_793, zw_794, zw_795, zw_58⟩ ⟨Nat.le_of_ble_eq_true rfl, Nat.le_of_ble_eq_true rfl⟩ rfl (Nat.le_of_ble_eq_true rfl) (eX11_join 24 rfl) (fun r27 => ?_)
            refine zr_astore (r := r27) (ls2 := [some (.ref a0, 11), some (.int x1, 0), some (.int x2, 0), some (.int x3, 0), some (.int x4, 0), some (va_rf r24, 3), some (va_rf r27, 8), none]) (eX11_join 25 rfl) (Nat.le_of_ble_eq_true rfl) (by simp only [zst1, zst2, zcl_rf]) ?_
            refine zr_aload_n (r := (some a0)) (eX11_join 26 rfl) rfl rfl ?_
            refine zr_getR2 zf_RX11_19 (τ2 := 2) rfl (eX11_join 27 rfl) ?_
            refine v_letr (fun r28 => ?_)
            refine zr_iload_n (eX11_join 28 rfl) rfl rfl ?_
            refine v_nn (fun a29 ea29 => ?_)
            subst ea29
            refine zr_invV_r (as := [(.int x3, 0)]) (cX2_sumNow_ok l h1 a29 x3) rfl rfl ⟨by decide, by decide, by decide⟩ zcd_X2_sumNow rfl ⟨zw_793, zw_794, zw_795, zw_58⟩ ⟨Nat.le_of_ble_eq_true rfl, Nat.le_of_ble_eq_true rfl⟩ rfl (Nat.le_of_ble_eq_true rfl) (eX11_join 29 rfl) (fun r30 => ?_)
            refine zr_astore (r := r30) (ls2 := [some (.ref a0, 11), some (.int x1, 0), some (.int x2, 0), some (.int x3, 0), some (.int x4, 0), some (va_rf r24, 3), some (va_rf r27, 8), some (va_rf r30, 8)]) (eX11_join 30 rfl) (Nat.le_of_ble_eq_true rfl) (by simp only [zst1, zst2, zcl_rf]) ?_
            refine zr_iload (eX11_join 31 rfl) rfl ?_
            refine zr_iconst (eX11_join 32 rfl) zk_iconst_2 ?_
            refine v_jn (fun (k32 : Zh → Option (Int32 × Zh)) => ∀ (h2 : Zh), V l mX11_join (zN h) (zS h) 0 zoI 114 [some (.ref a0, 11), some (.int x1, 0), none, none, none, some (va_rf r24, 3), none, none] [] h2 (k32 h2)) ?_ ?_
            · intro h2
              unfold gX11_join_J1
              refine zr_aload_n (r := (some a0)) (eX11_join 55 rfl) rfl rfl ?_
              refine zr_iload_n (eX11_join 56 rfl) rfl rfl ?_
              refine zr_aload (r := r24) (eX11_join 57 rfl) rfl ?_
              refine zr_invV_I (as := [(.int x1, 0), (va_rf r24, 3)]) (cX11_keep_ok l h2 a0 x1 r24) rfl rfl ⟨by decide, by decide, by decide⟩ zcd_X11_keep rfl ⟨zw_818, zw_820, zw_9, zw_57⟩ ⟨Nat.le_of_ble_eq_true rfl, Nat.le_of_ble_eq_true rfl⟩ rfl (Nat.le_of_ble_eq_true rfl) (eX11_join 58 rfl) (fun x31 h3 => ?_)
              exact zr_iret rfl rfl (eX11_join 59 rfl)
            intro k32 hk32
            refine zr_icmp_ge (eX11_join 33 rfl) (t := 92) (by decide) ?_ ?_
            · refine zr_aload (r := r24) (eX11_join 45 rfl) rfl ?_
              refine zr_aload (r := r27) (eX11_join 46 rfl) rfl ?_
              refine zr_aload (r := r30) (eX11_join 47 rfl) rfl ?_
              refine zr_iload (eX11_join 48 rfl) rfl ?_
              refine zr_iconst (eX11_join 49 rfl) zk_iconst_2 ?_
              refine v_jn (fun (k35 : Int64 → Option (Int32 × Zh)) => ∀ (x33 : Int64), V l mX11_join (zN h) (zS h) 0 zoI 111 [some (.ref a0, 11), some (.int x1, 0), none, none, none, some (va_rf r24, 3), none, none] [(.long x33, 0), (va_rf r30, 8), (va_rf r27, 8), (va_rf r24, 3)] h1 (k35 x33)) ?_ ?_
              · intro x33
                unfold gX11_join_J2
                refine v_nn (fun a34 ea34 => ?_)
                subst ea34
                refine zr_invV_V (as := [(va_rf r27, 8), (va_rf r30, 8), (.long x33, 0)]) (cX3_merge_ok l h1 a34 r27 r30 x33) rfl rfl ⟨by decide, by decide, by decide⟩ zcd_X3_merge rfl ⟨zw_800, zw_801, zw_802, zw_72⟩ ⟨Nat.le_of_ble_eq_true rfl, Nat.le_of_ble_eq_true rfl⟩ rfl (Nat.le_of_ble_eq_true rfl) (eX11_join 54 rfl) (fun h4 => ?_)
                exact v_drop [true, true, false, false, false, true, false, false] rfl (hk32 h4)
              intro k35 hk35
              refine zr_icmp_ne (eX11_join 50 rfl) (t := 108) (by decide) ?_ ?_
              · refine zr_ldc2 (eX11_join 53 rfl) zw_904 ?_
                exact v_drop [true, true, false, false, false, true, false, false] rfl (hk35 (-1))
              · refine zr_lconst (eX11_join 51 rfl) zk_lconst_1 ?_
                refine zr_goto (eX11_join 52 rfl) (t := 111) (by decide) ?_
                exact v_drop [true, true, false, false, false, true, false, false] rfl (hk35 1)
            · refine zr_aload (r := r24) (eX11_join 34 rfl) rfl ?_
              refine zr_aload (r := r27) (eX11_join 35 rfl) rfl ?_
              refine zr_aload (r := r30) (eX11_join 36 rfl) rfl ?_
              refine zr_iload (eX11_join 37 rfl) rfl ?_
              refine zr_iconst (eX11_join 38 rfl) zk_iconst_1 ?_
              refine v_jn (fun (k38 : Int32 → Option (Int32 × Zh)) => ∀ (x36 : Int32), V l mX11_join (zN h) (zS h) 0 zoI 86 [some (.ref a0, 11), some (.int x1, 0), none, none, none, some (va_rf r24, 3), none, none] [(.int x36, 0), (va_rf r30, 8), (va_rf r27, 8), (va_rf r24, 3)] h1 (k38 x36)) ?_ ?_
              · intro x36
                unfold gX11_join_J3
                refine v_nn (fun a37 ea37 => ?_)
                subst ea37
                refine zr_invV_V (as := [(va_rf r27, 8), (va_rf r30, 8), (.int x36, 0)]) (cX3_multiply_ok l h1 a37 r27 r30 x36) rfl rfl ⟨by decide, by decide, by decide⟩ zcd_X3_multiply rfl ⟨zw_871, zw_872, zw_873, zw_72⟩ ⟨Nat.le_of_ble_eq_true rfl, Nat.le_of_ble_eq_true rfl⟩ rfl (Nat.le_of_ble_eq_true rfl) (eX11_join 43 rfl) (fun h5 => ?_)
                refine zr_goto (eX11_join 44 rfl) (t := 114) (by decide) ?_
                exact v_drop [true, true, false, false, false, true, false, false] rfl (hk32 h5)
              intro k38 hk38
              refine zr_icmp_ne (eX11_join 39 rfl) (t := 85) (by decide) ?_ ?_
              · refine zr_iconst (eX11_join 42 rfl) zk_iconst_0 ?_
                exact v_drop [true, true, false, false, false, true, false, false] rfl (hk38 0)
              · refine zr_iconst (eX11_join 40 rfl) zk_iconst_1 ?_
                refine zr_goto (eX11_join 41 rfl) (t := 86) (by decide) ?_
                exact v_drop [true, true, false, false, false, true, false, false] rfl (hk38 1)
          · refine zr_bipush (eX11_join 16 rfl) zk_bipush_m2 ?_
            exact zr_iret rfl rfl (eX11_join 17 rfl)
      · refine zr_iconst (eX11_join 9 rfl) zk_iconst_m1 ?_
        exact zr_iret rfl rfl (eX11_join 10 rfl)
def gX11_shift (h : Zh) (a0 : Nat) (x1 : Int32) (x2 : Int32) (x3 : Int32) : Option (Int32 × Zh) :=
  zbi (gX11_noSum x1) (fun x21 => (if (x21 : Int32) = 0 then zbi (gX11_noSum x2) (fun x22 => (if (x22 : Int32) = 0 then (if (x3 : Int32) < 0 then (some ((-2), h))
  else (if (x3 : Int32) ≤ 7 then zlt (zR h a0 0) (fun r23 => Option.bind r23 (fun a24 => zbr (gX2_sumNow h a24 x2) (fun r25 => zlt (zR h a0 0) (fun r26 => Option.bind r26 (fun a27 => zbr (gX2_chainNow h a27) (fun r28 => Option.bind r28 (fun a29 => Option.bind r25 (fun a30 => zbi (gX8_within h a30 (zI h a29 4)) (fun x31 => (if (x31 : Int32) = 0 then (some ((-3), h))
  else zbR (gX11_wordRows h a0) (fun r32 h1 => Option.bind r32 (fun a33 => zbV (gX3_roll h1 a33 (some a30) (some a29) x3) (fun h2 => zbI (gX11_keep h2 a0 x1 (some a33)) (fun x34 h3 => (some (x34, h3))))))))))))))))
  else (some ((-2), h))))
  else (some ((-1), h))))
  else (some ((-1), h))))
set_option maxRecDepth 20000 in
theorem cX11_shift_ok (l : Launch) (h : Zh) (a0 : Nat) (x1 : Int32) (x2 : Int32) (x3 : Int32) : Zc l yX11_shift mX11_shift 0 h [(.ref a0, 11), (.int x1, 0), (.int x2, 0), (.int x3, 0)] ((gX11_shift h a0 x1 x2 x3).map zoI) := by
  refine zc_of2 (ls := [some (.ref a0, 11), some (.int x1, 0), some (.int x2, 0), some (.int x3, 0), none, none, none]) (j := 3) (by decide +kernel) rfl rfl (zEn_ca (zEn_ci (zEn_ci (zEn_ci rfl)))) (Nat.le_of_ble_eq_true rfl) rfl ?_
  unfold gX11_shift
  refine zr_iload_n (eX11_shift 0 rfl) rfl rfl ?_
  refine zr_invS_i (as := [(.int x1, 0)]) (cX11_noSum_ok l h x1) rfl zcd_X11_noSum ⟨zw_748, zw_749, zw_57⟩ ⟨Nat.le_of_ble_eq_true rfl, Nat.le_of_ble_eq_true rfl⟩ rfl (Nat.le_of_ble_eq_true rfl) (eX11_shift 1 rfl) (fun x21 => ?_)
  refine zr_if_ne (eX11_shift 2 rfl) (t := 14) (by decide) ?_ ?_
  · refine zr_iconst (eX11_shift 6 rfl) zk_iconst_m1 ?_
    exact zr_iret rfl rfl (eX11_shift 7 rfl)
  · refine zr_iload_n (eX11_shift 3 rfl) rfl rfl ?_
    refine zr_invS_i (as := [(.int x2, 0)]) (cX11_noSum_ok l h x2) rfl zcd_X11_noSum ⟨zw_748, zw_749, zw_57⟩ ⟨Nat.le_of_ble_eq_true rfl, Nat.le_of_ble_eq_true rfl⟩ rfl (Nat.le_of_ble_eq_true rfl) (eX11_shift 4 rfl) (fun x22 => ?_)
    refine zr_if_eq (eX11_shift 5 rfl) (t := 16) (by decide) ?_ ?_
    · refine zr_iload_n (eX11_shift 8 rfl) rfl rfl ?_
      refine zr_if_lt (eX11_shift 9 rfl) (t := 26) (by decide) ?_ ?_
      · refine zr_bipush (eX11_shift 13 rfl) zk_bipush_m2 ?_
        exact zr_iret rfl rfl (eX11_shift 14 rfl)
      · refine zr_iload_n (eX11_shift 10 rfl) rfl rfl ?_
        refine zr_bipush (eX11_shift 11 rfl) zk_bipush_7 ?_
        refine zr_icmp_le (eX11_shift 12 rfl) (t := 29) (by decide) ?_ ?_
        · refine zr_aload_n (r := (some a0)) (eX11_shift 15 rfl) rfl rfl ?_
          refine zr_getR2 zf_RX11_19 (τ2 := 2) rfl (eX11_shift 16 rfl) ?_
          refine v_letr (fun r23 => ?_)
          refine zr_iload_n (eX11_shift 17 rfl) rfl rfl ?_
          refine v_nn (fun a24 ea24 => ?_)
          subst ea24
          refine zr_invV_r (as := [(.int x2, 0)]) (cX2_sumNow_ok l h a24 x2) rfl rfl ⟨by decide, by decide, by decide⟩ zcd_X2_sumNow rfl ⟨zw_793, zw_794, zw_795, zw_58⟩ ⟨Nat.le_of_ble_eq_true rfl, Nat.le_of_ble_eq_true rfl⟩ rfl (Nat.le_of_ble_eq_true rfl) (eX11_shift 18 rfl) (fun r25 => ?_)
          refine zr_astore (r := r25) (ls2 := [some (.ref a0, 11), some (.int x1, 0), some (.int x2, 0), some (.int x3, 0), some (va_rf r25, 8), none, none]) (eX11_shift 19 rfl) (Nat.le_of_ble_eq_true rfl) rfl ?_
          refine zr_aload_n (r := (some a0)) (eX11_shift 20 rfl) rfl rfl ?_
          refine zr_getR2 zf_RX11_19 (τ2 := 2) rfl (eX11_shift 21 rfl) ?_
          refine v_letr (fun r26 => ?_)
          refine v_nn (fun a27 ea27 => ?_)
          subst ea27
          refine zr_invV_r (as := []) (cX2_chainNow_ok l h a27) rfl rfl ⟨by decide, by decide, by decide⟩ zcd_X2_chainNow rfl ⟨zw_231, zw_232, zw_233, zw_58⟩ ⟨Nat.le_of_ble_eq_true rfl, Nat.le_of_ble_eq_true rfl⟩ rfl (Nat.le_of_ble_eq_true rfl) (eX11_shift 22 rfl) (fun r28 => ?_)
          refine zr_astore (r := r28) (ls2 := [some (.ref a0, 11), some (.int x1, 0), some (.int x2, 0), some (.int x3, 0), some (va_rf r25, 8), some (va_rf r28, 0), none]) (eX11_shift 23 rfl) (Nat.le_of_ble_eq_true rfl) (by simp only [zst1, zst2, zcl_rf]) ?_
          refine zr_aload (r := r25) (eX11_shift 24 rfl) rfl ?_
          refine zr_aload (r := r28) (eX11_shift 25 rfl) rfl ?_
          refine v_nn (fun a29 ea29 => ?_)
          subst ea29
          refine zr_getI zf_RX11_66 ⟨by decide, by decide⟩ (eX11_shift 26 rfl) ?_
          refine v_nn (fun a30 ea30 => ?_)
          subst ea30
          refine zr_invV_i (as := [(.int (zI h a29 4), 0)]) (cX8_within_ok l h a30 (zI h a29 4)) rfl rfl ⟨by decide, by decide, by decide⟩ zcd_X8_within rfl ⟨zw_909, zw_910, zw_911, zw_60⟩ ⟨Nat.le_of_ble_eq_true rfl, Nat.le_of_ble_eq_true rfl⟩ rfl (Nat.le_of_ble_eq_true rfl) (eX11_shift 27 rfl) (fun x31 => ?_)
          refine zr_if_ne (eX11_shift 28 rfl) (t := 64) (by decide) ?_ ?_
          · refine zr_aload_n (r := (some a0)) (eX11_shift 31 rfl) rfl rfl ?_
            refine zr_invV_R (as := []) (cX11_wordRows_ok l h a0) rfl rfl ⟨by decide, by decide, by decide⟩ zcd_X11_wordRows rfl ⟨zw_751, zw_753, zw_8, zw_57⟩ ⟨Nat.le_of_ble_eq_true rfl, Nat.le_of_ble_eq_true rfl⟩ rfl (Nat.le_of_ble_eq_true rfl) (eX11_shift 32 rfl) (fun r32 h1 => ?_)
            refine zr_astore (r := r32) (ls2 := [some (.ref a0, 11), some (.int x1, 0), some (.int x2, 0), some (.int x3, 0), some (.ref a30, 8), some (.ref a29, 0), some (va_rf r32, 3)]) (eX11_shift 33 rfl) (Nat.le_of_ble_eq_true rfl) rfl ?_
            refine zr_aload (r := r32) (eX11_shift 34 rfl) rfl ?_
            refine zr_aload (r := (some a30)) (eX11_shift 35 rfl) rfl ?_
            refine zr_aload (r := (some a29)) (eX11_shift 36 rfl) rfl ?_
            refine zr_iload_n (eX11_shift 37 rfl) rfl rfl ?_
            refine v_nn (fun a33 ea33 => ?_)
            subst ea33
            refine zr_invV_V (as := [(.ref a30, 8), (.ref a29, 0), (.int x3, 0)]) (cX3_roll_ok l h1 a33 (some a30) (some a29) x3) rfl rfl ⟨by decide, by decide, by decide⟩ zcd_X3_roll rfl ⟨zw_913, zw_914, zw_915, zw_72⟩ ⟨Nat.le_of_ble_eq_true rfl, Nat.le_of_ble_eq_true rfl⟩ rfl (Nat.le_of_ble_eq_true rfl) (eX11_shift 38 rfl) (fun h2 => ?_)
            refine zr_aload_n (r := (some a0)) (eX11_shift 39 rfl) rfl rfl ?_
            refine zr_iload_n (eX11_shift 40 rfl) rfl rfl ?_
            refine zr_aload (r := (some a33)) (eX11_shift 41 rfl) rfl ?_
            refine zr_invV_I (as := [(.int x1, 0), (.ref a33, 3)]) (cX11_keep_ok l h2 a0 x1 (some a33)) rfl rfl ⟨by decide, by decide, by decide⟩ zcd_X11_keep rfl ⟨zw_818, zw_820, zw_9, zw_57⟩ ⟨Nat.le_of_ble_eq_true rfl, Nat.le_of_ble_eq_true rfl⟩ rfl (Nat.le_of_ble_eq_true rfl) (eX11_shift 42 rfl) (fun x34 h3 => ?_)
            exact zr_iret rfl rfl (eX11_shift 43 rfl)
          · refine zr_bipush (eX11_shift 29 rfl) zk_bipush_m3 ?_
            exact zr_iret rfl rfl (eX11_shift 30 rfl)
        · refine zr_bipush (eX11_shift 13 rfl) zk_bipush_m2 ?_
          exact zr_iret rfl rfl (eX11_shift 14 rfl)
    · refine zr_iconst (eX11_shift 6 rfl) zk_iconst_m1 ?_
      exact zr_iret rfl rfl (eX11_shift 7 rfl)
