def gX11_word (h : Zh) (a0 : Nat) (x1 : Int32) (x2 : Int32) (x3 : Int32) : Option (Int64) :=
  zbi (gX11_noSum x1) (fun x21 => (if (x21 : Int32) = 0 then zlt (zR h a0 0) (fun r22 => Option.bind r22 (fun a23 => zbr (gX2_sumNow h a23 x1) (fun r24 => (if (x2 : Int32) < 0 then (some (-9223372036854775808))
  else Option.bind r24 (fun a25 => zbi (gX8_count h a25) (fun x26 => (if (x2 : Int32) < x26 then (if (x3 : Int32) = 0 then zlt (zR h a25 0) (fun r27 => Option.bind r27 (fun a28 => zg (zin x2 (zL h a28)) ((some ((((zI h a28 (zx x2)) >>> ((8 : Int32) &&& 31)) : Int32).toInt64)))))
  else (if (x3 : Int32) = 1 then zlt (zR h a25 0) (fun r29 => Option.bind r29 (fun a30 => zg (zin x2 (zL h a30)) ((some ((((zI h a30 (zx x2)) &&& 255) : Int32).toInt64)))))
  else (if (x3 : Int32) = 2 then zlt (zR h a25 1) (fun r31 => Option.bind r31 (fun a32 => zg (zin x2 (zL h a32)) ((some (((zI h a32 (zx x2)) : Int32).toInt64)))))
  else (if (x3 : Int32) = 3 then zlt (zR h a25 2) (fun r33 => Option.bind r33 (fun a34 => zg (zin x2 (zL h a34)) ((some (((zI h a34 (zx x2)) : Int32).toInt64)))))
  else (some (-9223372036854775808))))))
  else (some (-9223372036854775808)))))))))
  else (some (-9223372036854775808))))
set_option maxRecDepth 20000 in
theorem cX11_word_ok (l : Launch) (h : Zh) (a0 : Nat) (x1 : Int32) (x2 : Int32) (x3 : Int32) : Zc l yX11_word mX11_word 0 h [(.ref a0, 11), (.int x1, 0), (.int x2, 0), (.int x3, 0)] ((gX11_word h a0 x1 x2 x3).map (zoj h)) := by
  refine zc_of2 (ls := [some (.ref a0, 11), some (.int x1, 0), some (.int x2, 0), some (.int x3, 0), none]) (j := 1) (by decide +kernel) rfl rfl (zEn_ca (zEn_ci (zEn_ci (zEn_ci rfl)))) (Nat.le_of_ble_eq_true rfl) rfl ?_
  unfold gX11_word
  refine zr_iload_n (eX11_word 0 rfl) rfl rfl ?_
  refine zr_invS_i (as := [(.int x1, 0)]) (cX11_noSum_ok l h x1) rfl zcd_X11_noSum ⟨zw_748, zw_749, zw_57⟩ ⟨Nat.le_of_ble_eq_true rfl, Nat.le_of_ble_eq_true rfl⟩ rfl (Nat.le_of_ble_eq_true rfl) (eX11_word 1 rfl) (fun x21 => ?_)
  refine zr_if_eq (eX11_word 2 rfl) (t := 11) (by decide) ?_ ?_
  · refine zr_aload_n (r := (some a0)) (eX11_word 5 rfl) rfl rfl ?_
    refine zr_getR2 zf_RX11_19 (τ2 := 2) rfl (eX11_word 6 rfl) ?_
    refine v_letr (fun r22 => ?_)
    refine zr_iload_n (eX11_word 7 rfl) rfl rfl ?_
    refine v_nn (fun a23 ea23 => ?_)
    subst ea23
    refine zr_invV_r (as := [(.int x1, 0)]) (cX2_sumNow_ok l h a23 x1) rfl rfl ⟨by decide, by decide, by decide⟩ zcd_X2_sumNow rfl ⟨zw_793, zw_794, zw_795, zw_58⟩ ⟨Nat.le_of_ble_eq_true rfl, Nat.le_of_ble_eq_true rfl⟩ rfl (Nat.le_of_ble_eq_true rfl) (eX11_word 8 rfl) (fun r24 => ?_)
    refine zr_astore (r := r24) (ls2 := [some (.ref a0, 11), some (.int x1, 0), some (.int x2, 0), some (.int x3, 0), some (va_rf r24, 8)]) (eX11_word 9 rfl) (Nat.le_of_ble_eq_true rfl) rfl ?_
    refine zr_iload_n (eX11_word 10 rfl) rfl rfl ?_
    refine zr_if_lt (eX11_word 11 rfl) (t := 34) (by decide) ?_ ?_
    · refine zr_ldc2 (eX11_word 16 rfl) zw_238 ?_
      exact zr_lret rfl rfl (eX11_word 17 rfl)
    · refine zr_iload_n (eX11_word 12 rfl) rfl rfl ?_
      refine zr_aload (r := r24) (eX11_word 13 rfl) rfl ?_
      refine v_nn (fun a25 ea25 => ?_)
      subst ea25
      refine zr_invV_i (as := []) (cX8_count_ok l h a25) rfl rfl ⟨by decide, by decide, by decide⟩ zcd_X8_count rfl ⟨zw_855, zw_809, zw_810, zw_60⟩ ⟨Nat.le_of_ble_eq_true rfl, Nat.le_of_ble_eq_true rfl⟩ rfl (Nat.le_of_ble_eq_true rfl) (eX11_word 14 rfl) (fun x26 => ?_)
      refine zr_icmp_lt (eX11_word 15 rfl) (t := 38) (by decide) ?_ ?_
      · refine zr_iload_n (eX11_word 18 rfl) rfl rfl ?_
        refine zr_tab (c := 0) (t := 68) (off := 29) (eX11_word 19 rfl) (by decide) (by decide) ?_ (fun q0 => ?_)
        · refine zr_aload (r := (some a25)) (eX11_word 20 rfl) rfl ?_
          refine zr_getR2 zf_RX11_277 (τ2 := 20) rfl (eX11_word 21 rfl) ?_
          refine v_letr (fun r27 => ?_)
          refine zr_iload_n (eX11_word 22 rfl) rfl rfl ?_
          refine v_nn (fun a28 ea28 => ?_)
          subst ea28
          refine zr_iald (eX11_word 23 rfl) ?_
          refine zr_bipush (eX11_word 24 rfl) zk_bipush_8 ?_
          refine zr_ishr (eX11_word 25 rfl) ?_
          refine zr_i2l (eX11_word 26 rfl) ?_
          exact zr_lret rfl rfl (eX11_word 27 rfl)
        refine zr_tab (c := 1) (t := 80) (off := 41) (eX11_word 19 rfl) (by decide) (by decide) ?_ (fun q1 => ?_)
        · refine zr_aload (r := (some a25)) (eX11_word 28 rfl) rfl ?_
          refine zr_getR2 zf_RX11_277 (τ2 := 20) rfl (eX11_word 29 rfl) ?_
          refine v_letr (fun r29 => ?_)
          refine zr_iload_n (eX11_word 30 rfl) rfl rfl ?_
          refine v_nn (fun a30 ea30 => ?_)
          subst ea30
          refine zr_iald (eX11_word 31 rfl) ?_
          refine zr_sipush (eX11_word 32 rfl) zk_sipush_255 ?_
          refine zr_iand (eX11_word 33 rfl) ?_
          refine zr_i2l (eX11_word 34 rfl) ?_
          exact zr_lret rfl rfl (eX11_word 35 rfl)
        refine zr_tab (c := 2) (t := 93) (off := 54) (eX11_word 19 rfl) (by decide) (by decide) ?_ (fun q2 => ?_)
        · refine zr_aload (r := (some a25)) (eX11_word 36 rfl) rfl ?_
          refine zr_getR2 zf_RX11_280 (τ2 := 20) rfl (eX11_word 37 rfl) ?_
          refine v_letr (fun r31 => ?_)
          refine zr_iload_n (eX11_word 38 rfl) rfl rfl ?_
          refine v_nn (fun a32 ea32 => ?_)
          subst ea32
          refine zr_iald (eX11_word 39 rfl) ?_
          refine zr_i2l (eX11_word 40 rfl) ?_
          exact zr_lret rfl rfl (eX11_word 41 rfl)
        refine zr_tab (c := 3) (t := 102) (off := 63) (eX11_word 19 rfl) (by decide) (by decide) ?_ (fun q3 => ?_)
        · refine zr_aload (r := (some a25)) (eX11_word 42 rfl) rfl ?_
          refine zr_getR2 zf_RX11_283 (τ2 := 20) rfl (eX11_word 43 rfl) ?_
          refine v_letr (fun r33 => ?_)
          refine zr_iload_n (eX11_word 44 rfl) rfl rfl ?_
          refine v_nn (fun a34 ea34 => ?_)
          subst ea34
          refine zr_iald (eX11_word 45 rfl) ?_
          refine zr_i2l (eX11_word 46 rfl) ?_
          exact zr_lret rfl rfl (eX11_word 47 rfl)
        have q0' := zne (c := 0) (n := 0) (by decide) q0
        have q1' := zne (c := 1) (n := 1) (by decide) q1
        have q2' := zne (c := 2) (n := 2) (by decide) q2
        have q3' := zne (c := 3) (n := 3) (by decide) q3
        refine zr_tabD (t := 111) (eX11_word 19 rfl) (by omega) (by decide) ?_
        refine zr_ldc2 (eX11_word 48 rfl) zw_238 ?_
        exact zr_lret rfl rfl (eX11_word 49 rfl)
      · refine zr_ldc2 (eX11_word 16 rfl) zw_238 ?_
        exact zr_lret rfl rfl (eX11_word 17 rfl)
  · refine zr_ldc2 (eX11_word 3 rfl) zw_238 ?_
    exact zr_lret rfl rfl (eX11_word 4 rfl)
def gX11_words (h : Zh) (a0 : Nat) (x1 : Int32) : Option (Int32) :=
  zbi (gX11_noSum x1) (fun x21 => (if (x21 : Int32) = 0 then zlt (zR h a0 0) (fun r22 => Option.bind r22 (fun a23 => zbr (gX2_sumNow h a23 x1) (fun r24 => Option.bind r24 (fun a25 => zbi (gX8_count h a25) (fun x26 => (some x26))))))
  else (some (-1))))
set_option maxRecDepth 20000 in
theorem cX11_words_ok (l : Launch) (h : Zh) (a0 : Nat) (x1 : Int32) : Zc l yX11_words mX11_words 0 h [(.ref a0, 11), (.int x1, 0)] ((gX11_words h a0 x1).map (zoi h)) := by
  refine zc_of2 (ls := [some (.ref a0, 11), some (.int x1, 0)]) (j := 0) (by decide +kernel) rfl rfl (zEn_ca (zEn_ci rfl)) (Nat.le_of_ble_eq_true rfl) rfl ?_
  unfold gX11_words
  refine zr_iload_n (eX11_words 0 rfl) rfl rfl ?_
  refine zr_invS_i (as := [(.int x1, 0)]) (cX11_noSum_ok l h x1) rfl zcd_X11_noSum ⟨zw_748, zw_749, zw_57⟩ ⟨Nat.le_of_ble_eq_true rfl, Nat.le_of_ble_eq_true rfl⟩ rfl (Nat.le_of_ble_eq_true rfl) (eX11_words 1 rfl) (fun x21 => ?_)
  refine zr_if_eq (eX11_words 2 rfl) (t := 11) (by decide) ?_ ?_
  · refine zr_aload_n (r := (some a0)) (eX11_words 5 rfl) rfl rfl ?_
    refine zr_getR2 zf_RX11_19 (τ2 := 2) rfl (eX11_words 6 rfl) ?_
    refine v_letr (fun r22 => ?_)
    refine zr_iload_n (eX11_words 7 rfl) rfl rfl ?_
    refine v_nn (fun a23 ea23 => ?_)
    subst ea23
    refine zr_invV_r (as := [(.int x1, 0)]) (cX2_sumNow_ok l h a23 x1) rfl rfl ⟨by decide, by decide, by decide⟩ zcd_X2_sumNow rfl ⟨zw_793, zw_794, zw_795, zw_58⟩ ⟨Nat.le_of_ble_eq_true rfl, Nat.le_of_ble_eq_true rfl⟩ rfl (Nat.le_of_ble_eq_true rfl) (eX11_words 8 rfl) (fun r24 => ?_)
    refine v_nn (fun a25 ea25 => ?_)
    subst ea25
    refine zr_invV_i (as := []) (cX8_count_ok l h a25) rfl rfl ⟨by decide, by decide, by decide⟩ zcd_X8_count rfl ⟨zw_855, zw_809, zw_810, zw_60⟩ ⟨Nat.le_of_ble_eq_true rfl, Nat.le_of_ble_eq_true rfl⟩ rfl (Nat.le_of_ble_eq_true rfl) (eX11_words 9 rfl) (fun x26 => ?_)
    exact zr_iret rfl rfl (eX11_words 10 rfl)
  · refine zr_iconst (eX11_words 3 rfl) zk_iconst_m1 ?_
    refine zr_goto (eX11_words 4 rfl) (t := 22) (by decide) ?_
    exact zr_iret rfl rfl (eX11_words 10 rfl)
def gX11_bracket (h : Zh) (a0 : Nat) (x1 : Int32) (x2 : Int32) : Option (Int32 × Zh) :=
  zbi (gX11_noSum x1) (fun x21 => (if (x21 : Int32) = 0 then zbi (gX11_noSum x2) (fun x22 => (if (x22 : Int32) = 0 then zbR (gX11_wordRows h a0) (fun r23 h1 => zlt (zR h1 a0 0) (fun r24 => Option.bind r24 (fun a25 => zbr (gX2_sumNow h1 a25 x1) (fun r26 => zlt (zR h1 a0 0) (fun r27 => Option.bind r27 (fun a28 => zbr (gX2_sumNow h1 a28 x2) (fun r29 => Option.bind r23 (fun a30 => zbV (gX3_multiply h1 a30 r26 r29 1) (fun h2 => (some ((zI h2 a30 6), h2)))))))))))
  else (some ((-1), h))))
  else (some ((-1), h))))
set_option maxRecDepth 20000 in
theorem cX11_bracket_ok (l : Launch) (h : Zh) (a0 : Nat) (x1 : Int32) (x2 : Int32) : Zc l yX11_bracket mX11_bracket 0 h [(.ref a0, 11), (.int x1, 0), (.int x2, 0)] ((gX11_bracket h a0 x1 x2).map zoI) := by
  refine zc_of2 (ls := [some (.ref a0, 11), some (.int x1, 0), some (.int x2, 0), none]) (j := 1) (by decide +kernel) rfl rfl (zEn_ca (zEn_ci (zEn_ci rfl))) (Nat.le_of_ble_eq_true rfl) rfl ?_
  unfold gX11_bracket
  refine zr_iload_n (eX11_bracket 0 rfl) rfl rfl ?_
  refine zr_invS_i (as := [(.int x1, 0)]) (cX11_noSum_ok l h x1) rfl zcd_X11_noSum ⟨zw_748, zw_749, zw_57⟩ ⟨Nat.le_of_ble_eq_true rfl, Nat.le_of_ble_eq_true rfl⟩ rfl (Nat.le_of_ble_eq_true rfl) (eX11_bracket 1 rfl) (fun x21 => ?_)
  refine zr_if_ne (eX11_bracket 2 rfl) (t := 14) (by decide) ?_ ?_
  · refine zr_iconst (eX11_bracket 6 rfl) zk_iconst_m1 ?_
    exact zr_iret rfl rfl (eX11_bracket 7 rfl)
  · refine zr_iload_n (eX11_bracket 3 rfl) rfl rfl ?_
    refine zr_invS_i (as := [(.int x2, 0)]) (cX11_noSum_ok l h x2) rfl zcd_X11_noSum ⟨zw_748, zw_749, zw_57⟩ ⟨Nat.le_of_ble_eq_true rfl, Nat.le_of_ble_eq_true rfl⟩ rfl (Nat.le_of_ble_eq_true rfl) (eX11_bracket 4 rfl) (fun x22 => ?_)
    refine zr_if_eq (eX11_bracket 5 rfl) (t := 16) (by decide) ?_ ?_
    · refine zr_aload_n (r := (some a0)) (eX11_bracket 8 rfl) rfl rfl ?_
      refine zr_invV_R (as := []) (cX11_wordRows_ok l h a0) rfl rfl ⟨by decide, by decide, by decide⟩ zcd_X11_wordRows rfl ⟨zw_751, zw_753, zw_8, zw_57⟩ ⟨Nat.le_of_ble_eq_true rfl, Nat.le_of_ble_eq_true rfl⟩ rfl (Nat.le_of_ble_eq_true rfl) (eX11_bracket 9 rfl) (fun r23 h1 => ?_)
      refine zr_astore_n (r := r23) (ls2 := [some (.ref a0, 11), some (.int x1, 0), some (.int x2, 0), some (va_rf r23, 3)]) (eX11_bracket 10 rfl) rfl (Nat.le_of_ble_eq_true rfl) rfl ?_
      refine zr_aload_n (r := r23) (eX11_bracket 11 rfl) rfl rfl ?_
      refine zr_aload_n (r := (some a0)) (eX11_bracket 12 rfl) rfl rfl ?_
      refine zr_getR2 zf_RX11_19 (τ2 := 2) rfl (eX11_bracket 13 rfl) ?_
      refine v_letr (fun r24 => ?_)
      refine zr_iload_n (eX11_bracket 14 rfl) rfl rfl ?_
      refine v_nn (fun a25 ea25 => ?_)
      subst ea25
      refine zr_invV_r (as := [(.int x1, 0)]) (cX2_sumNow_ok l h1 a25 x1) rfl rfl ⟨by decide, by decide, by decide⟩ zcd_X2_sumNow rfl ⟨zw_793, zw_794, zw_795, zw_58⟩ ⟨Nat.le_of_ble_eq_true rfl, Nat.le_of_ble_eq_true rfl⟩ rfl (Nat.le_of_ble_eq_true rfl) (eX11_bracket 15 rfl) (fun r26 => ?_)
      refine zr_aload_n (r := (some a0)) (eX11_bracket 16 rfl) rfl rfl ?_
      refine zr_getR2 zf_RX11_19 (τ2 := 2) rfl (eX11_bracket 17 rfl) ?_
      refine v_letr (fun r27 => ?_)
      refine zr_iload_n (eX11_bracket 18 rfl) rfl rfl ?_
      refine v_nn (fun a28 ea28 => ?_)
      subst ea28
      refine zr_invV_r (as := [(.int x2, 0)]) (cX2_sumNow_ok l h1 a28 x2) rfl rfl ⟨by decide, by decide, by decide⟩ zcd_X2_sumNow rfl ⟨zw_793, zw_794, zw_795, zw_58⟩ ⟨Nat.le_of_ble_eq_true rfl, Nat.le_of_ble_eq_true rfl⟩ rfl (Nat.le_of_ble_eq_true rfl) (eX11_bracket 19 rfl) (fun r29 => ?_)
      refine zr_iconst (eX11_bracket 20 rfl) zk_iconst_1 ?_
      refine v_nn (fun a30 ea30 => ?_)
      subst ea30
      refine zr_invV_V (as := [(va_rf r26, 8), (va_rf r29, 8), (.int 1, 0)]) (cX3_multiply_ok l h1 a30 r26 r29 1) rfl rfl ⟨by decide, by decide, by decide⟩ zcd_X3_multiply rfl ⟨zw_871, zw_872, zw_873, zw_72⟩ ⟨Nat.le_of_ble_eq_true rfl, Nat.le_of_ble_eq_true rfl⟩ rfl (Nat.le_of_ble_eq_true rfl) (eX11_bracket 21 rfl) (fun h2 => ?_)
      refine zr_aload_n (r := (some a30)) (eX11_bracket 22 rfl) rfl rfl ?_
      refine zr_getI zf_RX11_286 ⟨by decide, by decide⟩ (eX11_bracket 23 rfl) ?_
      exact zr_iret rfl rfl (eX11_bracket 24 rfl)
    · refine zr_iconst (eX11_bracket 6 rfl) zk_iconst_m1 ?_
      exact zr_iret rfl rfl (eX11_bracket 7 rfl)
def gX11_kept (h : Zh) (a0 : Nat) (x1 : Int32) : Option (Int32 × Zh) :=
  zbi (gX11_noSum x1) (fun x21 => (if (x21 : Int32) = 0 then zbR (gX11_wordRows h a0) (fun r22 h1 => zlt (zR h1 a0 0) (fun r23 => Option.bind r23 (fun a24 => zbr (gX2_chainNow h1 a24) (fun r25 => Option.bind r22 (fun a26 => zbV (gX3_spell h1 a26 r25) (fun h2 => zbR (gX3_result h2 a26) (fun r27 h3 => zlt (zR h3 a0 0) (fun r28 => Option.bind r28 (fun a29 => zbr (gX2_sumNow h3 a29 x1) (fun r30 => zbV (gX3_multiply h3 a26 r30 r27 1) (fun h4 => (if ((zI h4 a26 6) : Int32) = 0 then (some (1, h4))
  else (some (0, h4))))))))))))))
  else (some ((-1), h))))
set_option maxRecDepth 20000 in
theorem cX11_kept_ok (l : Launch) (h : Zh) (a0 : Nat) (x1 : Int32) : Zc l yX11_kept mX11_kept 0 h [(.ref a0, 11), (.int x1, 0)] ((gX11_kept h a0 x1).map zoI) := by
  refine zc_of2 (ls := [some (.ref a0, 11), some (.int x1, 0), none, none]) (j := 2) (by decide +kernel) rfl rfl (zEn_ca (zEn_ci rfl)) (Nat.le_of_ble_eq_true rfl) rfl ?_
  unfold gX11_kept
  refine zr_iload_n (eX11_kept 0 rfl) rfl rfl ?_
  refine zr_invS_i (as := [(.int x1, 0)]) (cX11_noSum_ok l h x1) rfl zcd_X11_noSum ⟨zw_748, zw_749, zw_57⟩ ⟨Nat.le_of_ble_eq_true rfl, Nat.le_of_ble_eq_true rfl⟩ rfl (Nat.le_of_ble_eq_true rfl) (eX11_kept 1 rfl) (fun x21 => ?_)
  refine zr_if_eq (eX11_kept 2 rfl) (t := 9) (by decide) ?_ ?_
  · refine zr_aload_n (r := (some a0)) (eX11_kept 5 rfl) rfl rfl ?_
    refine zr_invV_R (as := []) (cX11_wordRows_ok l h a0) rfl rfl ⟨by decide, by decide, by decide⟩ zcd_X11_wordRows rfl ⟨zw_751, zw_753, zw_8, zw_57⟩ ⟨Nat.le_of_ble_eq_true rfl, Nat.le_of_ble_eq_true rfl⟩ rfl (Nat.le_of_ble_eq_true rfl) (eX11_kept 6 rfl) (fun r22 h1 => ?_)
    refine zr_astore_n (r := r22) (ls2 := [some (.ref a0, 11), some (.int x1, 0), some (va_rf r22, 3), none]) (eX11_kept 7 rfl) rfl (Nat.le_of_ble_eq_true rfl) rfl ?_
    refine zr_aload_n (r := r22) (eX11_kept 8 rfl) rfl rfl ?_
    refine zr_aload_n (r := (some a0)) (eX11_kept 9 rfl) rfl rfl ?_
    refine zr_getR2 zf_RX11_19 (τ2 := 2) rfl (eX11_kept 10 rfl) ?_
    refine v_letr (fun r23 => ?_)
    refine v_nn (fun a24 ea24 => ?_)
    subst ea24
    refine zr_invV_r (as := []) (cX2_chainNow_ok l h1 a24) rfl rfl ⟨by decide, by decide, by decide⟩ zcd_X2_chainNow rfl ⟨zw_231, zw_232, zw_233, zw_58⟩ ⟨Nat.le_of_ble_eq_true rfl, Nat.le_of_ble_eq_true rfl⟩ rfl (Nat.le_of_ble_eq_true rfl) (eX11_kept 11 rfl) (fun r25 => ?_)
    refine v_nn (fun a26 ea26 => ?_)
    subst ea26
    refine zr_invV_V (as := [(va_rf r25, 0)]) (cX3_spell_ok l h1 a26 r25) rfl rfl ⟨by decide, by decide, by decide⟩ zcd_X3_spell rfl ⟨zw_861, zw_862, zw_863, zw_72⟩ ⟨Nat.le_of_ble_eq_true rfl, Nat.le_of_ble_eq_true rfl⟩ rfl (Nat.le_of_ble_eq_true rfl) (eX11_kept 12 rfl) (fun h2 => ?_)
    refine zr_aload_n (r := (some a26)) (eX11_kept 13 rfl) rfl rfl ?_
    refine zr_invV_R (as := []) (cX3_result_ok l h2 a26) rfl rfl ⟨by decide, by decide, by decide⟩ zcd_X3_result rfl ⟨zw_826, zw_827, zw_828, zw_72⟩ ⟨Nat.le_of_ble_eq_true rfl, Nat.le_of_ble_eq_true rfl⟩ rfl (Nat.le_of_ble_eq_true rfl) (eX11_kept 14 rfl) (fun r27 h3 => ?_)
    refine zr_astore_n (r := r27) (ls2 := [some (.ref a0, 11), some (.int x1, 0), some (.ref a26, 3), some (va_rf r27, 8)]) (eX11_kept 15 rfl) rfl (Nat.le_of_ble_eq_true rfl) rfl ?_
    refine zr_aload_n (r := (some a26)) (eX11_kept 16 rfl) rfl rfl ?_
    refine zr_aload_n (r := (some a0)) (eX11_kept 17 rfl) rfl rfl ?_
    refine zr_getR2 zf_RX11_19 (τ2 := 2) rfl (eX11_kept 18 rfl) ?_
    refine v_letr (fun r28 => ?_)
    refine zr_iload_n (eX11_kept 19 rfl) rfl rfl ?_
    refine v_nn (fun a29 ea29 => ?_)
    subst ea29
    refine zr_invV_r (as := [(.int x1, 0)]) (cX2_sumNow_ok l h3 a29 x1) rfl rfl ⟨by decide, by decide, by decide⟩ zcd_X2_sumNow rfl ⟨zw_793, zw_794, zw_795, zw_58⟩ ⟨Nat.le_of_ble_eq_true rfl, Nat.le_of_ble_eq_true rfl⟩ rfl (Nat.le_of_ble_eq_true rfl) (eX11_kept 20 rfl) (fun r30 => ?_)
    refine zr_aload_n (r := r27) (eX11_kept 21 rfl) rfl rfl ?_
    refine zr_iconst (eX11_kept 22 rfl) zk_iconst_1 ?_
    refine zr_invV_V (as := [(va_rf r30, 8), (va_rf r27, 8), (.int 1, 0)]) (cX3_multiply_ok l h3 a26 r30 r27 1) rfl rfl ⟨by decide, by decide, by decide⟩ zcd_X3_multiply rfl ⟨zw_871, zw_872, zw_873, zw_72⟩ ⟨Nat.le_of_ble_eq_true rfl, Nat.le_of_ble_eq_true rfl⟩ rfl (Nat.le_of_ble_eq_true rfl) (eX11_kept 23 rfl) (fun h4 => ?_)
    refine zr_aload_n (r := (some a26)) (eX11_kept 24 rfl) rfl rfl ?_
    refine zr_getI zf_RX11_286 ⟨by decide, by decide⟩ (eX11_kept 25 rfl) ?_
    refine zr_if_ne (eX11_kept 26 rfl) (t := 55) (by decide) ?_ ?_
    · refine zr_iconst (eX11_kept 29 rfl) zk_iconst_0 ?_
      exact zr_iret rfl rfl (eX11_kept 30 rfl)
    · refine zr_iconst (eX11_kept 27 rfl) zk_iconst_1 ?_
      refine zr_goto (eX11_kept 28 rfl) (t := 56) (by decide) ?_
      exact zr_iret rfl rfl (eX11_kept 30 rfl)
  · refine zr_iconst (eX11_kept 3 rfl) zk_iconst_m1 ?_
    exact zr_iret rfl rfl (eX11_kept 4 rfl)
def gX11_undo (h : Zh) (a0 : Nat) : Option (Int32 × Zh) :=
  zlt (zR h a0 0) (fun r21 => Option.bind r21 (fun a22 => zbI (gX2_back h a22) (fun x23 h1 => (if (x23 : Int32) = 0 then (some ((-3), h1))
  else zlt (zR h1 a0 0) (fun r24 => Option.bind r24 (fun a25 => zbi (gX2_undoable h1 a25) (fun x26 => (some (x26, h1)))))))))
set_option maxRecDepth 20000 in
theorem cX11_undo_ok (l : Launch) (h : Zh) (a0 : Nat) : Zc l yX11_undo mX11_undo 0 h [(.ref a0, 11)] ((gX11_undo h a0).map zoI) := by
  refine zc_of2 (ls := [some (.ref a0, 11)]) (j := 0) (by decide +kernel) rfl rfl (zEn_ca rfl) (Nat.le_of_ble_eq_true rfl) rfl ?_
  unfold gX11_undo
  refine zr_aload_n (r := (some a0)) (eX11_undo 0 rfl) rfl rfl ?_
  refine zr_getR2 zf_RX11_19 (τ2 := 2) rfl (eX11_undo 1 rfl) ?_
  refine v_letr (fun r21 => ?_)
  refine v_nn (fun a22 ea22 => ?_)
  subst ea22
  refine zr_invV_I (as := []) (cX2_back_ok l h a22) rfl rfl ⟨by decide, by decide, by decide⟩ zcd_X2_back rfl ⟨zw_938, zw_939, zw_940, zw_58⟩ ⟨Nat.le_of_ble_eq_true rfl, Nat.le_of_ble_eq_true rfl⟩ rfl (Nat.le_of_ble_eq_true rfl) (eX11_undo 2 rfl) (fun x23 h1 => ?_)
  refine zr_if_eq (eX11_undo 3 rfl) (t := 20) (by decide) ?_ ?_
  · refine zr_bipush (eX11_undo 8 rfl) zk_bipush_m3 ?_
    exact zr_iret rfl rfl (eX11_undo 9 rfl)
  · refine zr_aload_n (r := (some a0)) (eX11_undo 4 rfl) rfl rfl ?_
    refine zr_getR2 zf_RX11_19 (τ2 := 2) rfl (eX11_undo 5 rfl) ?_
    refine v_letr (fun r24 => ?_)
    refine v_nn (fun a25 ea25 => ?_)
    subst ea25
    refine zr_invV_i (as := []) (cX2_undoable_ok l h1 a25) rfl rfl ⟨by decide, by decide, by decide⟩ zcd_X2_undoable rfl ⟨zw_942, zw_943, zw_944, zw_58⟩ ⟨Nat.le_of_ble_eq_true rfl, Nat.le_of_ble_eq_true rfl⟩ rfl (Nat.le_of_ble_eq_true rfl) (eX11_undo 6 rfl) (fun x26 => ?_)
    refine zr_goto (eX11_undo 7 rfl) (t := 22) (by decide) ?_
    exact zr_iret rfl rfl (eX11_undo 9 rfl)
def gX11_redo (h : Zh) (a0 : Nat) : Option (Int32 × Zh) :=
  zlt (zR h a0 0) (fun r21 => Option.bind r21 (fun a22 => zbI (gX2_forth h a22) (fun x23 h1 => (if (x23 : Int32) = 0 then (some ((-3), h1))
  else zlt (zR h1 a0 0) (fun r24 => Option.bind r24 (fun a25 => zbi (gX2_undoable h1 a25) (fun x26 => (some (x26, h1)))))))))
set_option maxRecDepth 20000 in
theorem cX11_redo_ok (l : Launch) (h : Zh) (a0 : Nat) : Zc l yX11_redo mX11_redo 0 h [(.ref a0, 11)] ((gX11_redo h a0).map zoI) := by
  refine zc_of2 (ls := [some (.ref a0, 11)]) (j := 0) (by decide +kernel) rfl rfl (zEn_ca rfl) (Nat.le_of_ble_eq_true rfl) rfl ?_
  unfold gX11_redo
  refine zr_aload_n (r := (some a0)) (eX11_redo 0 rfl) rfl rfl ?_
  refine zr_getR2 zf_RX11_19 (τ2 := 2) rfl (eX11_redo 1 rfl) ?_
  refine v_letr (fun r21 => ?_)
  refine v_nn (fun a22 ea22 => ?_)
  subst ea22
  refine zr_invV_I (as := []) (cX2_forth_ok l h a22) rfl rfl ⟨by decide, by decide, by decide⟩ zcd_X2_forth rfl ⟨zw_950, zw_951, zw_952, zw_58⟩ ⟨Nat.le_of_ble_eq_true rfl, Nat.le_of_ble_eq_true rfl⟩ rfl (Nat.le_of_ble_eq_true rfl) (eX11_redo 2 rfl) (fun x23 h1 => ?_)
  refine zr_if_eq (eX11_redo 3 rfl) (t := 20) (by decide) ?_ ?_
  · refine zr_bipush (eX11_redo 8 rfl) zk_bipush_m3 ?_
    exact zr_iret rfl rfl (eX11_redo 9 rfl)
  · refine zr_aload_n (r := (some a0)) (eX11_redo 4 rfl) rfl rfl ?_
    refine zr_getR2 zf_RX11_19 (τ2 := 2) rfl (eX11_redo 5 rfl) ?_
    refine v_letr (fun r24 => ?_)
    refine v_nn (fun a25 ea25 => ?_)
    subst ea25
    refine zr_invV_i (as := []) (cX2_undoable_ok l h1 a25) rfl rfl ⟨by decide, by decide, by decide⟩ zcd_X2_undoable rfl ⟨zw_942, zw_943, zw_944, zw_58⟩ ⟨Nat.le_of_ble_eq_true rfl, Nat.le_of_ble_eq_true rfl⟩ rfl (Nat.le_of_ble_eq_true rfl) (eX11_redo 6 rfl) (fun x26 => ?_)
    refine zr_goto (eX11_redo 7 rfl) (t := 22) (by decide) ?_
    exact zr_iret rfl rfl (eX11_redo 9 rfl)
def gX11_sheet (h : Zh) (a0 : Nat) (x1 : Int32) (x2 : Int32) (x3 : Int32) : Option (Int32 × Zh) :=
  zlt (zsI h a0 5 0) (fun (h1 : Zh) => zbi (gX11_noSheet x1) (fun x21 => (if (x21 : Int32) = 0 then zbi (gX11_noLane x2) (fun x22 => (if (x22 : Int32) = 0 then (if (x3 : Int32) ≤ 60 then (if (0 : Int32) ≤ x3 then zlt (zR h1 a0 2) (fun r23 => zlt (zN h1) (fun a24 => zlt (zA h1 6 2) (fun (h2 : Zh) => zg (zok x3) (zlt (zN h2) (fun a25 => zlt (zA h2 20 (zx x3)) (fun (h3 : Zh) => zbV (gX6_init h3 a24 x2 (some a25)) (fun h4 => Option.bind r23 (fun a26 => zg (zin x1 (zL h4 a26)) (zlt (zsR h4 a26 (zx x1) (some a24)) (fun (h5 : Zh) => (some (1, h5))))))))))))
  else zbI (gX11_faulted h1 a0 4) (fun x27 h6 => (some (x27, h6))))
  else (some ((-2), h1)))
  else (some ((-2), h1))))
  else (some ((-1), h1)))))
set_option maxRecDepth 20000 in
theorem cX11_sheet_ok (l : Launch) (h : Zh) (a0 : Nat) (x1 : Int32) (x2 : Int32) (x3 : Int32) : Zc l yX11_sheet mX11_sheet 0 h [(.ref a0, 11), (.int x1, 0), (.int x2, 0), (.int x3, 0)] ((gX11_sheet h a0 x1 x2 x3).map zoI) := by
  refine zc_of2 (ls := [some (.ref a0, 11), some (.int x1, 0), some (.int x2, 0), some (.int x3, 0)]) (j := 0) (by decide +kernel) rfl rfl (zEn_ca (zEn_ci (zEn_ci (zEn_ci rfl)))) (Nat.le_of_ble_eq_true rfl) rfl ?_
  unfold gX11_sheet
  refine zr_aload_n (r := (some a0)) (eX11_sheet 0 rfl) rfl rfl ?_
  refine zr_iconst (eX11_sheet 1 rfl) zk_iconst_0 ?_
  refine zr_putI zf_RX11_48 rfl (Or.inl rfl) (eX11_sheet 2 rfl) ?_
  refine v_leth (fun h1 => ?_)
  refine zr_iload_n (eX11_sheet 3 rfl) rfl rfl ?_
  refine zr_invS_i (as := [(.int x1, 0)]) (cX11_noSheet_ok l h1 x1) rfl zcd_X11_noSheet ⟨zw_577, zw_578, zw_57⟩ ⟨Nat.le_of_ble_eq_true rfl, Nat.le_of_ble_eq_true rfl⟩ rfl (Nat.le_of_ble_eq_true rfl) (eX11_sheet 4 rfl) (fun x21 => ?_)
  refine zr_if_eq (eX11_sheet 5 rfl) (t := 14) (by decide) ?_ ?_
  · refine zr_iload_n (eX11_sheet 8 rfl) rfl rfl ?_
    refine zr_invS_i (as := [(.int x2, 0)]) (cX11_noLane_ok l h1 x2) rfl zcd_X11_noLane ⟨zw_580, zw_581, zw_57⟩ ⟨Nat.le_of_ble_eq_true rfl, Nat.le_of_ble_eq_true rfl⟩ rfl (Nat.le_of_ble_eq_true rfl) (eX11_sheet 9 rfl) (fun x22 => ?_)
    refine zr_if_ne (eX11_sheet 10 rfl) (t := 27) (by decide) ?_ ?_
    · refine zr_bipush (eX11_sheet 14 rfl) zk_bipush_m2 ?_
      exact zr_iret rfl rfl (eX11_sheet 15 rfl)
    · refine zr_iload_n (eX11_sheet 11 rfl) rfl rfl ?_
      refine zr_bipush (eX11_sheet 12 rfl) zk_bipush_60 ?_
      refine zr_icmp_le (eX11_sheet 13 rfl) (t := 30) (by decide) ?_ ?_
      · refine zr_iload_n (eX11_sheet 16 rfl) rfl rfl ?_
        refine zr_if_ge (eX11_sheet 17 rfl) (t := 40) (by decide) ?_ ?_
        · refine zr_aload_n (r := (some a0)) (eX11_sheet 22 rfl) rfl rfl ?_
          refine zr_getR2 zf_RX11_33 (τ2 := 24) rfl (eX11_sheet 23 rfl) ?_
          refine v_letr (fun r23 => ?_)
          refine zr_iload_n (eX11_sheet 24 rfl) rfl rfl ?_
          refine zr_new zci6 zw_170 zw_958 zw_73 (eX11_sheet 25 rfl) ?_
          refine zr_leta (fun a24 => ?_)
          refine v_leth (fun h2 => ?_)
          refine zr_dup (eX11_sheet 26 rfl) rfl ?_
          refine zr_iload_n (eX11_sheet 27 rfl) rfl rfl ?_
          refine zr_iload_n (eX11_sheet 28 rfl) rfl rfl ?_
          refine zr_newi zw_154 (eX11_sheet 29 rfl) ?_
          refine zr_leta (fun a25 => ?_)
          refine v_leth (fun h3 => ?_)
          refine zr_invI_V (as := [(.int x2, 0), (.ref a25, 20)]) (cX6_init_ok l h3 a24 x2 (some a25)) rfl zcd_X6_init rfl rfl ⟨zw_959, zw_960, zw_73⟩ ⟨Nat.le_of_ble_eq_true rfl, Nat.le_of_ble_eq_true rfl⟩ rfl (Nat.le_of_ble_eq_true rfl) (eX11_sheet 30 rfl) (fun h4 => ?_)
          refine v_nn (fun a26 ea26 => ?_)
          subst ea26
          refine zr_aast (r := (some a24)) zQa_24 (fun _ h => h) (by decide) (eX11_sheet 31 rfl) ?_
          refine v_leth (fun h5 => ?_)
          refine zr_iconst (eX11_sheet 32 rfl) zk_iconst_1 ?_
          exact zr_iret rfl rfl (eX11_sheet 33 rfl)
        · refine zr_aload_n (r := (some a0)) (eX11_sheet 18 rfl) rfl rfl ?_
          refine zr_iconst (eX11_sheet 19 rfl) zk_iconst_4 ?_
          refine zr_invV_I (as := [(.int 4, 0)]) (cX11_faulted_ok l h1 a0 4) rfl rfl ⟨by decide, by decide, by decide⟩ zcd_X11_faulted rfl ⟨zw_590, zw_592, zw_5, zw_57⟩ ⟨Nat.le_of_ble_eq_true rfl, Nat.le_of_ble_eq_true rfl⟩ rfl (Nat.le_of_ble_eq_true rfl) (eX11_sheet 20 rfl) (fun x27 h6 => ?_)
          exact zr_iret rfl rfl (eX11_sheet 21 rfl)
      · refine zr_bipush (eX11_sheet 14 rfl) zk_bipush_m2 ?_
        exact zr_iret rfl rfl (eX11_sheet 15 rfl)
  · refine zr_iconst (eX11_sheet 6 rfl) zk_iconst_m1 ?_
    exact zr_iret rfl rfl (eX11_sheet 7 rfl)
def gX11_lose_J1 (h : Zh) (a0 : Nat) (x1 : Int32) : Int32 → Option (Int32 × Zh) :=
  fun (x25 : Int32) => zlt (zR h a0 2) (fun r26 => Option.bind r26 (fun a27 => zg (zin x1 (zL h a27)) (zlt (zsR h a27 (zx x1) none) (fun (h1 : Zh) => (some (x25, h1))))))
def gX11_lose (h : Zh) (a0 : Nat) (x1 : Int32) : Option (Int32 × Zh) :=
  zbi (gX11_noSheet x1) (fun x21 => (if (x21 : Int32) = 0 then zlt (zR h a0 2) (fun r22 => Option.bind r22 (fun a23 => zg (zin x1 (zL h a23)) (zlt (zR h a23 (zx x1)) (fun r24 => zjn (gX11_lose_J1 h a0 x1) (fun (k28 : Int32 → Option (Int32 × Zh)) =>
  (zcs r24 (k28 0) (fun a29 => k28 1)))))))
  else (some ((-1), h))))
set_option maxRecDepth 20000 in
theorem cX11_lose_ok (l : Launch) (h : Zh) (a0 : Nat) (x1 : Int32) : Zc l yX11_lose mX11_lose 0 h [(.ref a0, 11), (.int x1, 0)] ((gX11_lose h a0 x1).map zoI) := by
  refine zc_of2 (ls := [some (.ref a0, 11), some (.int x1, 0), none]) (j := 1) (by decide +kernel) rfl rfl (zEn_ca (zEn_ci rfl)) (Nat.le_of_ble_eq_true rfl) rfl ?_
  unfold gX11_lose
  refine zr_iload_n (eX11_lose 0 rfl) rfl rfl ?_
  refine zr_invS_i (as := [(.int x1, 0)]) (cX11_noSheet_ok l h x1) rfl zcd_X11_noSheet ⟨zw_577, zw_578, zw_57⟩ ⟨Nat.le_of_ble_eq_true rfl, Nat.le_of_ble_eq_true rfl⟩ rfl (Nat.le_of_ble_eq_true rfl) (eX11_lose 1 rfl) (fun x21 => ?_)
  refine zr_if_eq (eX11_lose 2 rfl) (t := 9) (by decide) ?_ ?_
  · refine zr_aload_n (r := (some a0)) (eX11_lose 5 rfl) rfl rfl ?_
    refine zr_getR2 zf_RX11_33 (τ2 := 24) rfl (eX11_lose 6 rfl) ?_
    refine v_letr (fun r22 => ?_)
    refine zr_iload_n (eX11_lose 7 rfl) rfl rfl ?_
    refine v_nn (fun a23 ea23 => ?_)
    subst ea23
    refine zr_aald zQa_24 (eX11_lose 8 rfl) ?_
    refine v_letr (fun r24 => ?_)
    refine v_jn (fun (k28 : Int32 → Option (Int32 × Zh)) => ∀ (x25 : Int32), V l mX11_lose (zN h) (zS h) 0 zoI 23 [some (.ref a0, 11), some (.int x1, 0), none] [(.int x25, 0)] h (k28 x25)) ?_ ?_
    · intro x25
      unfold gX11_lose_J1
      refine zr_istore_n (ls2 := [some (.ref a0, 11), some (.int x1, 0), some (.int x25, 0)]) (eX11_lose 13 rfl) rfl (Nat.le_of_ble_eq_true rfl) rfl ?_
      refine zr_aload_n (r := (some a0)) (eX11_lose 14 rfl) rfl rfl ?_
      refine zr_getR2 zf_RX11_33 (τ2 := 24) rfl (eX11_lose 15 rfl) ?_
      refine v_letr (fun r26 => ?_)
      refine zr_iload_n (eX11_lose 16 rfl) rfl rfl ?_
      refine zr_null (a := 6) (eX11_lose 17 rfl) ?_
      refine v_nn (fun a27 ea27 => ?_)
      subst ea27
      refine zr_aast (r := none) zQa_24 (fun _ h => h) (by decide) (eX11_lose 18 rfl) ?_
      refine v_leth (fun h1 => ?_)
      refine zr_iload_n (eX11_lose 19 rfl) rfl rfl ?_
      exact zr_iret rfl rfl (eX11_lose 20 rfl)
    intro k28 hk28
    refine zr_nonnull2 (eX11_lose 9 rfl) (t := 22) (by decide) (fun ea29 => ?_) (fun a29 ea29 => ?_)
    · subst ea29
      refine zr_iconst (eX11_lose 10 rfl) zk_iconst_0 ?_
      refine zr_goto (eX11_lose 11 rfl) (t := 23) (by decide) ?_
      exact v_drop [true, true, false] rfl (hk28 0)
    · subst ea29
      refine zr_iconst (eX11_lose 12 rfl) zk_iconst_1 ?_
      exact v_drop [true, true, false] rfl (hk28 1)
  · refine zr_iconst (eX11_lose 3 rfl) zk_iconst_m1 ?_
    exact zr_iret rfl rfl (eX11_lose 4 rfl)
def gX11_put (h : Zh) (a0 : Nat) (x1 : Int32) (x2 : Int32) (x3 : Int32) : Option (Int32 × Zh) :=
  zlt (zsI h a0 5 0) (fun (h1 : Zh) => zbi (gX11_noSheet x1) (fun x21 => (if (x21 : Int32) = 0 then zlt (zR h1 a0 2) (fun r22 => Option.bind r22 (fun a23 => zg (zin x1 (zL h1 a23)) (zlt (zR h1 a23 (zx x1)) (fun r24 => (zcs r24 (zbI (gX11_faulted h1 a0 1) (fun x25 h2 => (some (x25, h2)))) (fun a26 => zbi (gX6_has h1 a26 x2 1) (fun x27 => (if (x27 : Int32) = 0 then zbI (gX11_faulted h1 a0 3) (fun x31 h4 => (some (x31, h4)))
  else zlt (zR h1 a26 1) (fun r28 => zbi (gX6_cut h1 a26 x3) (fun x29 => Option.bind r28 (fun a30 => zg (zin x2 (zL h1 a30)) (zlt (zsI h1 a30 (zx x2) x29) (fun (h3 : Zh) => (some (1, h3)))))))))))))))
  else (some ((-1), h1)))))
set_option maxRecDepth 20000 in
theorem cX11_put_ok (l : Launch) (h : Zh) (a0 : Nat) (x1 : Int32) (x2 : Int32) (x3 : Int32) : Zc l yX11_put mX11_put 0 h [(.ref a0, 11), (.int x1, 0), (.int x2, 0), (.int x3, 0)] ((gX11_put h a0 x1 x2 x3).map zoI) := by
  refine zc_of2 (ls := [some (.ref a0, 11), some (.int x1, 0), some (.int x2, 0), some (.int x3, 0), none]) (j := 1) (by decide +kernel) rfl rfl (zEn_ca (zEn_ci (zEn_ci (zEn_ci rfl)))) (Nat.le_of_ble_eq_true rfl) rfl ?_
  unfold gX11_put
  refine zr_aload_n (r := (some a0)) (eX11_put 0 rfl) rfl rfl ?_
  refine zr_iconst (eX11_put 1 rfl) zk_iconst_0 ?_
  refine zr_putI zf_RX11_48 rfl (Or.inl rfl) (eX11_put 2 rfl) ?_
  refine v_leth (fun h1 => ?_)
  refine zr_iload_n (eX11_put 3 rfl) rfl rfl ?_
  refine zr_invS_i (as := [(.int x1, 0)]) (cX11_noSheet_ok l h1 x1) rfl zcd_X11_noSheet ⟨zw_577, zw_578, zw_57⟩ ⟨Nat.le_of_ble_eq_true rfl, Nat.le_of_ble_eq_true rfl⟩ rfl (Nat.le_of_ble_eq_true rfl) (eX11_put 4 rfl) (fun x21 => ?_)
  refine zr_if_eq (eX11_put 5 rfl) (t := 14) (by decide) ?_ ?_
  · refine zr_aload_n (r := (some a0)) (eX11_put 8 rfl) rfl rfl ?_
    refine zr_getR2 zf_RX11_33 (τ2 := 24) rfl (eX11_put 9 rfl) ?_
    refine v_letr (fun r22 => ?_)
    refine zr_iload_n (eX11_put 10 rfl) rfl rfl ?_
    refine v_nn (fun a23 ea23 => ?_)
    subst ea23
    refine zr_aald zQa_24 (eX11_put 11 rfl) ?_
    refine v_letr (fun r24 => ?_)
    refine zr_astore (r := r24) (ls2 := [some (.ref a0, 11), some (.int x1, 0), some (.int x2, 0), some (.int x3, 0), some (va_rf r24, 6)]) (eX11_put 12 rfl) (Nat.le_of_ble_eq_true rfl) rfl ?_
    refine zr_aload (r := r24) (eX11_put 13 rfl) rfl ?_
    refine zr_nonnull2 (eX11_put 14 rfl) (t := 33) (by decide) (fun ea26 => ?_) (fun a26 ea26 => ?_)
    · subst ea26
      refine zr_aload_n (r := (some a0)) (eX11_put 15 rfl) rfl rfl ?_
      refine zr_iconst (eX11_put 16 rfl) zk_iconst_1 ?_
      refine zr_invV_I (as := [(.int 1, 0)]) (cX11_faulted_ok l h1 a0 1) rfl rfl ⟨by decide, by decide, by decide⟩ zcd_X11_faulted rfl ⟨zw_590, zw_592, zw_5, zw_57⟩ ⟨Nat.le_of_ble_eq_true rfl, Nat.le_of_ble_eq_true rfl⟩ rfl (Nat.le_of_ble_eq_true rfl) (eX11_put 17 rfl) (fun x25 h2 => ?_)
      exact zr_iret rfl rfl (eX11_put 18 rfl)
    · subst ea26
      refine zr_aload (r := (some a26)) (eX11_put 19 rfl) rfl ?_
      refine zr_iload_n (eX11_put 20 rfl) rfl rfl ?_
      refine zr_iconst (eX11_put 21 rfl) zk_iconst_1 ?_
      refine zr_invV_i (as := [(.int x2, 0), (.int 1, 0)]) (cX6_has_ok l h1 a26 x2 1) rfl rfl ⟨by decide, by decide, by decide⟩ zcd_X6_has rfl ⟨zw_586, zw_587, zw_588, zw_73⟩ ⟨Nat.le_of_ble_eq_true rfl, Nat.le_of_ble_eq_true rfl⟩ rfl (Nat.le_of_ble_eq_true rfl) (eX11_put 22 rfl) (fun x27 => ?_)
      refine zr_if_ne (eX11_put 23 rfl) (t := 49) (by decide) ?_ ?_
      · refine zr_aload (r := (some a26)) (eX11_put 28 rfl) rfl ?_
        refine zr_getR2 zf_RX11_175 (τ2 := 20) rfl (eX11_put 29 rfl) ?_
        refine v_letr (fun r28 => ?_)
        refine zr_iload_n (eX11_put 30 rfl) rfl rfl ?_
        refine zr_aload (r := (some a26)) (eX11_put 31 rfl) rfl ?_
        refine zr_iload_n (eX11_put 32 rfl) rfl rfl ?_
        refine zr_invV_i (as := [(.int x3, 0)]) (cX6_cut_ok l h1 a26 x3) rfl rfl ⟨by decide, by decide, by decide⟩ zcd_X6_cut rfl ⟨zw_980, zw_981, zw_982, zw_73⟩ ⟨Nat.le_of_ble_eq_true rfl, Nat.le_of_ble_eq_true rfl⟩ rfl (Nat.le_of_ble_eq_true rfl) (eX11_put 33 rfl) (fun x29 => ?_)
        refine v_nn (fun a30 ea30 => ?_)
        subst ea30
        refine zr_iast (eX11_put 34 rfl) ?_
        refine v_leth (fun h3 => ?_)
        refine zr_iconst (eX11_put 35 rfl) zk_iconst_1 ?_
        exact zr_iret rfl rfl (eX11_put 36 rfl)
      · refine zr_aload_n (r := (some a0)) (eX11_put 24 rfl) rfl rfl ?_
        refine zr_iconst (eX11_put 25 rfl) zk_iconst_3 ?_
        refine zr_invV_I (as := [(.int 3, 0)]) (cX11_faulted_ok l h1 a0 3) rfl rfl ⟨by decide, by decide, by decide⟩ zcd_X11_faulted rfl ⟨zw_590, zw_592, zw_5, zw_57⟩ ⟨Nat.le_of_ble_eq_true rfl, Nat.le_of_ble_eq_true rfl⟩ rfl (Nat.le_of_ble_eq_true rfl) (eX11_put 26 rfl) (fun x31 h4 => ?_)
        exact zr_iret rfl rfl (eX11_put 27 rfl)
  · refine zr_iconst (eX11_put 6 rfl) zk_iconst_m1 ?_
    exact zr_iret rfl rfl (eX11_put 7 rfl)
def gX11_cell (h : Zh) (a0 : Nat) (x1 : Int32) (x2 : Int32) (x3 : Int32) : Option (Int64 × Zh) :=
  zlt (zsI h a0 5 0) (fun (h1 : Zh) => zbi (gX11_noSheet x1) (fun x21 => (if (x21 : Int32) = 0 then zbi (gX11_noLane x3) (fun x22 => (if (x22 : Int32) = 0 then zlt (zR h1 a0 2) (fun r23 => Option.bind r23 (fun a24 => zg (zin x1 (zL h1 a24)) (zlt (zR h1 a24 (zx x1)) (fun r25 => zbi (gX11_faultOf h1 r25 x3 x2 1) (fun x26 => zlt (zsI h1 a0 5 x26) (fun (h2 : Zh) => (if ((zI h2 a0 5) : Int32) = 0 then (zcs r25 ((some ((-9223372036854775808), h2))) (fun a27 => zlt (zR h2 a27 1) (fun r28 => Option.bind r28 (fun a29 => zg (zin x2 (zL h2 a29)) ((some ((((zI h2 a29 (zx x2)) : Int32).toInt64), h2)))))))
  else (some ((-9223372036854775808), h2)))))))))
  else (some ((-9223372036854775808), h1))))
  else (some ((-9223372036854775808), h1)))))
set_option maxRecDepth 20000 in
theorem cX11_cell_ok (l : Launch) (h : Zh) (a0 : Nat) (x1 : Int32) (x2 : Int32) (x3 : Int32) : Zc l yX11_cell mX11_cell 0 h [(.ref a0, 11), (.int x1, 0), (.int x2, 0), (.int x3, 0)] ((gX11_cell h a0 x1 x2 x3).map zoJ) := by
  refine zc_of2 (ls := [some (.ref a0, 11), some (.int x1, 0), some (.int x2, 0), some (.int x3, 0), none]) (j := 1) (by decide +kernel) rfl rfl (zEn_ca (zEn_ci (zEn_ci (zEn_ci rfl)))) (Nat.le_of_ble_eq_true rfl) rfl ?_
  unfold gX11_cell
  refine zr_aload_n (r := (some a0)) (eX11_cell 0 rfl) rfl rfl ?_
  refine zr_iconst (eX11_cell 1 rfl) zk_iconst_0 ?_
  refine zr_putI zf_RX11_48 rfl (Or.inl rfl) (eX11_cell 2 rfl) ?_
  refine v_leth (fun h1 => ?_)
  refine zr_iload_n (eX11_cell 3 rfl) rfl rfl ?_
  refine zr_invS_i (as := [(.int x1, 0)]) (cX11_noSheet_ok l h1 x1) rfl zcd_X11_noSheet ⟨zw_577, zw_578, zw_57⟩ ⟨Nat.le_of_ble_eq_true rfl, Nat.le_of_ble_eq_true rfl⟩ rfl (Nat.le_of_ble_eq_true rfl) (eX11_cell 4 rfl) (fun x21 => ?_)
  refine zr_if_ne (eX11_cell 5 rfl) (t := 19) (by decide) ?_ ?_
  · refine zr_ldc2 (eX11_cell 9 rfl) zw_238 ?_
    exact zr_lret rfl rfl (eX11_cell 10 rfl)
  · refine zr_iload_n (eX11_cell 6 rfl) rfl rfl ?_
    refine zr_invS_i (as := [(.int x3, 0)]) (cX11_noLane_ok l h1 x3) rfl zcd_X11_noLane ⟨zw_580, zw_581, zw_57⟩ ⟨Nat.le_of_ble_eq_true rfl, Nat.le_of_ble_eq_true rfl⟩ rfl (Nat.le_of_ble_eq_true rfl) (eX11_cell 7 rfl) (fun x22 => ?_)
    refine zr_if_eq (eX11_cell 8 rfl) (t := 23) (by decide) ?_ ?_
    · refine zr_aload_n (r := (some a0)) (eX11_cell 11 rfl) rfl rfl ?_
      refine zr_getR2 zf_RX11_33 (τ2 := 24) rfl (eX11_cell 12 rfl) ?_
      refine v_letr (fun r23 => ?_)
      refine zr_iload_n (eX11_cell 13 rfl) rfl rfl ?_
      refine v_nn (fun a24 ea24 => ?_)
      subst ea24
      refine zr_aald zQa_24 (eX11_cell 14 rfl) ?_
      refine v_letr (fun r25 => ?_)
      refine zr_astore (r := r25) (ls2 := [some (.ref a0, 11), some (.int x1, 0), some (.int x2, 0), some (.int x3, 0), some (va_rf r25, 6)]) (eX11_cell 15 rfl) (Nat.le_of_ble_eq_true rfl) rfl ?_
      refine zr_aload_n (r := (some a0)) (eX11_cell 16 rfl) rfl rfl ?_
      refine zr_aload (r := r25) (eX11_cell 17 rfl) rfl ?_
      refine zr_iload_n (eX11_cell 18 rfl) rfl rfl ?_
      refine zr_iload_n (eX11_cell 19 rfl) rfl rfl ?_
      refine zr_iconst (eX11_cell 20 rfl) zk_iconst_1 ?_
      refine zr_invS_i (as := [(va_rf r25, 6), (.int x3, 0), (.int x2, 0), (.int 1, 0)]) (cX11_faultOf_ok l h1 r25 x3 x2 1) rfl zcd_X11_faultOf ⟨zw_583, zw_584, zw_57⟩ ⟨Nat.le_of_ble_eq_true rfl, Nat.le_of_ble_eq_true rfl⟩ rfl (Nat.le_of_ble_eq_true rfl) (eX11_cell 21 rfl) (fun x26 => ?_)
      refine zr_putI zf_RX11_48 rfl (Or.inl rfl) (eX11_cell 22 rfl) ?_
      refine v_leth (fun h2 => ?_)
      refine zr_aload_n (r := (some a0)) (eX11_cell 23 rfl) rfl rfl ?_
      refine zr_getI zf_RX11_48 ⟨by decide, by decide⟩ (eX11_cell 24 rfl) ?_
      refine zr_if_ne (eX11_cell 25 rfl) (t := 55) (by decide) ?_ ?_
      · refine zr_ldc2 (eX11_cell 28 rfl) zw_238 ?_
        exact zr_lret rfl rfl (eX11_cell 29 rfl)
      · refine zr_aload (r := r25) (eX11_cell 26 rfl) rfl ?_
        refine zr_nonnull2 (eX11_cell 27 rfl) (t := 59) (by decide) (fun ea27 => ?_) (fun a27 ea27 => ?_)
        · subst ea27
          refine zr_ldc2 (eX11_cell 28 rfl) zw_238 ?_
          exact zr_lret rfl rfl (eX11_cell 29 rfl)
        · subst ea27
          refine zr_aload (r := (some a27)) (eX11_cell 30 rfl) rfl ?_
          refine zr_getR2 zf_RX11_175 (τ2 := 20) rfl (eX11_cell 31 rfl) ?_
          refine v_letr (fun r28 => ?_)
          refine zr_iload_n (eX11_cell 32 rfl) rfl rfl ?_
          refine v_nn (fun a29 ea29 => ?_)
          subst ea29
          refine zr_iald (eX11_cell 33 rfl) ?_
          refine zr_i2l (eX11_cell 34 rfl) ?_
          exact zr_lret rfl rfl (eX11_cell 35 rfl)
    · refine zr_ldc2 (eX11_cell 9 rfl) zw_238 ?_
      exact zr_lret rfl rfl (eX11_cell 10 rfl)
def gX11_copy_J1 (a0 : Nat) (h1 : Zh) : Option (Int32 × Zh) :=
  zbI (gX11_faulted h1 a0 1) (fun x29 h2 => (some (x29, h2)))
def gX11_copy_J2 (a0 : Nat) (h1 : Zh) : Option (Int32 × Zh) :=
  zbI (gX11_faulted h1 a0 3) (fun x34 h3 => (some (x34, h3)))
def gX11_copy (h : Zh) (a0 : Nat) (x1 : Int32) (x2 : Int32) (x3 : Int32) (x4 : Int32) (x5 : Int32) : Option (Int32 × Zh) :=
  zlt (zsI h a0 5 0) (fun (h1 : Zh) => zbi (gX11_noSheet x1) (fun x21 => (if (x21 : Int32) = 0 then zbi (gX11_noSheet x3) (fun x22 => (if (x22 : Int32) = 0 then zlt (zR h1 a0 2) (fun r23 => Option.bind r23 (fun a24 => zg (zin x1 (zL h1 a24)) (zlt (zR h1 a24 (zx x1)) (fun r25 => zlt (zR h1 a0 2) (fun r26 => Option.bind r26 (fun a27 => zg (zin x3 (zL h1 a27)) (zlt (zR h1 a27 (zx x3)) (fun r28 => zjn (gX11_copy_J1 a0 h1) (fun (k30 : Option (Int32 × Zh)) =>
  (zcs r25 (k30) (fun a31 => (zcs r28 (k30) (fun a32 => (if ((zI h1 a31 0) : Int32) = (zI h1 a32 0) then zbi (gX6_has h1 a31 x2 x5) (fun x33 => zjn (gX11_copy_J2 a0 h1) (fun (k35 : Option (Int32 × Zh)) =>
  (if (x33 : Int32) = 0 then k35
  else zbi (gX6_has h1 a32 x4 x5) (fun x36 => (if (x36 : Int32) = 0 then k35
  else zlt (zR h1 a31 1) (fun r37 => zlt (zR h1 a32 1) (fun r38 => Option.bind r37 (fun a39 => Option.bind r38 (fun a40 => zg (zcp h1 a39 x2 a40 x4 x5) (zlt (zcI h1 a39 (zx x2) a40 (zx x4) (zx x5)) (fun (h4 : Zh) => (some (x5, h4)))))))))))))
  else zbI (gX11_faulted h1 a0 2) (fun x41 h5 => (some (x41, h5)))))))))))))))))
  else (some ((-1), h1))))
  else (some ((-1), h1)))))
set_option maxRecDepth 20000 in
theorem cX11_copy_ok (l : Launch) (h : Zh) (a0 : Nat) (x1 : Int32) (x2 : Int32) (x3 : Int32) (x4 : Int32) (x5 : Int32) : Zc l yX11_copy mX11_copy 0 h [(.ref a0, 11), (.int x1, 0), (.int x2, 0), (.int x3, 0), (.int x4, 0), (.int x5, 0)] ((gX11_copy h a0 x1 x2 x3 x4 x5).map zoI) := by
  refine zc_of2 (ls := [some (.ref a0, 11), some (.int x1, 0), some (.int x2, 0), some (.int x3, 0), some (.int x4, 0), some (.int x5, 0), none, none]) (j := 2) (by decide +kernel) rfl rfl (zEn_ca (zEn_ci (zEn_ci (zEn_ci (zEn_ci (zEn_ci rfl)))))) (Nat.le_of_ble_eq_true rfl) rfl ?_
  unfold gX11_copy
  refine zr_aload_n (r := (some a0)) (eX11_copy 0 rfl) rfl rfl ?_
  refine zr_iconst (eX11_copy 1 rfl) zk_iconst_0 ?_
  refine zr_putI zf_RX11_48 rfl (Or.inl rfl) (eX11_copy 2 rfl) ?_
  refine v_leth (fun h1 => ?_)
  refine zr_iload_n (eX11_copy 3 rfl) rfl rfl ?_
  refine zr_invS_i (as := [(.int x1, 0)]) (cX11_noSheet_ok l h1 x1) rfl zcd_X11_noSheet ⟨zw_577, zw_578, zw_57⟩ ⟨Nat.le_of_ble_eq_true rfl, Nat.le_of_ble_eq_true rfl⟩ rfl (Nat.le_of_ble_eq_true rfl) (eX11_copy 4 rfl) (fun x21 => ?_)
  refine zr_if_ne (eX11_copy 5 rfl) (t := 19) (by decide) ?_ ?_
  · refine zr_iconst (eX11_copy 9 rfl) zk_iconst_m1 ?_
    exact zr_iret rfl rfl (eX11_copy 10 rfl)
  · refine zr_iload_n (eX11_copy 6 rfl) rfl rfl ?_
    refine zr_invS_i (as := [(.int x3, 0)]) (cX11_noSheet_ok l h1 x3) rfl zcd_X11_noSheet ⟨zw_577, zw_578, zw_57⟩ ⟨Nat.le_of_ble_eq_true rfl, Nat.le_of_ble_eq_true rfl⟩ rfl (Nat.le_of_ble_eq_true rfl) (eX11_copy 7 rfl) (fun x22 => ?_)
    refine zr_if_eq (eX11_copy 8 rfl) (t := 21) (by decide) ?_ ?_
    · refine zr_aload_n (r := (some a0)) (eX11_copy 11 rfl) rfl rfl ?_
      refine zr_getR2 zf_RX11_33 (τ2 := 24) rfl (eX11_copy 12 rfl) ?_
      refine v_letr (fun r23 => ?_)
      refine zr_iload_n (eX11_copy 13 rfl) rfl rfl ?_
      refine v_nn (fun a24 ea24 => ?_)
      subst ea24
      refine zr_aald zQa_24 (eX11_copy 14 rfl) ?_
      refine v_letr (fun r25 => ?_)
      refine zr_astore (r := r25) (ls2 := [some (.ref a0, 11), some (.int x1, 0), some (.int x2, 0), some (.int x3, 0), some (.int x4, 0), some (.int x5, 0), some (va_rf r25, 6), none]) (eX11_copy 15 rfl) (Nat.le_of_ble_eq_true rfl) rfl ?_
      refine zr_aload_n (r := (some a0)) (eX11_copy 16 rfl) rfl rfl ?_
      refine zr_getR2 zf_RX11_33 (τ2 := 24) rfl (eX11_copy 17 rfl) ?_
      refine v_letr (fun r26 => ?_)
      refine zr_iload_n (eX11_copy 18 rfl) rfl rfl ?_
      refine v_nn (fun a27 ea27 => ?_)
      subst ea27
      refine zr_aald zQa_24 (eX11_copy 19 rfl) ?_
      refine v_letr (fun r28 => ?_)
      refine zr_astore (r := r28) (ls2 := [some (.ref a0, 11), some (.int x1, 0), some (.int x2, 0), some (.int x3, 0), some (.int x4, 0), some (.int x5, 0), some (va_rf r25, 6), some (va_rf r28, 6)]) (eX11_copy 20 rfl) (Nat.le_of_ble_eq_true rfl) (by simp only [zst1, zst2, zcl_rf]) ?_
      refine zr_aload (r := r25) (eX11_copy 21 rfl) rfl ?_
      refine v_jn (fun (k30 : Option (Int32 × Zh)) => V l mX11_copy (zN h) (zS h) 0 zoI 47 [some (.ref a0, 11), none, none, none, none, none, none, none] [] h1 k30) ?_ ?_
      · skip
        unfold gX11_copy_J1
        refine zr_aload_n (r := (some a0)) (eX11_copy 25 rfl) rfl rfl ?_
        refine zr_iconst (eX11_copy 26 rfl) zk_iconst_1 ?_
        refine zr_invV_I (as := [(.int 1, 0)]) (cX11_faulted_ok l h1 a0 1) rfl rfl ⟨by decide, by decide, by decide⟩ zcd_X11_faulted rfl ⟨zw_590, zw_592, zw_5, zw_57⟩ ⟨Nat.le_of_ble_eq_true rfl, Nat.le_of_ble_eq_true rfl⟩ rfl (Nat.le_of_ble_eq_true rfl) (eX11_copy 27 rfl) (fun x29 h2 => ?_)
        exact zr_iret rfl rfl (eX11_copy 28 rfl)
      intro k30 hk30
      refine zr_null2 (eX11_copy 22 rfl) (t := 47) (by decide) (fun ea31 => ?_) (fun a31 ea31 => ?_)
      · subst ea31
        exact v_drop [true, false, false, false, false, false, false, false] rfl (hk30)
      · subst ea31
        refine zr_aload (r := r28) (eX11_copy 23 rfl) rfl ?_
        refine zr_nonnull2 (eX11_copy 24 rfl) (t := 53) (by decide) (fun ea32 => ?_) (fun a32 ea32 => ?_)
        · subst ea32
          exact v_drop [true, false, false, false, false, false, false, false] rfl (hk30)
        · subst ea32
          refine zr_aload (r := (some a31)) (eX11_copy 29 rfl) rfl ?_
          refine zr_getI zf_RX11_310 ⟨by decide, by decide⟩ (eX11_copy 30 rfl) ?_
          refine zr_aload (r := (some a32)) (eX11_copy 31 rfl) rfl ?_
          refine zr_getI zf_RX11_310 ⟨by decide, by decide⟩ (eX11_copy 32 rfl) ?_
          refine zr_icmp_eq (eX11_copy 33 rfl) (t := 72) (by decide) ?_ ?_
          · refine zr_aload (r := (some a31)) (eX11_copy 38 rfl) rfl ?_
            refine zr_iload_n (eX11_copy 39 rfl) rfl rfl ?_
            refine zr_iload (eX11_copy 40 rfl) rfl ?_
            refine zr_invV_i (as := [(.int x2, 0), (.int x5, 0)]) (cX6_has_ok l h1 a31 x2 x5) rfl rfl ⟨by decide, by decide, by decide⟩ zcd_X6_has rfl ⟨zw_586, zw_587, zw_588, zw_73⟩ ⟨Nat.le_of_ble_eq_true rfl, Nat.le_of_ble_eq_true rfl⟩ rfl (Nat.le_of_ble_eq_true rfl) (eX11_copy 41 rfl) (fun x33 => ?_)
            refine v_jn (fun (k35 : Option (Int32 × Zh)) => V l mX11_copy (zN h) (zS h) 0 zoI 95 [some (.ref a0, 11), none, none, none, none, none, none, none] [] h1 k35) ?_ ?_
            · skip
              unfold gX11_copy_J2
              refine zr_aload_n (r := (some a0)) (eX11_copy 48 rfl) rfl rfl ?_
              refine zr_iconst (eX11_copy 49 rfl) zk_iconst_3 ?_
              refine zr_invV_I (as := [(.int 3, 0)]) (cX11_faulted_ok l h1 a0 3) rfl rfl ⟨by decide, by decide, by decide⟩ zcd_X11_faulted rfl ⟨zw_590, zw_592, zw_5, zw_57⟩ ⟨Nat.le_of_ble_eq_true rfl, Nat.le_of_ble_eq_true rfl⟩ rfl (Nat.le_of_ble_eq_true rfl) (eX11_copy 50 rfl) (fun x34 h3 => ?_)
              exact zr_iret rfl rfl (eX11_copy 51 rfl)
            intro k35 hk35
            refine zr_if_eq (eX11_copy 42 rfl) (t := 95) (by decide) ?_ ?_
            · exact v_drop [true, false, false, false, false, false, false, false] rfl (hk35)
            · refine zr_aload (r := (some a32)) (eX11_copy 43 rfl) rfl ?_
              refine zr_iload (eX11_copy 44 rfl) rfl ?_
              refine zr_iload (eX11_copy 45 rfl) rfl ?_
              refine zr_invV_i (as := [(.int x4, 0), (.int x5, 0)]) (cX6_has_ok l h1 a32 x4 x5) rfl rfl ⟨by decide, by decide, by decide⟩ zcd_X6_has rfl ⟨zw_586, zw_587, zw_588, zw_73⟩ ⟨Nat.le_of_ble_eq_true rfl, Nat.le_of_ble_eq_true rfl⟩ rfl (Nat.le_of_ble_eq_true rfl) (eX11_copy 46 rfl) (fun x36 => ?_)
              refine zr_if_ne (eX11_copy 47 rfl) (t := 101) (by decide) ?_ ?_
              · refine zr_aload (r := (some a31)) (eX11_copy 52 rfl) rfl ?_
                refine zr_getR2 zf_RX11_175 (τ2 := 20) rfl (eX11_copy 53 rfl) ?_
                refine v_letr (fun r37 => ?_)
                refine zr_iload_n (eX11_copy 54 rfl) rfl rfl ?_
                refine zr_aload (r := (some a32)) (eX11_copy 55 rfl) rfl ?_
                refine zr_getR2 zf_RX11_175 (τ2 := 20) rfl (eX11_copy 56 rfl) ?_
                refine v_letr (fun r38 => ?_)
                refine zr_iload (eX11_copy 57 rfl) rfl ?_
                refine zr_iload (eX11_copy 58 rfl) rfl ?_
                refine v_nn (fun a39 ea39 => ?_)
                subst ea39
                refine v_nn (fun a40 ea40 => ?_)
                subst ea40
                refine zr_copyI (e' := 0) (f := 0) zac_RX11_313 ⟨Nat.le_of_ble_eq_true rfl, zRnat rfl⟩ (Nat.le_of_ble_eq_true rfl) (eX11_copy 59 rfl) ?_
                refine v_leth (fun h4 => ?_)
                refine zr_iload (eX11_copy 60 rfl) rfl ?_
                exact zr_iret rfl rfl (eX11_copy 61 rfl)
              · exact v_drop [true, false, false, false, false, false, false, false] rfl (hk35)
          · refine zr_aload_n (r := (some a0)) (eX11_copy 34 rfl) rfl rfl ?_
            refine zr_iconst (eX11_copy 35 rfl) zk_iconst_2 ?_
            refine zr_invV_I (as := [(.int 2, 0)]) (cX11_faulted_ok l h1 a0 2) rfl rfl ⟨by decide, by decide, by decide⟩ zcd_X11_faulted rfl ⟨zw_590, zw_592, zw_5, zw_57⟩ ⟨Nat.le_of_ble_eq_true rfl, Nat.le_of_ble_eq_true rfl⟩ rfl (Nat.le_of_ble_eq_true rfl) (eX11_copy 36 rfl) (fun x41 h5 => ?_)
            exact zr_iret rfl rfl (eX11_copy 37 rfl)
    · refine zr_iconst (eX11_copy 9 rfl) zk_iconst_m1 ?_
      exact zr_iret rfl rfl (eX11_copy 10 rfl)
def gX11_tell_J1 : Int32 → Zh → Option (Int32 × Zh) :=
  fun (x24 : Int32) (h1 : Zh) => (some (x24, h1))
def gX11_tell (h : Zh) (a0 : Nat) (x1 : Int32) : Option (Int32 × Zh) :=
  zbr (gX11_weightsAt h a0 x1) (fun r21 => (zcs r21 ((some ((-1), h))) (fun a22 => zlt (zR h a0 3) (fun r23 => zjn gX11_tell_J1 (fun (k25 : Int32 → Zh → Option (Int32 × Zh)) =>
  zdp h a22 (zbI (gX4_telling h a22 r23) (fun b hb => k25 b hb)) (zbI (gX10_telling h a22 r23) (fun b hb => k25 b hb)) (zbI (gX7_telling h a22 r23) (fun b hb => k25 b hb)))))))
set_option maxRecDepth 20000 in
theorem cX11_tell_ok (l : Launch) (h : Zh) (a0 : Nat) (x1 : Int32) : Zc l yX11_tell mX11_tell 0 h [(.ref a0, 11), (.int x1, 0)] ((gX11_tell h a0 x1).map zoI) := by
  refine zc_of2 (ls := [some (.ref a0, 11), some (.int x1, 0), none]) (j := 1) (by decide +kernel) rfl rfl (zEn_ca (zEn_ci rfl)) (Nat.le_of_ble_eq_true rfl) rfl ?_
  unfold gX11_tell
  refine zr_aload_n (r := (some a0)) (eX11_tell 0 rfl) rfl rfl ?_
  refine zr_iload_n (eX11_tell 1 rfl) rfl rfl ?_
  refine zr_invV_r (as := [(.int x1, 0)]) (cX11_weightsAt_ok l h a0 x1) rfl rfl ⟨by decide, by decide, by decide⟩ zcd_X11_weightsAt rfl ⟨zw_598, zw_600, zw_6, zw_57⟩ ⟨Nat.le_of_ble_eq_true rfl, Nat.le_of_ble_eq_true rfl⟩ rfl (Nat.le_of_ble_eq_true rfl) (eX11_tell 2 rfl) (fun r21 => ?_)
  refine zr_astore_n (r := r21) (ls2 := [some (.ref a0, 11), some (.int x1, 0), some (va_rf r21, 4)]) (eX11_tell 3 rfl) rfl (Nat.le_of_ble_eq_true rfl) rfl ?_
  refine zr_aload_n (r := r21) (eX11_tell 4 rfl) rfl rfl ?_
  refine zr_nonnull2 (eX11_tell 5 rfl) (t := 14) (by decide) (fun ea22 => ?_) (fun a22 ea22 => ?_)
  · subst ea22
    refine zr_iconst (eX11_tell 6 rfl) zk_iconst_m1 ?_
    refine zr_goto (eX11_tell 7 rfl) (t := 22) (by decide) ?_
    exact zr_iret rfl rfl (eX11_tell 12 rfl)
  · subst ea22
    refine zr_aload_n (r := (some a22)) (eX11_tell 8 rfl) rfl rfl ?_
    refine zr_aload_n (r := (some a0)) (eX11_tell 9 rfl) rfl rfl ?_
    refine zr_getR2 zf_RX11_40 (τ2 := 9) rfl (eX11_tell 10 rfl) ?_
    refine v_letr (fun r23 => ?_)
    refine v_jn (fun (k25 : Int32 → Zh → Option (Int32 × Zh)) => ∀ (x24 : Int32) (h1 : Zh), V l mX11_tell (zN h) (zS h) 0 zoI 22 [some (.ref a0, 11), some (.int x1, 0), some (.ref a22, 4)] [(.int x24, 0)] h1 (k25 x24 h1)) ?_ ?_
    · intro x24 h1
      unfold gX11_tell_J1
      exact zr_iret rfl rfl (eX11_tell 12 rfl)
    intro k25 hk25
    refine zr_dsp (fun qk => ?_) (fun qk => ?_) (fun qk => ?_)
    · exact zr_invU_I (x := yX4_telling) (owner := RX4) (n := 1) (as := [(va_rf r23, 9)]) qk (cX4_telling_ok l h a22 r23) rfl rfl (by decide) zw_1021 ⟨by decide, by decide, by decide +kernel⟩ ⟨zw_997, zw_1000, zw_998, zw_999, zw_998, zw_68⟩ zw_1021 ⟨Nat.le_of_ble_eq_true rfl, Nat.le_of_ble_eq_true rfl⟩ rfl (Nat.le_of_ble_eq_true rfl) (eX11_tell 11 rfl) (fun b hb => hk25 b hb)
    · refine zr_cast2 [(va_rf r23, 9), (.ref a22, 10)] rfl (fun t => (zTo_cons t.hd (zTo_cons (zTok_k qk (by decide) t.tl.hd) t.tl.tl))) ?_
      exact zr_invU_I (x := yX4_telling) (owner := RX4) (n := 1) (as := [(va_rf r23, 9)]) qk (cX10_telling_ok l h a22 r23) rfl rfl (by decide) zw_1010 ⟨by decide, by decide, by decide +kernel⟩ ⟨zw_997, zw_1000, zw_998, zw_1020, zw_1009, zw_69⟩ zw_1021 ⟨Nat.le_of_ble_eq_true rfl, Nat.le_of_ble_eq_true rfl⟩ rfl (Nat.le_of_ble_eq_true rfl) (eX11_tell 11 rfl) (fun b hb => hk25 b hb)
    · refine zr_cast2 [(va_rf r23, 9), (.ref a22, 7)] rfl (fun t => (zTo_cons t.hd (zTo_cons (zTok_k qk (by decide) t.tl.hd) t.tl.tl))) ?_
      exact zr_invU_I (x := yX4_telling) (owner := RX4) (n := 1) (as := [(va_rf r23, 9)]) qk (cX7_telling_ok l h a22 r23) rfl rfl (by decide) zw_1003 ⟨by decide, by decide, by decide +kernel⟩ ⟨zw_997, zw_1000, zw_998, zw_1001, zw_1002, zw_70⟩ zw_1021 ⟨Nat.le_of_ble_eq_true rfl, Nat.le_of_ble_eq_true rfl⟩ rfl (Nat.le_of_ble_eq_true rfl) (eX11_tell 11 rfl) (fun b hb => hk25 b hb)
def gX11_name_J1 : Int32 → Zh → Option (Int32 × Zh) :=
  fun (x24 : Int32) (h1 : Zh) => (some (x24, h1))
def gX11_name (h : Zh) (a0 : Nat) (x1 : Int32) : Option (Int32 × Zh) :=
  zbr (gX11_weightsAt h a0 x1) (fun r21 => (zcs r21 ((some ((-1), h))) (fun a22 => zlt (zR h a0 3) (fun r23 => zjn gX11_name_J1 (fun (k25 : Int32 → Zh → Option (Int32 × Zh)) =>
  zdp h a22 (zbI (gX4_naming h a22 r23) (fun b hb => k25 b hb)) (zbI (gX4_naming h a22 r23) (fun b hb => k25 b hb)) (zbI (gX7_naming h a22 r23) (fun b hb => k25 b hb)))))))
set_option maxRecDepth 20000 in
theorem cX11_name_ok (l : Launch) (h : Zh) (a0 : Nat) (x1 : Int32) : Zc l yX11_name mX11_name 0 h [(.ref a0, 11), (.int x1, 0)] ((gX11_name h a0 x1).map zoI) := by
  refine zc_of2 (ls := [some (.ref a0, 11), some (.int x1, 0), none]) (j := 1) (by decide +kernel) rfl rfl (zEn_ca (zEn_ci rfl)) (Nat.le_of_ble_eq_true rfl) rfl ?_
  unfold gX11_name
  refine zr_aload_n (r := (some a0)) (eX11_name 0 rfl) rfl rfl ?_
  refine zr_iload_n (eX11_name 1 rfl) rfl rfl ?_
  refine zr_invV_r (as := [(.int x1, 0)]) (cX11_weightsAt_ok l h a0 x1) rfl rfl ⟨by decide, by decide, by decide⟩ zcd_X11_weightsAt rfl ⟨zw_598, zw_600, zw_6, zw_57⟩ ⟨Nat.le_of_ble_eq_true rfl, Nat.le_of_ble_eq_true rfl⟩ rfl (Nat.le_of_ble_eq_true rfl) (eX11_name 2 rfl) (fun r21 => ?_)
  refine zr_astore_n (r := r21) (ls2 := [some (.ref a0, 11), some (.int x1, 0), some (va_rf r21, 4)]) (eX11_name 3 rfl) rfl (Nat.le_of_ble_eq_true rfl) rfl ?_
  refine zr_aload_n (r := r21) (eX11_name 4 rfl) rfl rfl ?_
  refine zr_nonnull2 (eX11_name 5 rfl) (t := 14) (by decide) (fun ea22 => ?_) (fun a22 ea22 => ?_)
  · subst ea22
    refine zr_iconst (eX11_name 6 rfl) zk_iconst_m1 ?_
    refine zr_goto (eX11_name 7 rfl) (t := 22) (by decide) ?_
    exact zr_iret rfl rfl (eX11_name 12 rfl)
  · subst ea22
    refine zr_aload_n (r := (some a22)) (eX11_name 8 rfl) rfl rfl ?_
    refine zr_aload_n (r := (some a0)) (eX11_name 9 rfl) rfl rfl ?_
    refine zr_getR2 zf_RX11_40 (τ2 := 9) rfl (eX11_name 10 rfl) ?_
    refine v_letr (fun r23 => ?_)
    refine v_jn (fun (k25 : Int32 → Zh → Option (Int32 × Zh)) => ∀ (x24 : Int32) (h1 : Zh), V l mX11_name (zN h) (zS h) 0 zoI 22 [some (.ref a0, 11), some (.int x1, 0), some (.ref a22, 4)] [(.int x24, 0)] h1 (k25 x24 h1)) ?_ ?_
    · intro x24 h1
      unfold gX11_name_J1
      exact zr_iret rfl rfl (eX11_name 12 rfl)
    intro k25 hk25
    refine zr_dsp (fun qk => ?_) (fun qk => ?_) (fun qk => ?_)
    · exact zr_invU_I (x := yX4_naming) (owner := RX4) (n := 1) (as := [(va_rf r23, 9)]) qk (cX4_naming_ok l h a22 r23) rfl rfl (by decide) zw_1035 ⟨by decide, by decide, by decide +kernel⟩ ⟨zw_1027, zw_1030, zw_1028, zw_1029, zw_1028, zw_68⟩ zw_1035 ⟨Nat.le_of_ble_eq_true rfl, Nat.le_of_ble_eq_true rfl⟩ rfl (Nat.le_of_ble_eq_true rfl) (eX11_name 11 rfl) (fun b hb => hk25 b hb)
    · exact zr_invU_I (x := yX4_naming) (owner := RX4) (n := 1) (as := [(va_rf r23, 9)]) qk (cX4_naming_ok l h a22 r23) rfl rfl (by decide) zw_1035 ⟨by decide, by decide, by decide +kernel⟩ ⟨zw_1027, zw_1030, zw_1028, zw_1034, zw_1028, zw_68⟩ zw_1035 ⟨Nat.le_of_ble_eq_true rfl, Nat.le_of_ble_eq_true rfl⟩ rfl (Nat.le_of_ble_eq_true rfl) (eX11_name 11 rfl) (fun b hb => hk25 b hb)
    · refine zr_cast2 [(va_rf r23, 9), (.ref a22, 7)] rfl (fun t => (zTo_cons t.hd (zTo_cons (zTok_k qk (by decide) t.tl.hd) t.tl.tl))) ?_
      exact zr_invU_I (x := yX4_naming) (owner := RX4) (n := 1) (as := [(va_rf r23, 9)]) qk (cX7_naming_ok l h a22 r23) rfl rfl (by decide) zw_1033 ⟨by decide, by decide, by decide +kernel⟩ ⟨zw_1027, zw_1030, zw_1028, zw_1031, zw_1032, zw_70⟩ zw_1035 ⟨Nat.le_of_ble_eq_true rfl, Nat.le_of_ble_eq_true rfl⟩ rfl (Nat.le_of_ble_eq_true rfl) (eX11_name 11 rfl) (fun b hb => hk25 b hb)
def gX11_as_J1 (a0 : Nat) (h1 : Zh) : Int32 → Option (Int32 × Zh) :=
  fun (x24 : Int32) => (if (x24 : Int32) = 0 then zbI (gX11_faulted h1 a0 2) (fun x25 h2 => (some (x25, h2)))
  else (some (1, h1)))
def gX11_as_J2 (k26 : Int32 → Option (Int32 × Zh)) : Option (Int32 × Zh) :=
  k26 1
def gX11_as_J3 (k26 : Int32 → Option (Int32 × Zh)) : Option (Int32 × Zh) :=
  k26 0
def gX11_as_J4 (x2 : Int32) (h1 : Zh) (a22 : Nat) (k26 : Int32 → Option (Int32 × Zh)) (k27 : Option (Int32 × Zh)) : Option (Int32 × Zh) :=
  zjn (gX11_as_J3 k26) (fun (k28 : Option (Int32 × Zh)) =>
  (if (x2 : Int32) = 2 then (if ((zio h1 (some a22) [7]) : Int32) = 0 then k28
  else k27)
  else k28))
def gX11_as (h : Zh) (a0 : Nat) (x1 : Int32) (x2 : Int32) : Option (Int32 × Zh) :=
  zlt (zsI h a0 5 0) (fun (h1 : Zh) => zbr (gX11_weightsAt h1 a0 x1) (fun r21 => (zcs r21 ((some ((-1), h1))) (fun a22 => zbi (gX11_noKind x2) (fun x23 => (if (x23 : Int32) = 0 then zjn (gX11_as_J1 a0 h1) (fun (k26 : Int32 → Option (Int32 × Zh)) =>
  zjn (gX11_as_J2 k26) (fun (k27 : Option (Int32 × Zh)) =>
  (if (x2 : Int32) = 0 then k27
  else zjn (gX11_as_J4 x2 h1 a22 k26 k27) (fun (k29 : Option (Int32 × Zh)) =>
  (if (x2 : Int32) = 1 then (if ((zio h1 (some a22) [10, 7]) : Int32) = 0 then k29
  else k27)
  else k29)))))
  else (some ((-2), h1))))))))
set_option maxRecDepth 20000 in
theorem cX11_as_ok (l : Launch) (h : Zh) (a0 : Nat) (x1 : Int32) (x2 : Int32) : Zc l yX11_as mX11_as 0 h [(.ref a0, 11), (.int x1, 0), (.int x2, 0)] ((gX11_as h a0 x1 x2).map zoI) := by
  refine zc_of2 (ls := [some (.ref a0, 11), some (.int x1, 0), some (.int x2, 0), none, none]) (j := 2) (by decide +kernel) rfl rfl (zEn_ca (zEn_ci (zEn_ci rfl))) (Nat.le_of_ble_eq_true rfl) rfl ?_
  unfold gX11_as
  refine zr_aload_n (r := (some a0)) (eX11_as 0 rfl) rfl rfl ?_
  refine zr_iconst (eX11_as 1 rfl) zk_iconst_0 ?_
  refine zr_putI zf_RX11_48 rfl (Or.inl rfl) (eX11_as 2 rfl) ?_
  refine v_leth (fun h1 => ?_)
  refine zr_aload_n (r := (some a0)) (eX11_as 3 rfl) rfl rfl ?_
  refine zr_iload_n (eX11_as 4 rfl) rfl rfl ?_
  refine zr_invV_r (as := [(.int x1, 0)]) (cX11_weightsAt_ok l h1 a0 x1) rfl rfl ⟨by decide, by decide, by decide⟩ zcd_X11_weightsAt rfl ⟨zw_598, zw_600, zw_6, zw_57⟩ ⟨Nat.le_of_ble_eq_true rfl, Nat.le_of_ble_eq_true rfl⟩ rfl (Nat.le_of_ble_eq_true rfl) (eX11_as 5 rfl) (fun r21 => ?_)
  refine zr_astore_n (r := r21) (ls2 := [some (.ref a0, 11), some (.int x1, 0), some (.int x2, 0), some (va_rf r21, 4), none]) (eX11_as 6 rfl) rfl (Nat.le_of_ble_eq_true rfl) rfl ?_
  refine zr_aload_n (r := r21) (eX11_as 7 rfl) rfl rfl ?_
  refine zr_nonnull2 (eX11_as 8 rfl) (t := 17) (by decide) (fun ea22 => ?_) (fun a22 ea22 => ?_)
  · subst ea22
    refine zr_iconst (eX11_as 9 rfl) zk_iconst_m1 ?_
    exact zr_iret rfl rfl (eX11_as 10 rfl)
  · subst ea22
    refine zr_iload_n (eX11_as 11 rfl) rfl rfl ?_
    refine zr_invS_i (as := [(.int x2, 0)]) (cX11_noKind_ok l h1 x2) rfl zcd_X11_noKind ⟨zw_520, zw_521, zw_57⟩ ⟨Nat.le_of_ble_eq_true rfl, Nat.le_of_ble_eq_true rfl⟩ rfl (Nat.le_of_ble_eq_true rfl) (eX11_as 12 rfl) (fun x23 => ?_)
    refine zr_if_eq (eX11_as 13 rfl) (t := 27) (by decide) ?_ ?_
    · refine zr_iload_n (eX11_as 16 rfl) rfl rfl ?_
      refine v_jn (fun (k26 : Int32 → Option (Int32 × Zh)) => ∀ (x24 : Int32), V l mX11_as (zN h) (zS h) 0 zoI 60 [some (.ref a0, 11), none, none, none, none] [(.int x24, 0)] h1 (k26 x24)) ?_ ?_
      · intro x24
        unfold gX11_as_J1
        refine zr_istore (ls2 := [some (.ref a0, 11), none, none, none, some (.int x24, 0)]) (eX11_as 33 rfl) (Nat.le_of_ble_eq_true rfl) rfl ?_
        refine zr_iload (eX11_as 34 rfl) rfl ?_
        refine zr_if_eq (eX11_as 35 rfl) (t := 71) (by decide) ?_ ?_
        · refine zr_aload_n (r := (some a0)) (eX11_as 38 rfl) rfl rfl ?_
          refine zr_iconst (eX11_as 39 rfl) zk_iconst_2 ?_
          refine zr_invV_I (as := [(.int 2, 0)]) (cX11_faulted_ok l h1 a0 2) rfl rfl ⟨by decide, by decide, by decide⟩ zcd_X11_faulted rfl ⟨zw_590, zw_592, zw_5, zw_57⟩ ⟨Nat.le_of_ble_eq_true rfl, Nat.le_of_ble_eq_true rfl⟩ rfl (Nat.le_of_ble_eq_true rfl) (eX11_as 40 rfl) (fun x25 h2 => ?_)
          exact zr_iret rfl rfl (eX11_as 41 rfl)
        · refine zr_iconst (eX11_as 36 rfl) zk_iconst_1 ?_
          refine zr_goto (eX11_as 37 rfl) (t := 76) (by decide) ?_
          exact zr_iret rfl rfl (eX11_as 41 rfl)
      intro k26 hk26
      refine v_jn (fun (k27 : Option (Int32 × Zh)) => V l mX11_as (zN h) (zS h) 0 zoI 55 [some (.ref a0, 11), none, none, none, none] [] h1 k27) ?_ ?_
      · skip
        unfold gX11_as_J2
        refine zr_iconst (eX11_as 30 rfl) zk_iconst_1 ?_
        refine zr_goto (eX11_as 31 rfl) (t := 60) (by decide) ?_
        exact v_drop [true, false, false, false, false] rfl (hk26 1)
      intro k27 hk27
      refine zr_if_eq (eX11_as 17 rfl) (t := 55) (by decide) ?_ ?_
      · exact v_drop [true, false, false, false, false] rfl (hk27)
      · refine zr_iload_n (eX11_as 18 rfl) rfl rfl ?_
        refine zr_iconst (eX11_as 19 rfl) zk_iconst_1 ?_
        refine v_jn (fun (k29 : Option (Int32 × Zh)) => V l mX11_as (zN h) (zS h) 0 zoI 43 [some (.ref a0, 11), none, some (.int x2, 0), some (.ref a22, 4), none] [] h1 k29) ?_ ?_
        · skip
          unfold gX11_as_J4
          refine zr_iload_n (eX11_as 24 rfl) rfl rfl ?_
          refine zr_iconst (eX11_as 25 rfl) zk_iconst_2 ?_
          refine v_jn (fun (k28 : Option (Int32 × Zh)) => V l mX11_as (zN h) (zS h) 0 zoI 59 [some (.ref a0, 11), none, none, none, none] [] h1 k28) ?_ ?_
          · skip
            unfold gX11_as_J3
            refine zr_iconst (eX11_as 32 rfl) zk_iconst_0 ?_
            exact v_drop [true, false, false, false, false] rfl (hk26 0)
          intro k28 hk28
          refine zr_icmp_ne (eX11_as 26 rfl) (t := 59) (by decide) ?_ ?_
          · exact v_drop [true, false, false, false, false] rfl (hk28)
          · refine zr_aload_n (r := (some a22)) (eX11_as 27 rfl) rfl rfl ?_
            refine zr_instS (r := (some a22)) zw_562 (eX11_as 28 rfl) ?_
            refine zr_if_eq (eX11_as 29 rfl) (t := 59) (by decide) ?_ ?_
            · exact v_drop [true, false, false, false, false] rfl (hk28)
            · exact v_drop [true, false, false, false, false] rfl (hk27)
        intro k29 hk29
        refine zr_icmp_ne (eX11_as 20 rfl) (t := 43) (by decide) ?_ ?_
        · exact v_drop [true, false, true, true, false] rfl (hk29)
        · refine zr_aload_n (r := (some a22)) (eX11_as 21 rfl) rfl rfl ?_
          refine zr_instT (r := (some a22)) zw_551 (eX11_as 22 rfl) ?_
          refine zr_if_ne (eX11_as 23 rfl) (t := 55) (by decide) ?_ ?_
          · exact v_drop [true, false, false, false, false] rfl (hk27)
          · exact v_drop [true, false, true, true, false] rfl (hk29)
    · refine zr_bipush (eX11_as 14 rfl) zk_bipush_m2 ?_
      exact zr_iret rfl rfl (eX11_as 15 rfl)
def gX11_trace (h : Zh) (a0 : Nat) : Option (Int32) :=
  zlt (zR h a0 3) (fun r21 => Option.bind r21 (fun a22 => (some (zI h a22 0))))
set_option maxRecDepth 20000 in
theorem cX11_trace_ok (l : Launch) (h : Zh) (a0 : Nat) : Zc l yX11_trace mX11_trace 0 h [(.ref a0, 11)] ((gX11_trace h a0).map (zoi h)) := by
  refine zc_of2 (ls := [some (.ref a0, 11)]) (j := 0) (by decide +kernel) rfl rfl (zEn_ca rfl) (Nat.le_of_ble_eq_true rfl) rfl ?_
  unfold gX11_trace
  refine zr_aload_n (r := (some a0)) (eX11_trace 0 rfl) rfl rfl ?_
  refine zr_getR2 zf_RX11_40 (τ2 := 9) rfl (eX11_trace 1 rfl) ?_
  refine v_letr (fun r21 => ?_)
  refine v_nn (fun a22 ea22 => ?_)
  subst ea22
  refine zr_getI zf_RX11_330 ⟨by decide, by decide⟩ (eX11_trace 2 rfl) ?_
  exact zr_iret rfl rfl (eX11_trace 3 rfl)
def gX11_fault (h : Zh) (a0 : Nat) : Option (Int32) :=
  (some (zI h a0 5))
set_option maxRecDepth 20000 in
theorem cX11_fault_ok (l : Launch) (h : Zh) (a0 : Nat) : Zc l yX11_fault mX11_fault 0 h [(.ref a0, 11)] ((gX11_fault h a0).map (zoi h)) := by
  refine zc_of2 (ls := [some (.ref a0, 11)]) (j := 0) (by decide +kernel) rfl rfl (zEn_ca rfl) (Nat.le_of_ble_eq_true rfl) rfl ?_
  unfold gX11_fault
  refine zr_aload_n (r := (some a0)) (eX11_fault 0 rfl) rfl rfl ?_
  refine zr_getI zf_RX11_48 ⟨by decide, by decide⟩ (eX11_fault 1 rfl) ?_
  exact zr_iret rfl rfl (eX11_fault 2 rfl)
def gX11_many (h : Zh) (a0 : Nat) (x1 : Int32) : Option (Int32) :=
  zlt (zR h a0 0) (fun r21 => Option.bind r21 (fun a22 => zbr (gX2_chainNow h a22) (fun r23 => (if (x1 : Int32) = 0 then Option.bind r23 (fun a24 => (some (zI h a24 0)))
  else (if (x1 : Int32) = 1 then Option.bind r23 (fun a25 => (if ((zI h a25 1) : Int32) = 0 then (some 0)
  else (some 1)))
  else (if (x1 : Int32) = 2 then Option.bind r23 (fun a26 => (some (zI h a26 2)))
  else (if (x1 : Int32) = 3 then Option.bind r23 (fun a27 => (some (100 + (zI h a27 3))))
  else (if (x1 : Int32) = 4 then Option.bind r23 (fun a28 => (some (zI h a28 5)))
  else (if (x1 : Int32) = 5 then (some (zI h a0 4))
  else (if (x1 : Int32) = 6 then zlt (zR h a0 0) (fun r29 => Option.bind r29 (fun a30 => zbi (gX2_undoable h a30) (fun x31 => (some x31))))
  else (if (x1 : Int32) = 7 then zlt (zR h a0 0) (fun r32 => Option.bind r32 (fun a33 => zbi (gX2_redoable h a33) (fun x34 => (some x34))))
  else (some (-2)))))))))))))
set_option maxRecDepth 20000 in
theorem cX11_many_ok (l : Launch) (h : Zh) (a0 : Nat) (x1 : Int32) : Zc l yX11_many mX11_many 0 h [(.ref a0, 11), (.int x1, 0)] ((gX11_many h a0 x1).map (zoi h)) := by
  refine zc_of2 (ls := [some (.ref a0, 11), some (.int x1, 0), none]) (j := 1) (by decide +kernel) rfl rfl (zEn_ca (zEn_ci rfl)) (Nat.le_of_ble_eq_true rfl) rfl ?_
  unfold gX11_many
  refine zr_aload_n (r := (some a0)) (eX11_many 0 rfl) rfl rfl ?_
  refine zr_getR2 zf_RX11_19 (τ2 := 2) rfl (eX11_many 1 rfl) ?_
  refine v_letr (fun r21 => ?_)
  refine v_nn (fun a22 ea22 => ?_)
  subst ea22
  refine zr_invV_r (as := []) (cX2_chainNow_ok l h a22) rfl rfl ⟨by decide, by decide, by decide⟩ zcd_X2_chainNow rfl ⟨zw_231, zw_232, zw_233, zw_58⟩ ⟨Nat.le_of_ble_eq_true rfl, Nat.le_of_ble_eq_true rfl⟩ rfl (Nat.le_of_ble_eq_true rfl) (eX11_many 2 rfl) (fun r23 => ?_)
  refine zr_astore_n (r := r23) (ls2 := [some (.ref a0, 11), some (.int x1, 0), some (va_rf r23, 0)]) (eX11_many 3 rfl) rfl (Nat.le_of_ble_eq_true rfl) rfl ?_
  refine zr_iload_n (eX11_many 4 rfl) rfl rfl ?_
  refine zr_tab (c := 0) (t := 56) (off := 47) (eX11_many 5 rfl) (by decide) (by decide) ?_ (fun q0 => ?_)
  · refine zr_aload_n (r := r23) (eX11_many 6 rfl) rfl rfl ?_
    refine v_nn (fun a24 ea24 => ?_)
    subst ea24
    refine zr_getI zf_RX11_73 ⟨by decide, by decide⟩ (eX11_many 7 rfl) ?_
    exact zr_iret rfl rfl (eX11_many 8 rfl)
  refine zr_tab (c := 1) (t := 61) (off := 52) (eX11_many 5 rfl) (by decide) (by decide) ?_ (fun q1 => ?_)
  · refine zr_aload_n (r := r23) (eX11_many 9 rfl) rfl rfl ?_
    refine v_nn (fun a25 ea25 => ?_)
    subst ea25
    refine zr_getI zf_RX11_333 ⟨by decide, by decide⟩ (eX11_many 10 rfl) ?_
    refine zr_if_eq (eX11_many 11 rfl) (t := 72) (by decide) ?_ ?_
    · refine zr_iconst (eX11_many 14 rfl) zk_iconst_0 ?_
      exact zr_iret rfl rfl (eX11_many 15 rfl)
    · refine zr_iconst (eX11_many 12 rfl) zk_iconst_1 ?_
      refine zr_goto (eX11_many 13 rfl) (t := 73) (by decide) ?_
      exact zr_iret rfl rfl (eX11_many 15 rfl)
  refine zr_tab (c := 2) (t := 74) (off := 65) (eX11_many 5 rfl) (by decide) (by decide) ?_ (fun q2 => ?_)
  · refine zr_aload_n (r := r23) (eX11_many 16 rfl) rfl rfl ?_
    refine v_nn (fun a26 ea26 => ?_)
    subst ea26
    refine zr_getI zf_RX11_337 ⟨by decide, by decide⟩ (eX11_many 17 rfl) ?_
    exact zr_iret rfl rfl (eX11_many 18 rfl)
  refine zr_tab (c := 3) (t := 79) (off := 70) (eX11_many 5 rfl) (by decide) (by decide) ?_ (fun q3 => ?_)
  · refine zr_bipush (eX11_many 19 rfl) zk_bipush_100 ?_
    refine zr_aload_n (r := r23) (eX11_many 20 rfl) rfl rfl ?_
    refine v_nn (fun a27 ea27 => ?_)
    subst ea27
    refine zr_getI zf_RX11_340 ⟨by decide, by decide⟩ (eX11_many 21 rfl) ?_
    refine zr_iadd (eX11_many 22 rfl) ?_
    exact zr_iret rfl rfl (eX11_many 23 rfl)
  refine zr_tab (c := 4) (t := 87) (off := 78) (eX11_many 5 rfl) (by decide) (by decide) ?_ (fun q4 => ?_)
  · refine zr_aload_n (r := r23) (eX11_many 24 rfl) rfl rfl ?_
    refine v_nn (fun a28 ea28 => ?_)
    subst ea28
    refine zr_getI zf_RX11_343 ⟨by decide, by decide⟩ (eX11_many 25 rfl) ?_
    exact zr_iret rfl rfl (eX11_many 26 rfl)
  refine zr_tab (c := 5) (t := 92) (off := 83) (eX11_many 5 rfl) (by decide) (by decide) ?_ (fun q5 => ?_)
  · refine zr_aload_n (r := (some a0)) (eX11_many 27 rfl) rfl rfl ?_
    refine zr_getI zf_RX11_44 ⟨by decide, by decide⟩ (eX11_many 28 rfl) ?_
    exact zr_iret rfl rfl (eX11_many 29 rfl)
  refine zr_tab (c := 6) (t := 97) (off := 88) (eX11_many 5 rfl) (by decide) (by decide) ?_ (fun q6 => ?_)
  · refine zr_aload_n (r := (some a0)) (eX11_many 30 rfl) rfl rfl ?_
    refine zr_getR2 zf_RX11_19 (τ2 := 2) rfl (eX11_many 31 rfl) ?_
    refine v_letr (fun r29 => ?_)
    refine v_nn (fun a30 ea30 => ?_)
    subst ea30
    refine zr_invV_i (as := []) (cX2_undoable_ok l h a30) rfl rfl ⟨by decide, by decide, by decide⟩ zcd_X2_undoable rfl ⟨zw_942, zw_943, zw_944, zw_58⟩ ⟨Nat.le_of_ble_eq_true rfl, Nat.le_of_ble_eq_true rfl⟩ rfl (Nat.le_of_ble_eq_true rfl) (eX11_many 32 rfl) (fun x31 => ?_)
    exact zr_iret rfl rfl (eX11_many 33 rfl)
  refine zr_tab (c := 7) (t := 105) (off := 96) (eX11_many 5 rfl) (by decide) (by decide) ?_ (fun q7 => ?_)
  · refine zr_aload_n (r := (some a0)) (eX11_many 34 rfl) rfl rfl ?_
    refine zr_getR2 zf_RX11_19 (τ2 := 2) rfl (eX11_many 35 rfl) ?_
    refine v_letr (fun r32 => ?_)
    refine v_nn (fun a33 ea33 => ?_)
    subst ea33
    refine zr_invV_i (as := []) (cX2_redoable_ok l h a33) rfl rfl ⟨by decide, by decide, by decide⟩ zcd_X2_redoable rfl ⟨zw_1052, zw_1053, zw_1054, zw_58⟩ ⟨Nat.le_of_ble_eq_true rfl, Nat.le_of_ble_eq_true rfl⟩ rfl (Nat.le_of_ble_eq_true rfl) (eX11_many 36 rfl) (fun x34 => ?_)
    exact zr_iret rfl rfl (eX11_many 37 rfl)
  have q0' := zne (c := 0) (n := 0) (by decide) q0
  have q1' := zne (c := 1) (n := 1) (by decide) q1
  have q2' := zne (c := 2) (n := 2) (by decide) q2
  have q3' := zne (c := 3) (n := 3) (by decide) q3
  have q4' := zne (c := 4) (n := 4) (by decide) q4
  have q5' := zne (c := 5) (n := 5) (by decide) q5
  have q6' := zne (c := 6) (n := 6) (by decide) q6
  have q7' := zne (c := 7) (n := 7) (by decide) q7
  refine zr_tabD (t := 113) (eX11_many 5 rfl) (by omega) (by decide) ?_
  refine zr_bipush (eX11_many 38 rfl) zk_bipush_m2 ?_
  exact zr_iret rfl rfl (eX11_many 39 rfl)
