def gX5_fillTable_J1 (x22 : Int32) (k23 : Int32 → Zh → Option (Zh)) : Zh → Option (Zh) :=
  fun (h3 : Zh) => k23 (x22 + 1) h3
def gX5_fillTable_J2 (a0 : Nat) (x29 : Int32) (x30 : Int32) (x31 : Int32) (k32 : Int32 → Int32 → Int32 → Zh → Option (Zh)) : Zh → Option (Zh) :=
  fun (h5 : Zh) => zlt (zR h5 a0 10) (fun r33 => Option.bind r33 (fun a34 => zbi (gX0_turn h5 a34 x29) (fun x35 => zlt (x30 * (zI h5 a0 12)) (fun x36 => k32 x35 x36 (x31 + 1) h5))))
def gX5_fillTable_L3 (a0 : Nat) (x22 : Int32) (x29 : Int32) (x30 : Int32) (k37 : Zh → Option (Zh)) : (Int32 → Zh → Option (Zh)) → Int32 → Zh → Option (Zh) :=
  fun (k39 : Int32 → Zh → Option (Zh)) (x38 : Int32) (h6 : Zh) => (if ((zI h6 a0 13) : Int32) ≤ x38 then k37 h6
  else zlt (zR h6 a0 2) (fun r40 => zlt ((x38 * 10) + x22) (fun x41 => Option.bind r40 (fun a42 => zg (zin x41 (zL h6 a42)) (zlt (zR h6 a0 10) (fun r43 => zlt (zR h6 a0 0) (fun r44 => Option.bind r44 (fun a45 => zg (zin x38 (zL h6 a45)) (Option.bind r43 (fun a46 => zbi (gX0_hop h6 a46 x29 (zI h6 a45 (zx x38))) (fun x47 => zg (zin x41 (zL h6 a42)) (zlt (zsJ h6 a42 (zx x41) ((zJ h6 a42 (zx x41)) + (((x30 * x47) : Int32).toInt64))) (fun (h7 : Zh) => k39 (x38 + 1) h7)))))))))))))
def gX5_fillTable_L4 (a0 : Nat) (x22 : Int32) (x27 : Int32) (k28 : Zh → Option (Zh)) : (Int32 → Int32 → Int32 → Zh → Option (Zh)) → Int32 → Int32 → Int32 → Zh → Option (Zh) :=
  fun (k32 : Int32 → Int32 → Int32 → Zh → Option (Zh)) (x29 : Int32) (x30 : Int32) (x31 : Int32) (h4 : Zh) => (if (x27 : Int32) ≤ x31 then k28 h4
  else zjn (gX5_fillTable_J2 a0 x29 x30 x31 k32) (fun (k37 : Zh → Option (Zh)) =>
  zlp (fun (_ : Int32) (_ : Zh) => (none : Option (Zh))) (gX5_fillTable_L3 a0 x22 x29 x30 k37) zFU 0 h4))
def gX5_fillTable_L5 (a0 : Nat) : (Int32 → Zh → Option (Zh)) → Int32 → Zh → Option (Zh) :=
  fun (k23 : Int32 → Zh → Option (Zh)) (x22 : Int32) (h2 : Zh) => (if ((zI h2 a0 13) : Int32) ≤ x22 then some h2
  else zlt (zR h2 a0 0) (fun r24 => Option.bind r24 (fun a25 => zg (zin x22 (zL h2 a25)) (zlt (zI h2 a25 (zx x22)) (fun x26 => zbi (gX5_orbitLength h2 a0 x26) (fun x27 => zjn (gX5_fillTable_J1 x22 k23) (fun (k28 : Zh → Option (Zh)) =>
  zlp (fun (_ : Int32) (_ : Int32) (_ : Int32) (_ : Zh) => (none : Option (Zh))) (gX5_fillTable_L4 a0 x22 x27 k28) zFU x26 1 0 h2)))))))
def gX5_fillTable (h : Zh) (a0 : Nat) : Option (Zh) :=
  zlt (zR h a0 2) (fun r21 => zbV (gJ7_fill_d0a16 h r21 0) (fun h1 => zlp (fun (_ : Int32) (_ : Zh) => (none : Option (Zh))) (gX5_fillTable_L5 a0) zFU 0 h1))
set_option maxRecDepth 20000 in
theorem cX5_fillTable_ok (l : Launch) (h : Zh) (a0 : Nat) : Zc l yX5_fillTable mX5_fillTable 0 h [(.ref a0, 5)] ((gX5_fillTable h a0).map zoV) := by
  refine zc_of2 (ls := [some (.ref a0, 5), none, none, none, none, none, none]) (j := 6) (by decide +kernel) rfl rfl (zEn_ca rfl) (Nat.le_of_ble_eq_true rfl) rfl ?_
  unfold gX5_fillTable
  refine zr_aload_n (r := (some a0)) (eX5_fillTable 0 rfl) rfl rfl ?_
  refine zr_getR2 zf_RX5_18 (τ2 := 21) rfl (eX5_fillTable 1 rfl) ?_
  refine v_letr (fun r21 => ?_)
  refine zr_lconst (eX5_fillTable 2 rfl) zk_lconst_0 ?_
  refine zr_invS_V (as := [(va_rf r21, 21), (.long 0, 0)]) (cJ7_fill_d0a16_ok l h r21 0) rfl zcd_J7_fill_d0a16 ⟨zw_390, zw_391, zw_65⟩ ⟨Nat.le_of_ble_eq_true rfl, Nat.le_of_ble_eq_true rfl⟩ rfl (Nat.le_of_ble_eq_true rfl) (eX5_fillTable 3 rfl) (fun h1 => ?_)
  refine zr_iconst (eX5_fillTable 4 rfl) zk_iconst_0 ?_
  refine zr_istore_n (ls2 := [some (.ref a0, 5), some (.int 0, 0), none, none, none, none, none]) (eX5_fillTable 5 rfl) rfl (Nat.le_of_ble_eq_true rfl) rfl ?_
  refine v_drop [true, true, false, false, false, false, false] rfl ?_
  refine zlp_ind (fun (k23 : Int32 → Zh → Option (Zh)) => ∀ (x22 : Int32) (h2 : Zh), V l mX5_fillTable (zN h) (zS h) 0 zoV 10 [some (.ref a0, 5), some (.int x22, 0), none, none, none, none, none] [] h2 (k23 x22 h2)) ?_ ?_ 0 h1
  · exact fun _ _ => v_none
  intro k23 hk23 x22 h2
  unfold gX5_fillTable_L5
  refine zr_iload_n (eX5_fillTable 6 rfl) rfl rfl ?_
  refine zr_aload_n (r := (some a0)) (eX5_fillTable 7 rfl) rfl rfl ?_
  refine zr_getI zf_RX5_54 ⟨by decide, by decide⟩ (eX5_fillTable 8 rfl) ?_
  refine zr_icmp_ge (eX5_fillTable 9 rfl) (t := 125) (by decide) ?_ ?_
  · exact zr_vret rfl rfl (eX5_fillTable 70 rfl)
  · refine zr_aload_n (r := (some a0)) (eX5_fillTable 10 rfl) rfl rfl ?_
    refine zr_getR2 zf_RX5_9 (τ2 := 20) rfl (eX5_fillTable 11 rfl) ?_
    refine v_letr (fun r24 => ?_)
    refine zr_iload_n (eX5_fillTable 12 rfl) rfl rfl ?_
    refine v_nn (fun a25 ea25 => ?_)
    subst ea25
    refine zr_iald (eX5_fillTable 13 rfl) ?_
    refine v_leti (fun x26 => ?_)
    refine zr_istore_n (ls2 := [some (.ref a0, 5), some (.int x22, 0), some (.int x26, 0), none, none, none, none]) (eX5_fillTable 14 rfl) rfl (Nat.le_of_ble_eq_true rfl) rfl ?_
    refine zr_aload_n (r := (some a0)) (eX5_fillTable 15 rfl) rfl rfl ?_
    refine zr_iload_n (eX5_fillTable 16 rfl) rfl rfl ?_
    refine zr_invV_i (as := [(.int x26, 0)]) (cX5_orbitLength_ok l h2 a0 x26) rfl rfl ⟨by decide, by decide, by decide⟩ zcd_X5_orbitLength rfl ⟨zw_365, zw_366, zw_367, zw_64⟩ ⟨Nat.le_of_ble_eq_true rfl, Nat.le_of_ble_eq_true rfl⟩ rfl (Nat.le_of_ble_eq_true rfl) (eX5_fillTable 17 rfl) (fun x27 => ?_)
    refine zr_istore_n (ls2 := [some (.ref a0, 5), some (.int x22, 0), some (.int x26, 0), some (.int x27, 0), none, none, none]) (eX5_fillTable 18 rfl) rfl (Nat.le_of_ble_eq_true rfl) rfl ?_
    refine zr_iconst (eX5_fillTable 19 rfl) zk_iconst_1 ?_
    refine zr_istore (ls2 := [some (.ref a0, 5), some (.int x22, 0), some (.int x26, 0), some (.int x27, 0), some (.int 1, 0), none, none]) (eX5_fillTable 20 rfl) (Nat.le_of_ble_eq_true rfl) rfl ?_
    refine zr_iconst (eX5_fillTable 21 rfl) zk_iconst_0 ?_
    refine zr_istore (ls2 := [some (.ref a0, 5), some (.int x22, 0), some (.int x26, 0), some (.int x27, 0), some (.int 1, 0), some (.int 0, 0), none]) (eX5_fillTable 22 rfl) (Nat.le_of_ble_eq_true rfl) rfl ?_
    refine v_jn (fun (k28 : Zh → Option (Zh)) => ∀ (h3 : Zh), V l mX5_fillTable (zN h) (zS h) 0 zoV 119 [some (.ref a0, 5), some (.int x22, 0), none, none, none, none, none] [] h3 (k28 h3)) ?_ ?_
    · intro h3
      unfold gX5_fillTable_J1
      refine zr_iinc (ls2 := [some (.ref a0, 5), some (.int (x22 + 1), 0), none, none, none, none, none]) (eX5_fillTable 68 rfl) rfl (Nat.le_of_ble_eq_true rfl) zk_iconst_1 rfl ?_
      refine zr_goto (eX5_fillTable 69 rfl) (t := 10) (by decide) ?_
      exact v_drop [true, true, false, false, false, false, false] rfl (hk23 (x22 + 1) h3)
    intro k28 hk28
    refine v_drop [true, true, true, true, true, true, false] rfl ?_
    refine zlp_ind (fun (k32 : Int32 → Int32 → Int32 → Zh → Option (Zh)) => ∀ (x29 : Int32) (x30 : Int32) (x31 : Int32) (h4 : Zh), V l mX5_fillTable (zN h) (zS h) 0 zoV 37 [some (.ref a0, 5), some (.int x22, 0), some (.int x29, 0), some (.int x27, 0), some (.int x30, 0), some (.int x31, 0), none] [] h4 (k32 x29 x30 x31 h4)) ?_ ?_ x26 1 0 h2
    · exact fun _ _ _ _ => v_none
    intro k32 hk32 x29 x30 x31 h4
    unfold gX5_fillTable_L4
    refine zr_iload (eX5_fillTable 23 rfl) rfl ?_
    refine zr_iload_n (eX5_fillTable 24 rfl) rfl rfl ?_
    refine zr_icmp_ge (eX5_fillTable 25 rfl) (t := 119) (by decide) ?_ ?_
    · exact v_drop [true, true, false, false, false, false, false] rfl (hk28 h4)
    · refine zr_iconst (eX5_fillTable 26 rfl) zk_iconst_0 ?_
      refine zr_istore (ls2 := [some (.ref a0, 5), some (.int x22, 0), some (.int x29, 0), some (.int x27, 0), some (.int x30, 0), some (.int x31, 0), some (.int 0, 0)]) (eX5_fillTable 27 rfl) (Nat.le_of_ble_eq_true rfl) rfl ?_
      refine v_jn (fun (k37 : Zh → Option (Zh)) => ∀ (h5 : Zh), V l mX5_fillTable (zN h) (zS h) 0 zoV 95 [some (.ref a0, 5), some (.int x22, 0), some (.int x29, 0), some (.int x27, 0), some (.int x30, 0), some (.int x31, 0), none] [] h5 (k37 h5)) ?_ ?_
      · intro h5
        unfold gX5_fillTable_J2
        refine zr_aload_n (r := (some a0)) (eX5_fillTable 56 rfl) rfl rfl ?_
        refine zr_getR2 zf_RX5_43 (τ2 := 0) rfl (eX5_fillTable 57 rfl) ?_
        refine v_letr (fun r33 => ?_)
        refine zr_iload_n (eX5_fillTable 58 rfl) rfl rfl ?_
        refine v_nn (fun a34 ea34 => ?_)
        subst ea34
        refine zr_invV_i (as := [(.int x29, 0)]) (cX0_turn_ok l h5 a34 x29) rfl rfl ⟨by decide, by decide, by decide⟩ zcd_X0_turn rfl ⟨zw_369, zw_270, zw_271, zw_59⟩ ⟨Nat.le_of_ble_eq_true rfl, Nat.le_of_ble_eq_true rfl⟩ rfl (Nat.le_of_ble_eq_true rfl) (eX5_fillTable 59 rfl) (fun x35 => ?_)
        refine zr_istore_n (ls2 := [some (.ref a0, 5), some (.int x22, 0), some (.int x35, 0), some (.int x27, 0), some (.int x30, 0), some (.int x31, 0), none]) (eX5_fillTable 60 rfl) rfl (Nat.le_of_ble_eq_true rfl) rfl ?_
        refine zr_iload (eX5_fillTable 61 rfl) rfl ?_
        refine zr_aload_n (r := (some a0)) (eX5_fillTable 62 rfl) rfl rfl ?_
        refine zr_getI zf_RX5_51 ⟨by decide, by decide⟩ (eX5_fillTable 63 rfl) ?_
        refine zr_imul (eX5_fillTable 64 rfl) ?_
        refine v_leti (fun x36 => ?_)
        refine zr_istore (ls2 := [some (.ref a0, 5), some (.int x22, 0), some (.int x35, 0), some (.int x27, 0), some (.int x36, 0), some (.int x31, 0), none]) (eX5_fillTable 65 rfl) (Nat.le_of_ble_eq_true rfl) rfl ?_
        refine zr_iinc (ls2 := [some (.ref a0, 5), some (.int x22, 0), some (.int x35, 0), some (.int x27, 0), some (.int x36, 0), some (.int (x31 + 1), 0), none]) (eX5_fillTable 66 rfl) rfl (Nat.le_of_ble_eq_true rfl) zk_iconst_1 rfl ?_
        refine zr_goto (eX5_fillTable 67 rfl) (t := 37) (by decide) ?_
        exact v_drop [true, true, true, true, true, true, false] rfl (hk32 x35 x36 (x31 + 1) h5)
      intro k37 hk37
      refine v_drop [true, true, true, true, true, true, true] rfl ?_
      refine zlp_ind (fun (k39 : Int32 → Zh → Option (Zh)) => ∀ (x38 : Int32) (h6 : Zh), V l mX5_fillTable (zN h) (zS h) 0 zoV 46 [some (.ref a0, 5), some (.int x22, 0), some (.int x29, 0), some (.int x27, 0), some (.int x30, 0), some (.int x31, 0), some (.int x38, 0)] [] h6 (k39 x38 h6)) ?_ ?_ 0 h4
      · exact fun _ _ => v_none
      intro k39 hk39 x38 h6
      unfold gX5_fillTable_L3
      refine zr_iload (eX5_fillTable 28 rfl) rfl ?_
      refine zr_aload_n (r := (some a0)) (eX5_fillTable 29 rfl) rfl rfl ?_
      refine zr_getI zf_RX5_54 ⟨by decide, by decide⟩ (eX5_fillTable 30 rfl) ?_
      refine zr_icmp_ge (eX5_fillTable 31 rfl) (t := 95) (by decide) ?_ ?_
      · exact v_drop [true, true, true, true, true, true, false] rfl (hk37 h6)
      · refine zr_aload_n (r := (some a0)) (eX5_fillTable 32 rfl) rfl rfl ?_
        refine zr_getR2 zf_RX5_18 (τ2 := 21) rfl (eX5_fillTable 33 rfl) ?_
        refine v_letr (fun r40 => ?_)
        refine zr_iload (eX5_fillTable 34 rfl) rfl ?_
        refine zr_bipush (eX5_fillTable 35 rfl) zk_bipush_10 ?_
        refine zr_imul (eX5_fillTable 36 rfl) ?_
        refine zr_iload_n (eX5_fillTable 37 rfl) rfl rfl ?_
        refine zr_iadd (eX5_fillTable 38 rfl) ?_
        refine v_leti (fun x41 => ?_)
        refine v_nn (fun a42 ea42 => ?_)
        subst ea42
        refine zr_dup2 (eX5_fillTable 39 rfl) rfl rfl ?_
        refine zr_lald (eX5_fillTable 40 rfl) ?_
        refine zr_iload (eX5_fillTable 41 rfl) rfl ?_
        refine zr_aload_n (r := (some a0)) (eX5_fillTable 42 rfl) rfl rfl ?_
        refine zr_getR2 zf_RX5_43 (τ2 := 0) rfl (eX5_fillTable 43 rfl) ?_
        refine v_letr (fun r43 => ?_)
        refine zr_iload_n (eX5_fillTable 44 rfl) rfl rfl ?_
        refine zr_aload_n (r := (some a0)) (eX5_fillTable 45 rfl) rfl rfl ?_
        refine zr_getR2 zf_RX5_9 (τ2 := 20) rfl (eX5_fillTable 46 rfl) ?_
        refine v_letr (fun r44 => ?_)
        refine zr_iload (eX5_fillTable 47 rfl) rfl ?_
        refine v_nn (fun a45 ea45 => ?_)
        subst ea45
        refine zr_iald (eX5_fillTable 48 rfl) ?_
        refine v_nn (fun a46 ea46 => ?_)
        subst ea46
        refine zr_invV_i (as := [(.int x29, 0), (.int (zI h6 a45 (zx x38)), 0)]) (cX0_hop_ok l h6 a46 x29 (zI h6 a45 (zx x38))) rfl rfl ⟨by decide, by decide, by decide⟩ zcd_X0_hop rfl ⟨zw_393, zw_240, zw_241, zw_59⟩ ⟨Nat.le_of_ble_eq_true rfl, Nat.le_of_ble_eq_true rfl⟩ rfl (Nat.le_of_ble_eq_true rfl) (eX5_fillTable 49 rfl) (fun x47 => ?_)
        refine zr_imul (eX5_fillTable 50 rfl) ?_
        refine zr_i2l (eX5_fillTable 51 rfl) ?_
        refine zr_ladd (eX5_fillTable 52 rfl) ?_
        refine zr_last (eX5_fillTable 53 rfl) ?_
        refine v_leth (fun h7 => ?_)
        refine zr_iinc (ls2 := [some (.ref a0, 5), some (.int x22, 0), some (.int x29, 0), some (.int x27, 0), some (.int x30, 0), some (.int x31, 0), some (.int (x38 + 1), 0)]) (eX5_fillTable 54 rfl) rfl (Nat.le_of_ble_eq_true rfl) zk_iconst_1 rfl ?_
        refine zr_goto (eX5_fillTable 55 rfl) (t := 46) (by decide) ?_
        exact v_drop [true, true, true, true, true, true, true] rfl (hk39 (x38 + 1) h7)
def gX5_rowTimes_L1 (h : Zh) (a0 : Nat) (x1 : Int32) (x2 : Int32) (r3 : Option Nat) : (Int64 → Int32 → Option (Int64)) → Int64 → Int32 → Option (Int64) :=
  fun (k23 : Int64 → Int32 → Option (Int64)) (x21 : Int64) (x22 : Int32) => (if (x2 : Int32) ≤ x22 then (some x21)
  else zlt (zR h a0 2) (fun r24 => Option.bind r24 (fun a25 => zg (zin ((x1 * 10) + x22) (zL h a25)) (Option.bind r3 (fun a26 => zg (zin x22 (zL h a26)) (zlt (x21 + ((zJ h a25 (zx ((x1 * 10) + x22))) * (zJ h a26 (zx x22)))) (fun x27 => k23 x27 (x22 + 1))))))))
def gX5_rowTimes (h : Zh) (a0 : Nat) (x1 : Int32) (x2 : Int32) (r3 : Option Nat) : Option (Int64) :=
  zlp (fun (_ : Int64) (_ : Int32) => (none : Option (Int64))) (gX5_rowTimes_L1 h a0 x1 x2 r3) zFU 0 0
set_option maxRecDepth 20000 in
theorem cX5_rowTimes_ok (l : Launch) (h : Zh) (a0 : Nat) (x1 : Int32) (x2 : Int32) (r3 : Option Nat) : Zc l yX5_rowTimes mX5_rowTimes 0 h [(.ref a0, 5), (.int x1, 0), (.int x2, 0), (va_rf r3, 21)] ((gX5_rowTimes h a0 x1 x2 r3).map (zoj h)) := by
  refine zc_of2 (ls := [some (.ref a0, 5), some (.int x1, 0), some (.int x2, 0), some (va_rf r3, 21), none, none, none]) (j := 3) (by decide +kernel) rfl rfl (zEn_ca (zEn_ci (zEn_ci (zEn_cr rfl)))) (Nat.le_of_ble_eq_true rfl) rfl ?_
  unfold gX5_rowTimes
  refine zr_lconst (eX5_rowTimes 0 rfl) zk_lconst_0 ?_
  refine zr_lstore (ls2 := [some (.ref a0, 5), some (.int x1, 0), some (.int x2, 0), some (va_rf r3, 21), some (.long 0, 0), none, none]) (eX5_rowTimes 1 rfl) (Nat.le_of_ble_eq_true rfl) (by simp only [zst1, zst2, zcl_rf]) ?_
  refine zr_iconst (eX5_rowTimes 2 rfl) zk_iconst_0 ?_
  refine zr_istore (ls2 := [some (.ref a0, 5), some (.int x1, 0), some (.int x2, 0), some (va_rf r3, 21), some (.long 0, 0), none, some (.int 0, 0)]) (eX5_rowTimes 3 rfl) (Nat.le_of_ble_eq_true rfl) rfl ?_
  refine v_drop [true, true, true, true, true, false, true] rfl ?_
  refine zlp_ind (fun (k23 : Int64 → Int32 → Option (Int64)) => ∀ (x21 : Int64) (x22 : Int32), V l mX5_rowTimes (zN h) (zS h) 0 (zoj h) 6 [some (.ref a0, 5), some (.int x1, 0), some (.int x2, 0), some (va_rf r3, 21), some (.long x21, 0), none, some (.int x22, 0)] [] h (k23 x21 x22)) ?_ ?_ 0 0
  · exact fun _ _ => v_none
  intro k23 hk23 x21 x22
  unfold gX5_rowTimes_L1
  refine zr_iload (eX5_rowTimes 4 rfl) rfl ?_
  refine zr_iload_n (eX5_rowTimes 5 rfl) rfl rfl ?_
  refine zr_icmp_ge (eX5_rowTimes 6 rfl) (t := 40) (by decide) ?_ ?_
  · refine zr_lload (eX5_rowTimes 24 rfl) rfl ?_
    exact zr_lret rfl rfl (eX5_rowTimes 25 rfl)
  · refine zr_lload (eX5_rowTimes 7 rfl) rfl ?_
    refine zr_aload_n (r := (some a0)) (eX5_rowTimes 8 rfl) rfl rfl ?_
    refine zr_getR2 zf_RX5_18 (τ2 := 21) rfl (eX5_rowTimes 9 rfl) ?_
    refine v_letr (fun r24 => ?_)
    refine zr_iload_n (eX5_rowTimes 10 rfl) rfl rfl ?_
    refine zr_bipush (eX5_rowTimes 11 rfl) zk_bipush_10 ?_
    refine zr_imul (eX5_rowTimes 12 rfl) ?_
    refine zr_iload (eX5_rowTimes 13 rfl) rfl ?_
    refine zr_iadd (eX5_rowTimes 14 rfl) ?_
    refine v_nn (fun a25 ea25 => ?_)
    subst ea25
    refine zr_lald (eX5_rowTimes 15 rfl) ?_
    refine zr_aload_n (r := r3) (eX5_rowTimes 16 rfl) rfl rfl ?_
    refine zr_iload (eX5_rowTimes 17 rfl) rfl ?_
    refine v_nn (fun a26 ea26 => ?_)
    subst ea26
    refine zr_lald (eX5_rowTimes 18 rfl) ?_
    refine zr_lmul (eX5_rowTimes 19 rfl) ?_
    refine zr_ladd (eX5_rowTimes 20 rfl) ?_
    refine v_letj (fun x27 => ?_)
    refine zr_lstore (ls2 := [some (.ref a0, 5), some (.int x1, 0), some (.int x2, 0), some (.ref a26, 21), some (.long x27, 0), none, some (.int x22, 0)]) (eX5_rowTimes 21 rfl) (Nat.le_of_ble_eq_true rfl) rfl ?_
    refine zr_iinc (ls2 := [some (.ref a0, 5), some (.int x1, 0), some (.int x2, 0), some (.ref a26, 21), some (.long x27, 0), none, some (.int (x22 + 1), 0)]) (eX5_rowTimes 22 rfl) rfl (Nat.le_of_ble_eq_true rfl) zk_iconst_1 rfl ?_
    refine zr_goto (eX5_rowTimes 23 rfl) (t := 6) (by decide) ?_
    exact v_drop [true, true, true, true, true, false, true] rfl (hk23 x27 (x22 + 1))
def gX5_findStep_J1 (a0 : Nat) (x1 : Int32) (x27 : Int32) (k28 : Int32 → Zh → Option (Zh)) : Zh → Option (Zh) :=
  fun (h6 : Zh) => zlt (zR h6 a0 4) (fun r33 => zlt (zR h6 a0 7) (fun r34 => Option.bind r33 (fun a35 => Option.bind r34 (fun a36 => zg (zcp h6 a35 0 a36 0 x1) (zlt (zcJ h6 a35 (zx 0) a36 (zx 0) (zx x1)) (fun (h7 : Zh) => k28 (x27 + 1) h7))))))
def gX5_findStep_L2 (a0 : Nat) (x1 : Int32) (k37 : Zh → Option (Zh)) : (Int32 → Zh → Option (Zh)) → Int32 → Zh → Option (Zh) :=
  fun (k39 : Int32 → Zh → Option (Zh)) (x38 : Int32) (h8 : Zh) => (if (x1 : Int32) ≤ x38 then k37 h8
  else zlt (zR h8 a0 4) (fun r40 => zlt (zR h8 a0 7) (fun r41 => zbj (gX5_rowTimes h8 a0 x38 x1 r41) (fun x42 => Option.bind r40 (fun a43 => zg (zin x38 (zL h8 a43)) (zlt (zsJ h8 a43 (zx x38) x42) (fun (h9 : Zh) => k39 (x38 + 1) h9)))))))
def gX5_findStep_L3 (a0 : Nat) (x1 : Int32) : (Int32 → Zh → Option (Zh)) → Int32 → Zh → Option (Zh) :=
  fun (k28 : Int32 → Zh → Option (Zh)) (x27 : Int32) (h4 : Zh) => (if ((x1 + 1) : Int32) < x27 then some h4
  else zlt (zR h4 a0 6) (fun r29 => zlt (zR h4 a0 7) (fun r30 => zbj (gX5_rowTimes h4 a0 x1 x1 r30) (fun x31 => Option.bind r29 (fun a32 => zg (zin x27 (zL h4 a32)) (zlt (zsJ h4 a32 (zx x27) (-x31)) (fun (h5 : Zh) => zjn (gX5_findStep_J1 a0 x1 x27 k28) (fun (k37 : Zh → Option (Zh)) =>
  zlp (fun (_ : Int32) (_ : Zh) => (none : Option (Zh))) (gX5_findStep_L2 a0 x1 k37) zFU 0 h5))))))))
def gX5_findStep_J4 (a0 : Nat) (x1 : Int32) : Zh → Option (Zh) :=
  fun (h3 : Zh) => zlp (fun (_ : Int32) (_ : Zh) => (none : Option (Zh))) (gX5_findStep_L3 a0 x1) zFU 2 h3
def gX5_findStep_L5 (a0 : Nat) (x1 : Int32) (k44 : Zh → Option (Zh)) : (Int32 → Zh → Option (Zh)) → Int32 → Zh → Option (Zh) :=
  fun (k46 : Int32 → Zh → Option (Zh)) (x45 : Int32) (h10 : Zh) => (if (x1 : Int32) ≤ x45 then k44 h10
  else zlt (zR h10 a0 7) (fun r47 => zlt (zR h10 a0 2) (fun r48 => Option.bind r48 (fun a49 => zg (zin ((x45 * 10) + x1) (zL h10 a49)) (Option.bind r47 (fun a50 => zg (zin x45 (zL h10 a50)) (zlt (zsJ h10 a50 (zx x45) (zJ h10 a49 (zx ((x45 * 10) + x1)))) (fun (h11 : Zh) => k46 (x45 + 1) h11))))))))
def gX5_findStep (h : Zh) (a0 : Nat) (x1 : Int32) : Option (Zh) :=
  zlt (zR h a0 6) (fun r21 => Option.bind r21 (fun a22 => zg (zin 0 (zL h a22)) (zlt (zsJ h a22 (zx 0) 1) (fun (h1 : Zh) => zlt (zR h1 a0 6) (fun r23 => zlt (zR h1 a0 2) (fun r24 => Option.bind r24 (fun a25 => zg (zin ((x1 * 10) + x1) (zL h1 a25)) (Option.bind r23 (fun a26 => zg (zin 1 (zL h1 a26)) (zlt (zsJ h1 a26 (zx 1) (-(zJ h1 a25 (zx ((x1 * 10) + x1))))) (fun (h2 : Zh) => zjn (gX5_findStep_J4 a0 x1) (fun (k44 : Zh → Option (Zh)) =>
  zlp (fun (_ : Int32) (_ : Zh) => (none : Option (Zh))) (gX5_findStep_L5 a0 x1 k44) zFU 0 h2))))))))))))
set_option maxRecDepth 20000 in
theorem cX5_findStep_ok (l : Launch) (h : Zh) (a0 : Nat) (x1 : Int32) : Zc l yX5_findStep mX5_findStep 0 h [(.ref a0, 5), (.int x1, 0)] ((gX5_findStep h a0 x1).map zoV) := by
  refine zc_of2 (ls := [some (.ref a0, 5), some (.int x1, 0), none, none]) (j := 2) (by decide +kernel) rfl rfl (zEn_ca (zEn_ci rfl)) (Nat.le_of_ble_eq_true rfl) rfl ?_
  unfold gX5_findStep
  refine zr_aload_n (r := (some a0)) (eX5_findStep 0 rfl) rfl rfl ?_
  refine zr_getR2 zf_RX5_31 (τ2 := 21) rfl (eX5_findStep 1 rfl) ?_
  refine v_letr (fun r21 => ?_)
  refine zr_iconst (eX5_findStep 2 rfl) zk_iconst_0 ?_
  refine zr_lconst (eX5_findStep 3 rfl) zk_lconst_1 ?_
  refine v_nn (fun a22 ea22 => ?_)
  subst ea22
  refine zr_last (eX5_findStep 4 rfl) ?_
  refine v_leth (fun h1 => ?_)
  refine zr_aload_n (r := (some a0)) (eX5_findStep 5 rfl) rfl rfl ?_
  refine zr_getR2 zf_RX5_31 (τ2 := 21) rfl (eX5_findStep 6 rfl) ?_
  refine v_letr (fun r23 => ?_)
  refine zr_iconst (eX5_findStep 7 rfl) zk_iconst_1 ?_
  refine zr_aload_n (r := (some a0)) (eX5_findStep 8 rfl) rfl rfl ?_
  refine zr_getR2 zf_RX5_18 (τ2 := 21) rfl (eX5_findStep 9 rfl) ?_
  refine v_letr (fun r24 => ?_)
  refine zr_iload_n (eX5_findStep 10 rfl) rfl rfl ?_
  refine zr_bipush (eX5_findStep 11 rfl) zk_bipush_10 ?_
  refine zr_imul (eX5_findStep 12 rfl) ?_
  refine zr_iload_n (eX5_findStep 13 rfl) rfl rfl ?_
  refine zr_iadd (eX5_findStep 14 rfl) ?_
  refine v_nn (fun a25 ea25 => ?_)
  subst ea25
  refine zr_lald (eX5_findStep 15 rfl) ?_
  refine zr_lneg (eX5_findStep 16 rfl) ?_
  refine v_nn (fun a26 ea26 => ?_)
  subst ea26
  refine zr_last (eX5_findStep 17 rfl) ?_
  refine v_leth (fun h2 => ?_)
  refine zr_iconst (eX5_findStep 18 rfl) zk_iconst_0 ?_
  refine zr_istore_n (ls2 := [some (.ref a0, 5), some (.int x1, 0), some (.int 0, 0), none]) (eX5_findStep 19 rfl) rfl (Nat.le_of_ble_eq_true rfl) rfl ?_
  refine v_jn (fun (k44 : Zh → Option (Zh)) => ∀ (h3 : Zh), V l mX5_findStep (zN h) (zS h) 0 zoV 55 [some (.ref a0, 5), some (.int x1, 0), none, none] [] h3 (k44 h3)) ?_ ?_
  · intro h3
    unfold gX5_findStep_J4
    refine zr_iconst (eX5_findStep 37 rfl) zk_iconst_2 ?_
    refine zr_istore_n (ls2 := [some (.ref a0, 5), some (.int x1, 0), some (.int 2, 0), none]) (eX5_findStep 38 rfl) rfl (Nat.le_of_ble_eq_true rfl) rfl ?_
    refine v_drop [true, true, true, false] rfl ?_
    refine zlp_ind (fun (k28 : Int32 → Zh → Option (Zh)) => ∀ (x27 : Int32) (h4 : Zh), V l mX5_findStep (zN h) (zS h) 0 zoV 57 [some (.ref a0, 5), some (.int x1, 0), some (.int x27, 0), none] [] h4 (k28 x27 h4)) ?_ ?_ 2 h3
    · exact fun _ _ => v_none
    intro k28 hk28 x27 h4
    unfold gX5_findStep_L3
    refine zr_iload_n (eX5_findStep 39 rfl) rfl rfl ?_
    refine zr_iload_n (eX5_findStep 40 rfl) rfl rfl ?_
    refine zr_iconst (eX5_findStep 41 rfl) zk_iconst_1 ?_
    refine zr_iadd (eX5_findStep 42 rfl) ?_
    refine zr_icmp_gt (eX5_findStep 43 rfl) (t := 130) (by decide) ?_ ?_
    · exact zr_vret rfl rfl (eX5_findStep 82 rfl)
    · refine zr_aload_n (r := (some a0)) (eX5_findStep 44 rfl) rfl rfl ?_
      refine zr_getR2 zf_RX5_31 (τ2 := 21) rfl (eX5_findStep 45 rfl) ?_
      refine v_letr (fun r29 => ?_)
      refine zr_iload_n (eX5_findStep 46 rfl) rfl rfl ?_
      refine zr_aload_n (r := (some a0)) (eX5_findStep 47 rfl) rfl rfl ?_
      refine zr_iload_n (eX5_findStep 48 rfl) rfl rfl ?_
      refine zr_iload_n (eX5_findStep 49 rfl) rfl rfl ?_
      refine zr_aload_n (r := (some a0)) (eX5_findStep 50 rfl) rfl rfl ?_
      refine zr_getR2 zf_RX5_34 (τ2 := 21) rfl (eX5_findStep 51 rfl) ?_
      refine v_letr (fun r30 => ?_)
      refine zr_invV_j (as := [(.int x1, 0), (.int x1, 0), (va_rf r30, 21)]) (cX5_rowTimes_ok l h4 a0 x1 x1 r30) rfl rfl ⟨by decide, by decide, by decide⟩ zcd_X5_rowTimes rfl ⟨zw_402, zw_403, zw_404, zw_64⟩ ⟨Nat.le_of_ble_eq_true rfl, Nat.le_of_ble_eq_true rfl⟩ rfl (Nat.le_of_ble_eq_true rfl) (eX5_findStep 52 rfl) (fun x31 => ?_)
      refine zr_lneg (eX5_findStep 53 rfl) ?_
      refine v_nn (fun a32 ea32 => ?_)
      subst ea32
      refine zr_last (eX5_findStep 54 rfl) ?_
      refine v_leth (fun h5 => ?_)
      refine zr_iconst (eX5_findStep 55 rfl) zk_iconst_0 ?_
      refine zr_istore_n (ls2 := [some (.ref a0, 5), some (.int x1, 0), some (.int x27, 0), some (.int 0, 0)]) (eX5_findStep 56 rfl) rfl (Nat.le_of_ble_eq_true rfl) rfl ?_
      refine v_jn (fun (k37 : Zh → Option (Zh)) => ∀ (h6 : Zh), V l mX5_findStep (zN h) (zS h) 0 zoV 110 [some (.ref a0, 5), some (.int x1, 0), some (.int x27, 0), none] [] h6 (k37 h6)) ?_ ?_
      · intro h6
        unfold gX5_findStep_J1
        refine zr_aload_n (r := (some a0)) (eX5_findStep 72 rfl) rfl rfl ?_
        refine zr_getR2 zf_RX5_25 (τ2 := 21) rfl (eX5_findStep 73 rfl) ?_
        refine v_letr (fun r33 => ?_)
        refine zr_iconst (eX5_findStep 74 rfl) zk_iconst_0 ?_
        refine zr_aload_n (r := (some a0)) (eX5_findStep 75 rfl) rfl rfl ?_
        refine zr_getR2 zf_RX5_34 (τ2 := 21) rfl (eX5_findStep 76 rfl) ?_
        refine v_letr (fun r34 => ?_)
        refine zr_iconst (eX5_findStep 77 rfl) zk_iconst_0 ?_
        refine zr_iload_n (eX5_findStep 78 rfl) rfl rfl ?_
        refine v_nn (fun a35 ea35 => ?_)
        subst ea35
        refine v_nn (fun a36 ea36 => ?_)
        subst ea36
        refine zr_copyJ (e' := 0) (f := 0) zac_RX5_115 ⟨Nat.le_of_ble_eq_true rfl, zRnat rfl⟩ (Nat.le_of_ble_eq_true rfl) (eX5_findStep 79 rfl) ?_
        refine v_leth (fun h7 => ?_)
        refine zr_iinc (ls2 := [some (.ref a0, 5), some (.int x1, 0), some (.int (x27 + 1), 0), none]) (eX5_findStep 80 rfl) rfl (Nat.le_of_ble_eq_true rfl) zk_iconst_1 rfl ?_
        refine zr_goto (eX5_findStep 81 rfl) (t := 57) (by decide) ?_
        exact v_drop [true, true, true, false] rfl (hk28 (x27 + 1) h7)
      intro k37 hk37
      refine v_drop [true, true, true, true] rfl ?_
      refine zlp_ind (fun (k39 : Int32 → Zh → Option (Zh)) => ∀ (x38 : Int32) (h8 : Zh), V l mX5_findStep (zN h) (zS h) 0 zoV 83 [some (.ref a0, 5), some (.int x1, 0), some (.int x27, 0), some (.int x38, 0)] [] h8 (k39 x38 h8)) ?_ ?_ 0 h5
      · exact fun _ _ => v_none
      intro k39 hk39 x38 h8
      unfold gX5_findStep_L2
      refine zr_iload_n (eX5_findStep 57 rfl) rfl rfl ?_
      refine zr_iload_n (eX5_findStep 58 rfl) rfl rfl ?_
      refine zr_icmp_ge (eX5_findStep 59 rfl) (t := 110) (by decide) ?_ ?_
      · exact v_drop [true, true, true, false] rfl (hk37 h8)
      · refine zr_aload_n (r := (some a0)) (eX5_findStep 60 rfl) rfl rfl ?_
        refine zr_getR2 zf_RX5_25 (τ2 := 21) rfl (eX5_findStep 61 rfl) ?_
        refine v_letr (fun r40 => ?_)
        refine zr_iload_n (eX5_findStep 62 rfl) rfl rfl ?_
        refine zr_aload_n (r := (some a0)) (eX5_findStep 63 rfl) rfl rfl ?_
        refine zr_iload_n (eX5_findStep 64 rfl) rfl rfl ?_
        refine zr_iload_n (eX5_findStep 65 rfl) rfl rfl ?_
        refine zr_aload_n (r := (some a0)) (eX5_findStep 66 rfl) rfl rfl ?_
        refine zr_getR2 zf_RX5_34 (τ2 := 21) rfl (eX5_findStep 67 rfl) ?_
        refine v_letr (fun r41 => ?_)
        refine zr_invV_j (as := [(.int x38, 0), (.int x1, 0), (va_rf r41, 21)]) (cX5_rowTimes_ok l h8 a0 x38 x1 r41) rfl rfl ⟨by decide, by decide, by decide⟩ zcd_X5_rowTimes rfl ⟨zw_402, zw_403, zw_404, zw_64⟩ ⟨Nat.le_of_ble_eq_true rfl, Nat.le_of_ble_eq_true rfl⟩ rfl (Nat.le_of_ble_eq_true rfl) (eX5_findStep 68 rfl) (fun x42 => ?_)
        refine v_nn (fun a43 ea43 => ?_)
        subst ea43
        refine zr_last (eX5_findStep 69 rfl) ?_
        refine v_leth (fun h9 => ?_)
        refine zr_iinc (ls2 := [some (.ref a0, 5), some (.int x1, 0), some (.int x27, 0), some (.int (x38 + 1), 0)]) (eX5_findStep 70 rfl) rfl (Nat.le_of_ble_eq_true rfl) zk_iconst_1 rfl ?_
        refine zr_goto (eX5_findStep 71 rfl) (t := 83) (by decide) ?_
        exact v_drop [true, true, true, true] rfl (hk39 (x38 + 1) h9)
  intro k44 hk44
  refine v_drop [true, true, true, false] rfl ?_
  refine zlp_ind (fun (k46 : Int32 → Zh → Option (Zh)) => ∀ (x45 : Int32) (h10 : Zh), V l mX5_findStep (zN h) (zS h) 0 zoV 27 [some (.ref a0, 5), some (.int x1, 0), some (.int x45, 0), none] [] h10 (k46 x45 h10)) ?_ ?_ 0 h2
  · exact fun _ _ => v_none
  intro k46 hk46 x45 h10
  unfold gX5_findStep_L5
  refine zr_iload_n (eX5_findStep 20 rfl) rfl rfl ?_
  refine zr_iload_n (eX5_findStep 21 rfl) rfl rfl ?_
  refine zr_icmp_ge (eX5_findStep 22 rfl) (t := 55) (by decide) ?_ ?_
  · exact v_drop [true, true, false, false] rfl (hk44 h10)
  · refine zr_aload_n (r := (some a0)) (eX5_findStep 23 rfl) rfl rfl ?_
    refine zr_getR2 zf_RX5_34 (τ2 := 21) rfl (eX5_findStep 24 rfl) ?_
    refine v_letr (fun r47 => ?_)
    refine zr_iload_n (eX5_findStep 25 rfl) rfl rfl ?_
    refine zr_aload_n (r := (some a0)) (eX5_findStep 26 rfl) rfl rfl ?_
    refine zr_getR2 zf_RX5_18 (τ2 := 21) rfl (eX5_findStep 27 rfl) ?_
    refine v_letr (fun r48 => ?_)
    refine zr_iload_n (eX5_findStep 28 rfl) rfl rfl ?_
    refine zr_bipush (eX5_findStep 29 rfl) zk_bipush_10 ?_
    refine zr_imul (eX5_findStep 30 rfl) ?_
    refine zr_iload_n (eX5_findStep 31 rfl) rfl rfl ?_
    refine zr_iadd (eX5_findStep 32 rfl) ?_
    refine v_nn (fun a49 ea49 => ?_)
    subst ea49
    refine zr_lald (eX5_findStep 33 rfl) ?_
    refine v_nn (fun a50 ea50 => ?_)
    subst ea50
    refine zr_last (eX5_findStep 34 rfl) ?_
    refine v_leth (fun h11 => ?_)
    refine zr_iinc (ls2 := [some (.ref a0, 5), some (.int x1, 0), some (.int (x45 + 1), 0), none]) (eX5_findStep 35 rfl) rfl (Nat.le_of_ble_eq_true rfl) zk_iconst_1 rfl ?_
    refine zr_goto (eX5_findStep 36 rfl) (t := 27) (by decide) ?_
    exact v_drop [true, true, true, false] rfl (hk46 (x45 + 1) h11)
def gX5_findPolynomial_L1 (a0 : Nat) : (Int32 → Zh → Option (Zh)) → Int32 → Zh → Option (Zh) :=
  fun (k25 : Int32 → Zh → Option (Zh)) (x24 : Int32) (h4 : Zh) => (if ((zI h4 a0 13) : Int32) ≤ (2 * x24) then some h4
  else zlt (zR h4 a0 3) (fun r26 => Option.bind r26 (fun a27 => zg (zin x24 (zL h4 a27)) (zlt (zJ h4 a27 (zx x24)) (fun x28 => zlt (zR h4 a0 3) (fun r29 => zlt (zR h4 a0 3) (fun r30 => Option.bind r30 (fun a31 => zg (zin ((zI h4 a0 13) - x24) (zL h4 a31)) (Option.bind r29 (fun a32 => zg (zin x24 (zL h4 a32)) (zlt (zsJ h4 a32 (zx x24) (zJ h4 a31 (zx ((zI h4 a0 13) - x24)))) (fun (h5 : Zh) => zlt (zR h5 a0 3) (fun r33 => Option.bind r33 (fun a34 => zg (zin ((zI h5 a0 13) - x24) (zL h5 a34)) (zlt (zsJ h5 a34 (zx ((zI h5 a0 13) - x24)) x28) (fun (h6 : Zh) => k25 (x24 + 1) h6))))))))))))))))
def gX5_findPolynomial_J2 (a0 : Nat) : Zh → Option (Zh) :=
  fun (h3 : Zh) => zlp (fun (_ : Int32) (_ : Zh) => (none : Option (Zh))) (gX5_findPolynomial_L1 a0) zFU 0 h3
def gX5_findPolynomial_J3 (x36 : Int32) (k37 : Int32 → Zh → Option (Zh)) : Zh → Option (Zh) :=
  fun (h9 : Zh) => k37 (x36 + 1) h9
def gX5_findPolynomial_J4 (a0 : Nat) (x40 : Int32) (h10 : Zh) (k41 : Int32 → Zh → Option (Zh)) : Int64 → Option (Zh) :=
  fun (x42 : Int64) => zlt (zR h10 a0 3) (fun r43 => Option.bind r43 (fun a44 => zg (zin x40 (zL h10 a44)) (zlt (zsJ h10 a44 (zx x40) x42) (fun (h11 : Zh) => k41 (x40 + (-1)) h11))))
def gX5_findPolynomial_L5 (a0 : Nat) (x36 : Int32) (x40 : Int32) (h10 : Zh) (k45 : Int64 → Option (Zh)) : (Int64 → Int32 → Option (Zh)) → Int64 → Int32 → Option (Zh) :=
  fun (k48 : Int64 → Int32 → Option (Zh)) (x46 : Int64) (x47 : Int32) => (if (x40 : Int32) < x47 then k45 x46
  else (if (x36 : Int32) < x47 then k45 x46
  else zlt (zR h10 a0 6) (fun r49 => Option.bind r49 (fun a50 => zg (zin (x40 - x47) (zL h10 a50)) (zlt (zR h10 a0 3) (fun r51 => Option.bind r51 (fun a52 => zg (zin x47 (zL h10 a52)) (zlt (x46 + ((zJ h10 a50 (zx (x40 - x47))) * (zJ h10 a52 (zx x47)))) (fun x53 => k48 x53 (x47 + 1))))))))))
def gX5_findPolynomial_L6 (a0 : Nat) (x36 : Int32) (k39 : Zh → Option (Zh)) : (Int32 → Zh → Option (Zh)) → Int32 → Zh → Option (Zh) :=
  fun (k41 : Int32 → Zh → Option (Zh)) (x40 : Int32) (h10 : Zh) => (if (x40 : Int32) < 0 then k39 h10
  else zjn (gX5_findPolynomial_J4 a0 x40 h10 k41) (fun (k45 : Int64 → Option (Zh)) =>
  zlp (fun (_ : Int64) (_ : Int32) => (none : Option (Zh))) (gX5_findPolynomial_L5 a0 x36 x40 h10 k45) zFU 0 0))
def gX5_findPolynomial_L7 (a0 : Nat) (k35 : Zh → Option (Zh)) : (Int32 → Zh → Option (Zh)) → Int32 → Zh → Option (Zh) :=
  fun (k37 : Int32 → Zh → Option (Zh)) (x36 : Int32) (h7 : Zh) => (if ((zI h7 a0 13) : Int32) ≤ x36 then k35 h7
  else zbV (gX5_findStep h7 a0 x36) (fun h8 => zlt (x36 + 1) (fun x38 => zjn (gX5_findPolynomial_J3 x36 k37) (fun (k39 : Zh → Option (Zh)) =>
  zlp (fun (_ : Int32) (_ : Zh) => (none : Option (Zh))) (gX5_findPolynomial_L6 a0 x36 k39) zFU x38 h8))))
def gX5_findPolynomial (h : Zh) (a0 : Nat) : Option (Zh) :=
  zlt (zR h a0 3) (fun r21 => zbV (gJ7_fill_d0a16 h r21 0) (fun h1 => zlt (zR h1 a0 3) (fun r22 => Option.bind r22 (fun a23 => zg (zin 0 (zL h1 a23)) (zlt (zsJ h1 a23 (zx 0) 1) (fun (h2 : Zh) => zjn (gX5_findPolynomial_J2 a0) (fun (k35 : Zh → Option (Zh)) =>
  zlp (fun (_ : Int32) (_ : Zh) => (none : Option (Zh))) (gX5_findPolynomial_L7 a0 k35) zFU 0 h2)))))))
set_option maxRecDepth 20000 in
theorem cX5_findPolynomial_ok (l : Launch) (h : Zh) (a0 : Nat) : Zc l yX5_findPolynomial mX5_findPolynomial 0 h [(.ref a0, 5)] ((gX5_findPolynomial h a0).map zoV) := by
  refine zc_of2 (ls := [some (.ref a0, 5), none, none, none, none, none]) (j := 5) (by decide +kernel) rfl rfl (zEn_ca rfl) (Nat.le_of_ble_eq_true rfl) rfl ?_
  unfold gX5_findPolynomial
  refine zr_aload_n (r := (some a0)) (eX5_findPolynomial 0 rfl) rfl rfl ?_
  refine zr_getR2 zf_RX5_22 (τ2 := 21) rfl (eX5_findPolynomial 1 rfl) ?_
  refine v_letr (fun r21 => ?_)
  refine zr_lconst (eX5_findPolynomial 2 rfl) zk_lconst_0 ?_
  refine zr_invS_V (as := [(va_rf r21, 21), (.long 0, 0)]) (cJ7_fill_d0a16_ok l h r21 0) rfl zcd_J7_fill_d0a16 ⟨zw_390, zw_391, zw_65⟩ ⟨Nat.le_of_ble_eq_true rfl, Nat.le_of_ble_eq_true rfl⟩ rfl (Nat.le_of_ble_eq_true rfl) (eX5_findPolynomial 3 rfl) (fun h1 => ?_)
  refine zr_aload_n (r := (some a0)) (eX5_findPolynomial 4 rfl) rfl rfl ?_
  refine zr_getR2 zf_RX5_22 (τ2 := 21) rfl (eX5_findPolynomial 5 rfl) ?_
  refine v_letr (fun r22 => ?_)
  refine zr_iconst (eX5_findPolynomial 6 rfl) zk_iconst_0 ?_
  refine zr_lconst (eX5_findPolynomial 7 rfl) zk_lconst_1 ?_
  refine v_nn (fun a23 ea23 => ?_)
  subst ea23
  refine zr_last (eX5_findPolynomial 8 rfl) ?_
  refine v_leth (fun h2 => ?_)
  refine zr_iconst (eX5_findPolynomial 9 rfl) zk_iconst_0 ?_
  refine zr_istore_n (ls2 := [some (.ref a0, 5), some (.int 0, 0), none, none, none, none]) (eX5_findPolynomial 10 rfl) rfl (Nat.le_of_ble_eq_true rfl) rfl ?_
  refine v_jn (fun (k35 : Zh → Option (Zh)) => ∀ (h3 : Zh), V l mX5_findPolynomial (zN h) (zS h) 0 zoV 100 [some (.ref a0, 5), none, none, none, none, none] [] h3 (k35 h3)) ?_ ?_
  · intro h3
    unfold gX5_findPolynomial_J2
    refine zr_iconst (eX5_findPolynomial 59 rfl) zk_iconst_0 ?_
    refine zr_istore_n (ls2 := [some (.ref a0, 5), some (.int 0, 0), none, none, none, none]) (eX5_findPolynomial 60 rfl) rfl (Nat.le_of_ble_eq_true rfl) rfl ?_
    refine v_drop [true, true, false, false, false, false] rfl ?_
    refine zlp_ind (fun (k25 : Int32 → Zh → Option (Zh)) => ∀ (x24 : Int32) (h4 : Zh), V l mX5_findPolynomial (zN h) (zS h) 0 zoV 102 [some (.ref a0, 5), some (.int x24, 0), none, none, none, none] [] h4 (k25 x24 h4)) ?_ ?_ 0 h3
    · exact fun _ _ => v_none
    intro k25 hk25 x24 h4
    unfold gX5_findPolynomial_L1
    refine zr_iconst (eX5_findPolynomial 61 rfl) zk_iconst_2 ?_
    refine zr_iload_n (eX5_findPolynomial 62 rfl) rfl rfl ?_
    refine zr_imul (eX5_findPolynomial 63 rfl) ?_
    refine zr_aload_n (r := (some a0)) (eX5_findPolynomial 64 rfl) rfl rfl ?_
    refine zr_getI zf_RX5_54 ⟨by decide, by decide⟩ (eX5_findPolynomial 65 rfl) ?_
    refine zr_icmp_ge (eX5_findPolynomial 66 rfl) (t := 154) (by decide) ?_ ?_
    · exact zr_vret rfl rfl (eX5_findPolynomial 93 rfl)
    · refine zr_aload_n (r := (some a0)) (eX5_findPolynomial 67 rfl) rfl rfl ?_
      refine zr_getR2 zf_RX5_22 (τ2 := 21) rfl (eX5_findPolynomial 68 rfl) ?_
      refine v_letr (fun r26 => ?_)
      refine zr_iload_n (eX5_findPolynomial 69 rfl) rfl rfl ?_
      refine v_nn (fun a27 ea27 => ?_)
      subst ea27
      refine zr_lald (eX5_findPolynomial 70 rfl) ?_
      refine v_letj (fun x28 => ?_)
      refine zr_lstore_n (ls2 := [some (.ref a0, 5), some (.int x24, 0), some (.long x28, 0), none, none, none]) (eX5_findPolynomial 71 rfl) rfl (Nat.le_of_ble_eq_true rfl) rfl ?_
      refine zr_aload_n (r := (some a0)) (eX5_findPolynomial 72 rfl) rfl rfl ?_
      refine zr_getR2 zf_RX5_22 (τ2 := 21) rfl (eX5_findPolynomial 73 rfl) ?_
      refine v_letr (fun r29 => ?_)
      refine zr_iload_n (eX5_findPolynomial 74 rfl) rfl rfl ?_
      refine zr_aload_n (r := (some a0)) (eX5_findPolynomial 75 rfl) rfl rfl ?_
      refine zr_getR2 zf_RX5_22 (τ2 := 21) rfl (eX5_findPolynomial 76 rfl) ?_
      refine v_letr (fun r30 => ?_)
      refine zr_aload_n (r := (some a0)) (eX5_findPolynomial 77 rfl) rfl rfl ?_
      refine zr_getI zf_RX5_54 ⟨by decide, by decide⟩ (eX5_findPolynomial 78 rfl) ?_
      refine zr_iload_n (eX5_findPolynomial 79 rfl) rfl rfl ?_
      refine zr_isub (eX5_findPolynomial 80 rfl) ?_
      refine v_nn (fun a31 ea31 => ?_)
      subst ea31
      refine zr_lald (eX5_findPolynomial 81 rfl) ?_
      refine v_nn (fun a32 ea32 => ?_)
      subst ea32
      refine zr_last (eX5_findPolynomial 82 rfl) ?_
      refine v_leth (fun h5 => ?_)
      refine zr_aload_n (r := (some a0)) (eX5_findPolynomial 83 rfl) rfl rfl ?_
      refine zr_getR2 zf_RX5_22 (τ2 := 21) rfl (eX5_findPolynomial 84 rfl) ?_
      refine v_letr (fun r33 => ?_)
      refine zr_aload_n (r := (some a0)) (eX5_findPolynomial 85 rfl) rfl rfl ?_
      refine zr_getI zf_RX5_54 ⟨by decide, by decide⟩ (eX5_findPolynomial 86 rfl) ?_
      refine zr_iload_n (eX5_findPolynomial 87 rfl) rfl rfl ?_
      refine zr_isub (eX5_findPolynomial 88 rfl) ?_
      refine zr_lload_n (eX5_findPolynomial 89 rfl) rfl rfl ?_
      refine v_nn (fun a34 ea34 => ?_)
      subst ea34
      refine zr_last (eX5_findPolynomial 90 rfl) ?_
      refine v_leth (fun h6 => ?_)
      refine zr_iinc (ls2 := [some (.ref a0, 5), some (.int (x24 + 1), 0), some (.long x28, 0), none, none, none]) (eX5_findPolynomial 91 rfl) rfl (Nat.le_of_ble_eq_true rfl) zk_iconst_1 rfl ?_
      refine zr_goto (eX5_findPolynomial 92 rfl) (t := 102) (by decide) ?_
      exact v_drop [true, true, false, false, false, false] rfl (hk25 (x24 + 1) h6)
  intro k35 hk35
  refine v_drop [true, true, false, false, false, false] rfl ?_
  refine zlp_ind (fun (k37 : Int32 → Zh → Option (Zh)) => ∀ (x36 : Int32) (h7 : Zh), V l mX5_findPolynomial (zN h) (zS h) 0 zoV 17 [some (.ref a0, 5), some (.int x36, 0), none, none, none, none] [] h7 (k37 x36 h7)) ?_ ?_ 0 h2
  · exact fun _ _ => v_none
  intro k37 hk37 x36 h7
  unfold gX5_findPolynomial_L7
  refine zr_iload_n (eX5_findPolynomial 11 rfl) rfl rfl ?_
  refine zr_aload_n (r := (some a0)) (eX5_findPolynomial 12 rfl) rfl rfl ?_
  refine zr_getI zf_RX5_54 ⟨by decide, by decide⟩ (eX5_findPolynomial 13 rfl) ?_
  refine zr_icmp_ge (eX5_findPolynomial 14 rfl) (t := 100) (by decide) ?_ ?_
  · exact v_drop [true, false, false, false, false, false] rfl (hk35 h7)
  · refine zr_aload_n (r := (some a0)) (eX5_findPolynomial 15 rfl) rfl rfl ?_
    refine zr_iload_n (eX5_findPolynomial 16 rfl) rfl rfl ?_
    refine zr_invV_V (as := [(.int x36, 0)]) (cX5_findStep_ok l h7 a0 x36) rfl rfl ⟨by decide, by decide, by decide⟩ zcd_X5_findStep rfl ⟨zw_398, zw_399, zw_400, zw_64⟩ ⟨Nat.le_of_ble_eq_true rfl, Nat.le_of_ble_eq_true rfl⟩ rfl (Nat.le_of_ble_eq_true rfl) (eX5_findPolynomial 17 rfl) (fun h8 => ?_)
    refine zr_iload_n (eX5_findPolynomial 18 rfl) rfl rfl ?_
    refine zr_iconst (eX5_findPolynomial 19 rfl) zk_iconst_1 ?_
    refine zr_iadd (eX5_findPolynomial 20 rfl) ?_
    refine v_leti (fun x38 => ?_)
    refine zr_istore_n (ls2 := [some (.ref a0, 5), some (.int x36, 0), some (.int x38, 0), none, none, none]) (eX5_findPolynomial 21 rfl) rfl (Nat.le_of_ble_eq_true rfl) rfl ?_
    refine v_jn (fun (k39 : Zh → Option (Zh)) => ∀ (h9 : Zh), V l mX5_findPolynomial (zN h) (zS h) 0 zoV 94 [some (.ref a0, 5), some (.int x36, 0), none, none, none, none] [] h9 (k39 h9)) ?_ ?_
    · intro h9
      unfold gX5_findPolynomial_J3
      refine zr_iinc (ls2 := [some (.ref a0, 5), some (.int (x36 + 1), 0), none, none, none, none]) (eX5_findPolynomial 57 rfl) rfl (Nat.le_of_ble_eq_true rfl) zk_iconst_1 rfl ?_
      refine zr_goto (eX5_findPolynomial 58 rfl) (t := 17) (by decide) ?_
      exact v_drop [true, true, false, false, false, false] rfl (hk37 (x36 + 1) h9)
    intro k39 hk39
    refine v_drop [true, true, true, false, false, false] rfl ?_
    refine zlp_ind (fun (k41 : Int32 → Zh → Option (Zh)) => ∀ (x40 : Int32) (h10 : Zh), V l mX5_findPolynomial (zN h) (zS h) 0 zoV 34 [some (.ref a0, 5), some (.int x36, 0), some (.int x40, 0), none, none, none] [] h10 (k41 x40 h10)) ?_ ?_ x38 h8
    · exact fun _ _ => v_none
    intro k41 hk41 x40 h10
    unfold gX5_findPolynomial_L6
    refine zr_iload_n (eX5_findPolynomial 22 rfl) rfl rfl ?_
    refine zr_if_lt (eX5_findPolynomial 23 rfl) (t := 94) (by decide) ?_ ?_
    · exact v_drop [true, true, false, false, false, false] rfl (hk39 h10)
    · refine zr_lconst (eX5_findPolynomial 24 rfl) zk_lconst_0 ?_
      refine zr_lstore_n (ls2 := [some (.ref a0, 5), some (.int x36, 0), some (.int x40, 0), some (.long 0, 0), none, none]) (eX5_findPolynomial 25 rfl) rfl (Nat.le_of_ble_eq_true rfl) rfl ?_
      refine zr_iconst (eX5_findPolynomial 26 rfl) zk_iconst_0 ?_
      refine zr_istore (ls2 := [some (.ref a0, 5), some (.int x36, 0), some (.int x40, 0), some (.long 0, 0), none, some (.int 0, 0)]) (eX5_findPolynomial 27 rfl) (Nat.le_of_ble_eq_true rfl) rfl ?_
      refine v_jn (fun (k45 : Int64 → Option (Zh)) => ∀ (x42 : Int64), V l mX5_findPolynomial (zN h) (zS h) 0 zoV 81 [some (.ref a0, 5), some (.int x36, 0), some (.int x40, 0), some (.long x42, 0), none, none] [] h10 (k45 x42)) ?_ ?_
      · intro x42
        unfold gX5_findPolynomial_J4
        refine zr_aload_n (r := (some a0)) (eX5_findPolynomial 50 rfl) rfl rfl ?_
        refine zr_getR2 zf_RX5_22 (τ2 := 21) rfl (eX5_findPolynomial 51 rfl) ?_
        refine v_letr (fun r43 => ?_)
        refine zr_iload_n (eX5_findPolynomial 52 rfl) rfl rfl ?_
        refine zr_lload_n (eX5_findPolynomial 53 rfl) rfl rfl ?_
        refine v_nn (fun a44 ea44 => ?_)
        subst ea44
        refine zr_last (eX5_findPolynomial 54 rfl) ?_
        refine v_leth (fun h11 => ?_)
        refine zr_iinc (ls2 := [some (.ref a0, 5), some (.int x36, 0), some (.int (x40 + (-1)), 0), some (.long x42, 0), none, none]) (eX5_findPolynomial 55 rfl) rfl (Nat.le_of_ble_eq_true rfl) zk_iconst_m1 rfl ?_
        refine zr_goto (eX5_findPolynomial 56 rfl) (t := 34) (by decide) ?_
        exact v_drop [true, true, true, false, false, false] rfl (hk41 (x40 + (-1)) h11)
      intro k45 hk45
      refine v_drop [true, true, true, true, false, true] rfl ?_
      refine zlp_ind (fun (k48 : Int64 → Int32 → Option (Zh)) => ∀ (x46 : Int64) (x47 : Int32), V l mX5_findPolynomial (zN h) (zS h) 0 zoV 43 [some (.ref a0, 5), some (.int x36, 0), some (.int x40, 0), some (.long x46, 0), none, some (.int x47, 0)] [] h10 (k48 x46 x47)) ?_ ?_ 0 0
      · exact fun _ _ => v_none
      intro k48 hk48 x46 x47
      unfold gX5_findPolynomial_L5
      refine zr_iload (eX5_findPolynomial 28 rfl) rfl ?_
      refine zr_iload_n (eX5_findPolynomial 29 rfl) rfl rfl ?_
      refine zr_icmp_gt (eX5_findPolynomial 30 rfl) (t := 81) (by decide) ?_ ?_
      · exact v_drop [true, true, true, true, false, false] rfl (hk45 x46)
      · refine zr_iload (eX5_findPolynomial 31 rfl) rfl ?_
        refine zr_iload_n (eX5_findPolynomial 32 rfl) rfl rfl ?_
        refine zr_icmp_gt (eX5_findPolynomial 33 rfl) (t := 81) (by decide) ?_ ?_
        · exact v_drop [true, true, true, true, false, false] rfl (hk45 x46)
        · refine zr_lload_n (eX5_findPolynomial 34 rfl) rfl rfl ?_
          refine zr_aload_n (r := (some a0)) (eX5_findPolynomial 35 rfl) rfl rfl ?_
          refine zr_getR2 zf_RX5_31 (τ2 := 21) rfl (eX5_findPolynomial 36 rfl) ?_
          refine v_letr (fun r49 => ?_)
          refine zr_iload_n (eX5_findPolynomial 37 rfl) rfl rfl ?_
          refine zr_iload (eX5_findPolynomial 38 rfl) rfl ?_
          refine zr_isub (eX5_findPolynomial 39 rfl) ?_
          refine v_nn (fun a50 ea50 => ?_)
          subst ea50
          refine zr_lald (eX5_findPolynomial 40 rfl) ?_
          refine zr_aload_n (r := (some a0)) (eX5_findPolynomial 41 rfl) rfl rfl ?_
          refine zr_getR2 zf_RX5_22 (τ2 := 21) rfl (eX5_findPolynomial 42 rfl) ?_
          refine v_letr (fun r51 => ?_)
          refine zr_iload (eX5_findPolynomial 43 rfl) rfl ?_
          refine v_nn (fun a52 ea52 => ?_)
          subst ea52
          refine zr_lald (eX5_findPolynomial 44 rfl) ?_
          refine zr_lmul (eX5_findPolynomial 45 rfl) ?_
          refine zr_ladd (eX5_findPolynomial 46 rfl) ?_
          refine v_letj (fun x53 => ?_)
          refine zr_lstore_n (ls2 := [some (.ref a0, 5), some (.int x36, 0), some (.int x40, 0), some (.long x53, 0), none, some (.int x47, 0)]) (eX5_findPolynomial 47 rfl) rfl (Nat.le_of_ble_eq_true rfl) rfl ?_
          refine zr_iinc (ls2 := [some (.ref a0, 5), some (.int x36, 0), some (.int x40, 0), some (.long x53, 0), none, some (.int (x47 + 1), 0)]) (eX5_findPolynomial 48 rfl) rfl (Nat.le_of_ble_eq_true rfl) zk_iconst_1 rfl ?_
          refine zr_goto (eX5_findPolynomial 49 rfl) (t := 43) (by decide) ?_
          exact v_drop [true, true, true, true, false, true] rfl (hk48 x53 (x47 + 1))
def gX5_solve (h : Zh) (a0 : Nat) : Option (Int32 × Zh) :=
  (if ((zI h a0 13) : Int32) ≤ 10 then (if ((zI h a0 14) : Int32) = 0 then zbV (gX5_fillTable h a0) (fun h1 => zbV (gX5_findPolynomial h1 a0) (fun h2 => zlt (zsI h2 a0 14 1) (fun (h3 : Zh) => (some (1, h3)))))
  else (some (1, h)))
  else (some (0, h)))
set_option maxRecDepth 20000 in
theorem cX5_solve_ok (l : Launch) (h : Zh) (a0 : Nat) : Zc l yX5_solve mX5_solve 0 h [(.ref a0, 5)] ((gX5_solve h a0).map zoI) := by
  refine zc_of2 (ls := [some (.ref a0, 5)]) (j := 0) (by decide +kernel) rfl rfl (zEn_ca rfl) (Nat.le_of_ble_eq_true rfl) rfl ?_
  unfold gX5_solve
  refine zr_aload_n (r := (some a0)) (eX5_solve 0 rfl) rfl rfl ?_
  refine zr_getI zf_RX5_54 ⟨by decide, by decide⟩ (eX5_solve 1 rfl) ?_
  refine zr_bipush (eX5_solve 2 rfl) zk_bipush_10 ?_
  refine zr_icmp_le (eX5_solve 3 rfl) (t := 11) (by decide) ?_ ?_
  · refine zr_aload_n (r := (some a0)) (eX5_solve 6 rfl) rfl rfl ?_
    refine zr_getI zf_RX5_57 ⟨by decide, by decide⟩ (eX5_solve 7 rfl) ?_
    refine zr_if_ne (eX5_solve 8 rfl) (t := 31) (by decide) ?_ ?_
    · refine zr_iconst (eX5_solve 16 rfl) zk_iconst_1 ?_
      exact zr_zret rfl (by decide) rfl (eX5_solve 17 rfl)
    · refine zr_aload_n (r := (some a0)) (eX5_solve 9 rfl) rfl rfl ?_
      refine zr_invV_V (as := []) (cX5_fillTable_ok l h a0) rfl rfl ⟨by decide, by decide, by decide⟩ zcd_X5_fillTable rfl ⟨zw_386, zw_387, zw_388, zw_64⟩ ⟨Nat.le_of_ble_eq_true rfl, Nat.le_of_ble_eq_true rfl⟩ rfl (Nat.le_of_ble_eq_true rfl) (eX5_solve 10 rfl) (fun h1 => ?_)
      refine zr_aload_n (r := (some a0)) (eX5_solve 11 rfl) rfl rfl ?_
      refine zr_invV_V (as := []) (cX5_findPolynomial_ok l h1 a0) rfl rfl ⟨by decide, by decide, by decide⟩ zcd_X5_findPolynomial rfl ⟨zw_394, zw_395, zw_396, zw_64⟩ ⟨Nat.le_of_ble_eq_true rfl, Nat.le_of_ble_eq_true rfl⟩ rfl (Nat.le_of_ble_eq_true rfl) (eX5_solve 12 rfl) (fun h2 => ?_)
      refine zr_aload_n (r := (some a0)) (eX5_solve 13 rfl) rfl rfl ?_
      refine zr_iconst (eX5_solve 14 rfl) zk_iconst_1 ?_
      refine zr_putZ zf_RX5_57 rfl (by decide) (Or.inl rfl) (eX5_solve 15 rfl) ?_
      refine v_leth (fun h3 => ?_)
      refine zr_iconst (eX5_solve 16 rfl) zk_iconst_1 ?_
      exact zr_zret rfl (by decide) rfl (eX5_solve 17 rfl)
  · refine zr_iconst (eX5_solve 4 rfl) zk_iconst_0 ?_
    exact zr_zret rfl (by decide) rfl (eX5_solve 5 rfl)
def gX5_shiftBy_J1 (x25 : Int32) (k26 : Int32 → Zh → Option (Zh)) : Zh → Option (Zh) :=
  fun (h3 : Zh) => k26 (x25 + 1) h3
def gX5_shiftBy_L2 (a0 : Nat) (x1 : Int32) (x25 : Int32) (k28 : Zh → Option (Zh)) : (Int32 → Zh → Option (Zh)) → Int32 → Zh → Option (Zh) :=
  fun (k30 : Int32 → Zh → Option (Zh)) (x29 : Int32) (h4 : Zh) => (if (x29 : Int32) < x25 then k28 h4
  else zlt (zR h4 a0 4) (fun r31 => Option.bind r31 (fun a32 => zg (zin x29 (zL h4 a32)) (zlt (zR h4 a0 4) (fun r33 => Option.bind r33 (fun a34 => zg (zin (x29 + 1) (zL h4 a34)) (zg (zin x29 (zL h4 a32)) (zlt (zsJ h4 a32 (zx x29) ((zJ h4 a32 (zx x29)) + (((x1 : Int32).toInt64) * (zJ h4 a34 (zx (x29 + 1)))))) (fun (h5 : Zh) => k30 (x29 + (-1)) h5)))))))))
def gX5_shiftBy_L3 (a0 : Nat) (x1 : Int32) : (Int32 → Zh → Option (Zh)) → Int32 → Zh → Option (Zh) :=
  fun (k26 : Int32 → Zh → Option (Zh)) (x25 : Int32) (h2 : Zh) => (if ((zI h2 a0 13) : Int32) ≤ x25 then some h2
  else zlt ((zI h2 a0 13) - 1) (fun x27 => zjn (gX5_shiftBy_J1 x25 k26) (fun (k28 : Zh → Option (Zh)) =>
  zlp (fun (_ : Int32) (_ : Zh) => (none : Option (Zh))) (gX5_shiftBy_L2 a0 x1 x25 k28) zFU x27 h2)))
def gX5_shiftBy (h : Zh) (a0 : Nat) (x1 : Int32) : Option (Zh) :=
  zlt (zR h a0 3) (fun r21 => zlt (zR h a0 4) (fun r22 => Option.bind r21 (fun a23 => Option.bind r22 (fun a24 => zg (zcp h a23 0 a24 0 ((zI h a0 13) + 1)) (zlt (zcJ h a23 (zx 0) a24 (zx 0) (zx ((zI h a0 13) + 1))) (fun (h1 : Zh) => zlp (fun (_ : Int32) (_ : Zh) => (none : Option (Zh))) (gX5_shiftBy_L3 a0 x1) zFU 0 h1))))))
set_option maxRecDepth 20000 in
theorem cX5_shiftBy_ok (l : Launch) (h : Zh) (a0 : Nat) (x1 : Int32) : Zc l yX5_shiftBy mX5_shiftBy 0 h [(.ref a0, 5), (.int x1, 0)] ((gX5_shiftBy h a0 x1).map zoV) := by
  refine zc_of2 (ls := [some (.ref a0, 5), some (.int x1, 0), none, none]) (j := 2) (by decide +kernel) rfl rfl (zEn_ca (zEn_ci rfl)) (Nat.le_of_ble_eq_true rfl) rfl ?_
  unfold gX5_shiftBy
  refine zr_aload_n (r := (some a0)) (eX5_shiftBy 0 rfl) rfl rfl ?_
  refine zr_getR2 zf_RX5_22 (τ2 := 21) rfl (eX5_shiftBy 1 rfl) ?_
  refine v_letr (fun r21 => ?_)
  refine zr_iconst (eX5_shiftBy 2 rfl) zk_iconst_0 ?_
  refine zr_aload_n (r := (some a0)) (eX5_shiftBy 3 rfl) rfl rfl ?_
  refine zr_getR2 zf_RX5_25 (τ2 := 21) rfl (eX5_shiftBy 4 rfl) ?_
  refine v_letr (fun r22 => ?_)
  refine zr_iconst (eX5_shiftBy 5 rfl) zk_iconst_0 ?_
  refine zr_aload_n (r := (some a0)) (eX5_shiftBy 6 rfl) rfl rfl ?_
  refine zr_getI zf_RX5_54 ⟨by decide, by decide⟩ (eX5_shiftBy 7 rfl) ?_
  refine zr_iconst (eX5_shiftBy 8 rfl) zk_iconst_1 ?_
  refine zr_iadd (eX5_shiftBy 9 rfl) ?_
  refine v_nn (fun a23 ea23 => ?_)
  subst ea23
  refine v_nn (fun a24 ea24 => ?_)
  subst ea24
  refine zr_copyJ (e' := 0) (f := 0) zac_RX5_115 ⟨Nat.le_of_ble_eq_true rfl, zRnat rfl⟩ (Nat.le_of_ble_eq_true rfl) (eX5_shiftBy 10 rfl) ?_
  refine v_leth (fun h1 => ?_)
  refine zr_iconst (eX5_shiftBy 11 rfl) zk_iconst_0 ?_
  refine zr_istore_n (ls2 := [some (.ref a0, 5), some (.int x1, 0), some (.int 0, 0), none]) (eX5_shiftBy 12 rfl) rfl (Nat.le_of_ble_eq_true rfl) rfl ?_
  refine v_drop [true, true, true, false] rfl ?_
  refine zlp_ind (fun (k26 : Int32 → Zh → Option (Zh)) => ∀ (x25 : Int32) (h2 : Zh), V l mX5_shiftBy (zN h) (zS h) 0 zoV 21 [some (.ref a0, 5), some (.int x1, 0), some (.int x25, 0), none] [] h2 (k26 x25 h2)) ?_ ?_ 0 h1
  · exact fun _ _ => v_none
  intro k26 hk26 x25 h2
  unfold gX5_shiftBy_L3
  refine zr_iload_n (eX5_shiftBy 13 rfl) rfl rfl ?_
  refine zr_aload_n (r := (some a0)) (eX5_shiftBy 14 rfl) rfl rfl ?_
  refine zr_getI zf_RX5_54 ⟨by decide, by decide⟩ (eX5_shiftBy 15 rfl) ?_
  refine zr_icmp_ge (eX5_shiftBy 16 rfl) (t := 73) (by decide) ?_ ?_
  · exact zr_vret rfl rfl (eX5_shiftBy 45 rfl)
  · refine zr_aload_n (r := (some a0)) (eX5_shiftBy 17 rfl) rfl rfl ?_
    refine zr_getI zf_RX5_54 ⟨by decide, by decide⟩ (eX5_shiftBy 18 rfl) ?_
    refine zr_iconst (eX5_shiftBy 19 rfl) zk_iconst_1 ?_
    refine zr_isub (eX5_shiftBy 20 rfl) ?_
    refine v_leti (fun x27 => ?_)
    refine zr_istore_n (ls2 := [some (.ref a0, 5), some (.int x1, 0), some (.int x25, 0), some (.int x27, 0)]) (eX5_shiftBy 21 rfl) rfl (Nat.le_of_ble_eq_true rfl) rfl ?_
    refine v_jn (fun (k28 : Zh → Option (Zh)) => ∀ (h3 : Zh), V l mX5_shiftBy (zN h) (zS h) 0 zoV 67 [some (.ref a0, 5), some (.int x1, 0), some (.int x25, 0), none] [] h3 (k28 h3)) ?_ ?_
    · intro h3
      unfold gX5_shiftBy_J1
      refine zr_iinc (ls2 := [some (.ref a0, 5), some (.int x1, 0), some (.int (x25 + 1), 0), none]) (eX5_shiftBy 43 rfl) rfl (Nat.le_of_ble_eq_true rfl) zk_iconst_1 rfl ?_
      refine zr_goto (eX5_shiftBy 44 rfl) (t := 21) (by decide) ?_
      exact v_drop [true, true, true, false] rfl (hk26 (x25 + 1) h3)
    intro k28 hk28
    refine v_drop [true, true, true, true] rfl ?_
    refine zlp_ind (fun (k30 : Int32 → Zh → Option (Zh)) => ∀ (x29 : Int32) (h4 : Zh), V l mX5_shiftBy (zN h) (zS h) 0 zoV 36 [some (.ref a0, 5), some (.int x1, 0), some (.int x25, 0), some (.int x29, 0)] [] h4 (k30 x29 h4)) ?_ ?_ x27 h2
    · exact fun _ _ => v_none
    intro k30 hk30 x29 h4
    unfold gX5_shiftBy_L2
    refine zr_iload_n (eX5_shiftBy 22 rfl) rfl rfl ?_
    refine zr_iload_n (eX5_shiftBy 23 rfl) rfl rfl ?_
    refine zr_icmp_lt (eX5_shiftBy 24 rfl) (t := 67) (by decide) ?_ ?_
    · exact v_drop [true, true, true, false] rfl (hk28 h4)
    · refine zr_aload_n (r := (some a0)) (eX5_shiftBy 25 rfl) rfl rfl ?_
      refine zr_getR2 zf_RX5_25 (τ2 := 21) rfl (eX5_shiftBy 26 rfl) ?_
      refine v_letr (fun r31 => ?_)
      refine zr_iload_n (eX5_shiftBy 27 rfl) rfl rfl ?_
      refine v_nn (fun a32 ea32 => ?_)
      subst ea32
      refine zr_dup2 (eX5_shiftBy 28 rfl) rfl rfl ?_
      refine zr_lald (eX5_shiftBy 29 rfl) ?_
      refine zr_iload_n (eX5_shiftBy 30 rfl) rfl rfl ?_
      refine zr_i2l (eX5_shiftBy 31 rfl) ?_
      refine zr_aload_n (r := (some a0)) (eX5_shiftBy 32 rfl) rfl rfl ?_
      refine zr_getR2 zf_RX5_25 (τ2 := 21) rfl (eX5_shiftBy 33 rfl) ?_
      refine v_letr (fun r33 => ?_)
      refine zr_iload_n (eX5_shiftBy 34 rfl) rfl rfl ?_
      refine zr_iconst (eX5_shiftBy 35 rfl) zk_iconst_1 ?_
      refine zr_iadd (eX5_shiftBy 36 rfl) ?_
      refine v_nn (fun a34 ea34 => ?_)
      subst ea34
      refine zr_lald (eX5_shiftBy 37 rfl) ?_
      refine zr_lmul (eX5_shiftBy 38 rfl) ?_
      refine zr_ladd (eX5_shiftBy 39 rfl) ?_
      refine zr_last (eX5_shiftBy 40 rfl) ?_
      refine v_leth (fun h5 => ?_)
      refine zr_iinc (ls2 := [some (.ref a0, 5), some (.int x1, 0), some (.int x25, 0), some (.int (x29 + (-1)), 0)]) (eX5_shiftBy 41 rfl) rfl (Nat.le_of_ble_eq_true rfl) zk_iconst_m1 rfl ?_
      refine zr_goto (eX5_shiftBy 42 rfl) (t := 36) (by decide) ?_
      exact v_drop [true, true, true, true] rfl (hk30 (x29 + (-1)) h5)
def gX5_rootsAt_L1 (a0 : Nat) (h1 : Zh) : (Int32 → Option (Int32 × Zh)) → Int32 → Option (Int32 × Zh) :=
  fun (k22 : Int32 → Option (Int32 × Zh)) (x21 : Int32) => (if ((zI h1 a0 13) : Int32) ≤ x21 then (some (x21, h1))
  else zlt (zR h1 a0 4) (fun r23 => Option.bind r23 (fun a24 => zg (zin x21 (zL h1 a24)) ((if ((lg_cmp (zJ h1 a24 (zx x21)) 0) : Int32) = 0 then k22 (x21 + 1)
  else (some (x21, h1)))))))
def gX5_rootsAt (h : Zh) (a0 : Nat) (x1 : Int32) : Option (Int32 × Zh) :=
  zbV (gX5_shiftBy h a0 x1) (fun h1 => zlp (fun (_ : Int32) => (none : Option (Int32 × Zh))) (gX5_rootsAt_L1 a0 h1) zFU 0)
set_option maxRecDepth 20000 in
theorem cX5_rootsAt_ok (l : Launch) (h : Zh) (a0 : Nat) (x1 : Int32) : Zc l yX5_rootsAt mX5_rootsAt 0 h [(.ref a0, 5), (.int x1, 0)] ((gX5_rootsAt h a0 x1).map zoI) := by
  refine zc_of2 (ls := [some (.ref a0, 5), some (.int x1, 0), none]) (j := 1) (by decide +kernel) rfl rfl (zEn_ca (zEn_ci rfl)) (Nat.le_of_ble_eq_true rfl) rfl ?_
  unfold gX5_rootsAt
  refine zr_aload_n (r := (some a0)) (eX5_rootsAt 0 rfl) rfl rfl ?_
  refine zr_iload_n (eX5_rootsAt 1 rfl) rfl rfl ?_
  refine zr_invV_V (as := [(.int x1, 0)]) (cX5_shiftBy_ok l h a0 x1) rfl rfl ⟨by decide, by decide, by decide⟩ zcd_X5_shiftBy rfl ⟨zw_424, zw_425, zw_426, zw_64⟩ ⟨Nat.le_of_ble_eq_true rfl, Nat.le_of_ble_eq_true rfl⟩ rfl (Nat.le_of_ble_eq_true rfl) (eX5_rootsAt 2 rfl) (fun h1 => ?_)
  refine zr_iconst (eX5_rootsAt 3 rfl) zk_iconst_0 ?_
  refine zr_istore_n (ls2 := [some (.ref a0, 5), some (.int x1, 0), some (.int 0, 0)]) (eX5_rootsAt 4 rfl) rfl (Nat.le_of_ble_eq_true rfl) rfl ?_
  refine v_drop [true, false, true] rfl ?_
  refine zlp_ind (fun (k22 : Int32 → Option (Int32 × Zh)) => ∀ (x21 : Int32), V l mX5_rootsAt (zN h) (zS h) 0 zoI 7 [some (.ref a0, 5), none, some (.int x21, 0)] [] h1 (k22 x21)) ?_ ?_ 0
  · exact fun _ => v_none
  intro k22 hk22 x21
  unfold gX5_rootsAt_L1
  refine zr_iload_n (eX5_rootsAt 5 rfl) rfl rfl ?_
  refine zr_aload_n (r := (some a0)) (eX5_rootsAt 6 rfl) rfl rfl ?_
  refine zr_getI zf_RX5_54 ⟨by decide, by decide⟩ (eX5_rootsAt 7 rfl) ?_
  refine zr_icmp_ge (eX5_rootsAt 8 rfl) (t := 32) (by decide) ?_ ?_
  · refine zr_iload_n (eX5_rootsAt 18 rfl) rfl rfl ?_
    exact zr_iret rfl rfl (eX5_rootsAt 19 rfl)
  · refine zr_aload_n (r := (some a0)) (eX5_rootsAt 9 rfl) rfl rfl ?_
    refine zr_getR2 zf_RX5_25 (τ2 := 21) rfl (eX5_rootsAt 10 rfl) ?_
    refine v_letr (fun r23 => ?_)
    refine zr_iload_n (eX5_rootsAt 11 rfl) rfl rfl ?_
    refine v_nn (fun a24 ea24 => ?_)
    subst ea24
    refine zr_lald (eX5_rootsAt 12 rfl) ?_
    refine zr_lconst (eX5_rootsAt 13 rfl) zk_lconst_0 ?_
    refine zr_lcmp (eX5_rootsAt 14 rfl) ?_
    refine zr_if_ne (eX5_rootsAt 15 rfl) (t := 32) (by decide) ?_ ?_
    · refine zr_iload_n (eX5_rootsAt 18 rfl) rfl rfl ?_
      exact zr_iret rfl rfl (eX5_rootsAt 19 rfl)
    · refine zr_iinc (ls2 := [some (.ref a0, 5), none, some (.int (x21 + 1), 0)]) (eX5_rootsAt 16 rfl) rfl (Nat.le_of_ble_eq_true rfl) zk_iconst_1 rfl ?_
      refine zr_goto (eX5_rootsAt 17 rfl) (t := 7) (by decide) ?_
      exact v_drop [true, false, true] rfl (hk22 (x21 + 1))
def gX5_rootsAbove_J1 (x24 : Int32) (k25 : Int32 → Int32 → Int32 → Option (Int32 × Zh)) : Int32 → Int32 → Option (Int32 × Zh) :=
  fun (x28 : Int32) (x29 : Int32) => k25 x28 x29 (x24 + (-1))
def gX5_rootsAbove_J2 (x22 : Int32) (k30 : Int32 → Int32 → Option (Int32 × Zh)) : Int32 → Option (Int32 × Zh) :=
  fun (x34 : Int32) => k30 (x22 + 1) x34
def gX5_rootsAbove_J3 (x22 : Int32) (x23 : Int32) (k30 : Int32 → Int32 → Option (Int32 × Zh)) : Int32 → Option (Int32 × Zh) :=
  fun (x33 : Int32) => (if (x33 : Int32) = x23 then k30 x22 x23
  else zjn (gX5_rootsAbove_J2 x22 k30) (fun (k35 : Int32 → Option (Int32 × Zh)) =>
  (if (x23 : Int32) = 0 then k35 1
  else k35 0)))
def gX5_rootsAbove_L4 (a0 : Nat) (h1 : Zh) : (Int32 → Int32 → Int32 → Option (Int32 × Zh)) → Int32 → Int32 → Int32 → Option (Int32 × Zh) :=
  fun (k25 : Int32 → Int32 → Int32 → Option (Int32 × Zh)) (x22 : Int32) (x23 : Int32) (x24 : Int32) => (if (x24 : Int32) < 0 then (some (x22, h1))
  else zlt (zR h1 a0 4) (fun r26 => Option.bind r26 (fun a27 => zg (zin x24 (zL h1 a27)) (zjn (gX5_rootsAbove_J1 x24 k25) (fun (k30 : Int32 → Int32 → Option (Int32 × Zh)) =>
  (if ((lg_cmp (zJ h1 a27 (zx x24)) 0) : Int32) = 0 then k30 x22 x23
  else zlt (zR h1 a0 4) (fun r31 => Option.bind r31 (fun a32 => zg (zin x24 (zL h1 a32)) (zjn (gX5_rootsAbove_J3 x22 x23 k30) (fun (k36 : Int32 → Option (Int32 × Zh)) =>
  (if (0 : Int32) ≤ (lg_cmp (zJ h1 a32 (zx x24)) 0) then k36 0
  else k36 1)))))))))))
def gX5_rootsAbove (h : Zh) (a0 : Nat) (x1 : Int32) : Option (Int32 × Zh) :=
  zbV (gX5_shiftBy h a0 x1) (fun h1 => zlt (zI h1 a0 13) (fun x21 => zlp (fun (_ : Int32) (_ : Int32) (_ : Int32) => (none : Option (Int32 × Zh))) (gX5_rootsAbove_L4 a0 h1) zFU 0 0 x21))
set_option maxRecDepth 20000 in
theorem cX5_rootsAbove_ok (l : Launch) (h : Zh) (a0 : Nat) (x1 : Int32) : Zc l yX5_rootsAbove mX5_rootsAbove 0 h [(.ref a0, 5), (.int x1, 0)] ((gX5_rootsAbove h a0 x1).map zoI) := by
  refine zc_of2 (ls := [some (.ref a0, 5), some (.int x1, 0), none, none, none]) (j := 3) (by decide +kernel) rfl rfl (zEn_ca (zEn_ci rfl)) (Nat.le_of_ble_eq_true rfl) rfl ?_
  unfold gX5_rootsAbove
  refine zr_aload_n (r := (some a0)) (eX5_rootsAbove 0 rfl) rfl rfl ?_
  refine zr_iload_n (eX5_rootsAbove 1 rfl) rfl rfl ?_
  refine zr_invV_V (as := [(.int x1, 0)]) (cX5_shiftBy_ok l h a0 x1) rfl rfl ⟨by decide, by decide, by decide⟩ zcd_X5_shiftBy rfl ⟨zw_424, zw_425, zw_426, zw_64⟩ ⟨Nat.le_of_ble_eq_true rfl, Nat.le_of_ble_eq_true rfl⟩ rfl (Nat.le_of_ble_eq_true rfl) (eX5_rootsAbove 2 rfl) (fun h1 => ?_)
  refine zr_iconst (eX5_rootsAbove 3 rfl) zk_iconst_0 ?_
  refine zr_istore_n (ls2 := [some (.ref a0, 5), some (.int x1, 0), some (.int 0, 0), none, none]) (eX5_rootsAbove 4 rfl) rfl (Nat.le_of_ble_eq_true rfl) rfl ?_
  refine zr_iconst (eX5_rootsAbove 5 rfl) zk_iconst_0 ?_
  refine zr_istore_n (ls2 := [some (.ref a0, 5), some (.int x1, 0), some (.int 0, 0), some (.int 0, 0), none]) (eX5_rootsAbove 6 rfl) rfl (Nat.le_of_ble_eq_true rfl) rfl ?_
  refine zr_aload_n (r := (some a0)) (eX5_rootsAbove 7 rfl) rfl rfl ?_
  refine zr_getI zf_RX5_54 ⟨by decide, by decide⟩ (eX5_rootsAbove 8 rfl) ?_
  refine v_leti (fun x21 => ?_)
  refine zr_istore (ls2 := [some (.ref a0, 5), some (.int x1, 0), some (.int 0, 0), some (.int 0, 0), some (.int x21, 0)]) (eX5_rootsAbove 9 rfl) (Nat.le_of_ble_eq_true rfl) rfl ?_
  refine v_drop [true, false, true, true, true] rfl ?_
  refine zlp_ind (fun (k25 : Int32 → Int32 → Int32 → Option (Int32 × Zh)) => ∀ (x22 : Int32) (x23 : Int32) (x24 : Int32), V l mX5_rootsAbove (zN h) (zS h) 0 zoI 15 [some (.ref a0, 5), none, some (.int x22, 0), some (.int x23, 0), some (.int x24, 0)] [] h1 (k25 x22 x23 x24)) ?_ ?_ 0 0 x21
  · exact fun _ _ _ => v_none
  intro k25 hk25 x22 x23 x24
  unfold gX5_rootsAbove_L4
  refine zr_iload (eX5_rootsAbove 10 rfl) rfl ?_
  refine zr_if_lt (eX5_rootsAbove 11 rfl) (t := 72) (by decide) ?_ ?_
  · refine zr_iload_n (eX5_rootsAbove 40 rfl) rfl rfl ?_
    exact zr_iret rfl rfl (eX5_rootsAbove 41 rfl)
  · refine zr_aload_n (r := (some a0)) (eX5_rootsAbove 12 rfl) rfl rfl ?_
    refine zr_getR2 zf_RX5_25 (τ2 := 21) rfl (eX5_rootsAbove 13 rfl) ?_
    refine v_letr (fun r26 => ?_)
    refine zr_iload (eX5_rootsAbove 14 rfl) rfl ?_
    refine v_nn (fun a27 ea27 => ?_)
    subst ea27
    refine zr_lald (eX5_rootsAbove 15 rfl) ?_
    refine zr_lconst (eX5_rootsAbove 16 rfl) zk_lconst_0 ?_
    refine zr_lcmp (eX5_rootsAbove 17 rfl) ?_
    refine v_jn (fun (k30 : Int32 → Int32 → Option (Int32 × Zh)) => ∀ (x28 : Int32) (x29 : Int32), V l mX5_rootsAbove (zN h) (zS h) 0 zoI 66 [some (.ref a0, 5), none, some (.int x28, 0), some (.int x29, 0), some (.int x24, 0)] [] h1 (k30 x28 x29)) ?_ ?_
    · intro x28 x29
      unfold gX5_rootsAbove_J1
      refine zr_iinc (ls2 := [some (.ref a0, 5), none, some (.int x28, 0), some (.int x29, 0), some (.int (x24 + (-1)), 0)]) (eX5_rootsAbove 38 rfl) rfl (Nat.le_of_ble_eq_true rfl) zk_iconst_m1 rfl ?_
      refine zr_goto (eX5_rootsAbove 39 rfl) (t := 15) (by decide) ?_
      exact v_drop [true, false, true, true, true] rfl (hk25 x28 x29 (x24 + (-1)))
    intro k30 hk30
    refine zr_if_eq (eX5_rootsAbove 18 rfl) (t := 66) (by decide) ?_ ?_
    · exact v_drop [true, false, true, true, true] rfl (hk30 x22 x23)
    · refine zr_aload_n (r := (some a0)) (eX5_rootsAbove 19 rfl) rfl rfl ?_
      refine zr_getR2 zf_RX5_25 (τ2 := 21) rfl (eX5_rootsAbove 20 rfl) ?_
      refine v_letr (fun r31 => ?_)
      refine zr_iload (eX5_rootsAbove 21 rfl) rfl ?_
      refine v_nn (fun a32 ea32 => ?_)
      subst ea32
      refine zr_lald (eX5_rootsAbove 22 rfl) ?_
      refine zr_lconst (eX5_rootsAbove 23 rfl) zk_lconst_0 ?_
      refine zr_lcmp (eX5_rootsAbove 24 rfl) ?_
      refine v_jn (fun (k36 : Int32 → Option (Int32 × Zh)) => ∀ (x33 : Int32), V l mX5_rootsAbove (zN h) (zS h) 0 zoI 49 [some (.ref a0, 5), none, some (.int x22, 0), some (.int x23, 0), some (.int x24, 0)] [(.int x33, 0)] h1 (k36 x33)) ?_ ?_
      · intro x33
        unfold gX5_rootsAbove_J3
        refine zr_iload_n (eX5_rootsAbove 29 rfl) rfl rfl ?_
        refine zr_icmp_eq (eX5_rootsAbove 30 rfl) (t := 66) (by decide) ?_ ?_
        · exact v_drop [true, false, true, true, true] rfl (hk30 x22 x23)
        · refine zr_iload_n (eX5_rootsAbove 31 rfl) rfl rfl ?_
          refine v_jn (fun (k35 : Int32 → Option (Int32 × Zh)) => ∀ (x34 : Int32), V l mX5_rootsAbove (zN h) (zS h) 0 zoI 62 [some (.ref a0, 5), none, some (.int x22, 0), none, some (.int x24, 0)] [(.int x34, 0)] h1 (k35 x34)) ?_ ?_
          · intro x34
            unfold gX5_rootsAbove_J2
            refine zr_istore_n (ls2 := [some (.ref a0, 5), none, some (.int x22, 0), some (.int x34, 0), some (.int x24, 0)]) (eX5_rootsAbove 36 rfl) rfl (Nat.le_of_ble_eq_true rfl) rfl ?_
            refine zr_iinc (ls2 := [some (.ref a0, 5), none, some (.int (x22 + 1), 0), some (.int x34, 0), some (.int x24, 0)]) (eX5_rootsAbove 37 rfl) rfl (Nat.le_of_ble_eq_true rfl) zk_iconst_1 rfl ?_
            exact v_drop [true, false, true, true, true] rfl (hk30 (x22 + 1) x34)
          intro k35 hk35
          refine zr_if_ne (eX5_rootsAbove 32 rfl) (t := 61) (by decide) ?_ ?_
          · refine zr_iconst (eX5_rootsAbove 35 rfl) zk_iconst_0 ?_
            exact v_drop [true, false, true, false, true] rfl (hk35 0)
          · refine zr_iconst (eX5_rootsAbove 33 rfl) zk_iconst_1 ?_
            refine zr_goto (eX5_rootsAbove 34 rfl) (t := 62) (by decide) ?_
            exact v_drop [true, false, true, false, true] rfl (hk35 1)
      intro k36 hk36
      refine zr_if_ge (eX5_rootsAbove 25 rfl) (t := 48) (by decide) ?_ ?_
      · refine zr_iconst (eX5_rootsAbove 28 rfl) zk_iconst_0 ?_
        exact v_drop [true, false, true, true, true] rfl (hk36 0)
      · refine zr_iconst (eX5_rootsAbove 26 rfl) zk_iconst_1 ?_
        refine zr_goto (eX5_rootsAbove 27 rfl) (t := 49) (by decide) ?_
        exact v_drop [true, false, true, true, true] rfl (hk36 1)
def gX5_valueAt_L1 (h : Zh) (a0 : Nat) (x1 : Int32) : (Int64 → Int32 → Option (Int64)) → Int64 → Int32 → Option (Int64) :=
  fun (k24 : Int64 → Int32 → Option (Int64)) (x22 : Int64) (x23 : Int32) => (if (x23 : Int32) < 0 then (some x22)
  else zlt (zR h a0 3) (fun r25 => Option.bind r25 (fun a26 => zg (zin x23 (zL h a26)) (zlt ((x22 * ((x1 : Int32).toInt64)) + (zJ h a26 (zx x23))) (fun x27 => k24 x27 (x23 + (-1)))))))
def gX5_valueAt (h : Zh) (a0 : Nat) (x1 : Int32) : Option (Int64) :=
  zlt (zI h a0 13) (fun x21 => zlp (fun (_ : Int64) (_ : Int32) => (none : Option (Int64))) (gX5_valueAt_L1 h a0 x1) zFU 0 x21)
set_option maxRecDepth 20000 in
theorem cX5_valueAt_ok (l : Launch) (h : Zh) (a0 : Nat) (x1 : Int32) : Zc l yX5_valueAt mX5_valueAt 0 h [(.ref a0, 5), (.int x1, 0)] ((gX5_valueAt h a0 x1).map (zoj h)) := by
  refine zc_of2 (ls := [some (.ref a0, 5), some (.int x1, 0), none, none, none]) (j := 3) (by decide +kernel) rfl rfl (zEn_ca (zEn_ci rfl)) (Nat.le_of_ble_eq_true rfl) rfl ?_
  unfold gX5_valueAt
  refine zr_lconst (eX5_valueAt 0 rfl) zk_lconst_0 ?_
  refine zr_lstore_n (ls2 := [some (.ref a0, 5), some (.int x1, 0), some (.long 0, 0), none, none]) (eX5_valueAt 1 rfl) rfl (Nat.le_of_ble_eq_true rfl) rfl ?_
  refine zr_aload_n (r := (some a0)) (eX5_valueAt 2 rfl) rfl rfl ?_
  refine zr_getI zf_RX5_54 ⟨by decide, by decide⟩ (eX5_valueAt 3 rfl) ?_
  refine v_leti (fun x21 => ?_)
  refine zr_istore (ls2 := [some (.ref a0, 5), some (.int x1, 0), some (.long 0, 0), none, some (.int x21, 0)]) (eX5_valueAt 4 rfl) (Nat.le_of_ble_eq_true rfl) rfl ?_
  refine v_drop [true, true, true, false, true] rfl ?_
  refine zlp_ind (fun (k24 : Int64 → Int32 → Option (Int64)) => ∀ (x22 : Int64) (x23 : Int32), V l mX5_valueAt (zN h) (zS h) 0 (zoj h) 8 [some (.ref a0, 5), some (.int x1, 0), some (.long x22, 0), none, some (.int x23, 0)] [] h (k24 x22 x23)) ?_ ?_ 0 x21
  · exact fun _ _ => v_none
  intro k24 hk24 x22 x23
  unfold gX5_valueAt_L1
  refine zr_iload (eX5_valueAt 5 rfl) rfl ?_
  refine zr_if_lt (eX5_valueAt 6 rfl) (t := 32) (by decide) ?_ ?_
  · refine zr_lload_n (eX5_valueAt 19 rfl) rfl rfl ?_
    exact zr_lret rfl rfl (eX5_valueAt 20 rfl)
  · refine zr_lload_n (eX5_valueAt 7 rfl) rfl rfl ?_
    refine zr_iload_n (eX5_valueAt 8 rfl) rfl rfl ?_
    refine zr_i2l (eX5_valueAt 9 rfl) ?_
    refine zr_lmul (eX5_valueAt 10 rfl) ?_
    refine zr_aload_n (r := (some a0)) (eX5_valueAt 11 rfl) rfl rfl ?_
    refine zr_getR2 zf_RX5_22 (τ2 := 21) rfl (eX5_valueAt 12 rfl) ?_
    refine v_letr (fun r25 => ?_)
    refine zr_iload (eX5_valueAt 13 rfl) rfl ?_
    refine v_nn (fun a26 ea26 => ?_)
    subst ea26
    refine zr_lald (eX5_valueAt 14 rfl) ?_
    refine zr_ladd (eX5_valueAt 15 rfl) ?_
    refine v_letj (fun x27 => ?_)
    refine zr_lstore_n (ls2 := [some (.ref a0, 5), some (.int x1, 0), some (.long x27, 0), none, some (.int x23, 0)]) (eX5_valueAt 16 rfl) rfl (Nat.le_of_ble_eq_true rfl) rfl ?_
    refine zr_iinc (ls2 := [some (.ref a0, 5), some (.int x1, 0), some (.long x27, 0), none, some (.int (x23 + (-1)), 0)]) (eX5_valueAt 17 rfl) rfl (Nat.le_of_ble_eq_true rfl) zk_iconst_m1 rfl ?_
    refine zr_goto (eX5_valueAt 18 rfl) (t := 8) (by decide) ?_
    exact v_drop [true, true, true, false, true] rfl (hk24 x27 (x23 + (-1)))
def gX5_wholeRoots_J1 (x22 : Int32) (k23 : Int32 → Int32 → Zh → Option (Int32 × Zh)) : Int32 → Zh → Option (Int32 × Zh) :=
  fun (x25 : Int32) (h2 : Zh) => k23 x25 (x22 + 1) h2
def gX5_wholeRoots_L2 (a0 : Nat) : (Int32 → Int32 → Zh → Option (Int32 × Zh)) → Int32 → Int32 → Zh → Option (Int32 × Zh) :=
  fun (k23 : Int32 → Int32 → Zh → Option (Int32 × Zh)) (x21 : Int32) (x22 : Int32) (h1 : Zh) => (if (50 : Int32) < x22 then (some (x21, h1))
  else zbj (gX5_valueAt h1 a0 x22) (fun x24 => zjn (gX5_wholeRoots_J1 x22 k23) (fun (k26 : Int32 → Zh → Option (Int32 × Zh)) =>
  (if ((lg_cmp x24 0) : Int32) = 0 then zbI (gX5_rootsAt h1 a0 x22) (fun x27 h3 => zlt (x21 + x27) (fun x28 => k26 x28 h3))
  else k26 x21 h1))))
def gX5_wholeRoots (h : Zh) (a0 : Nat) : Option (Int32 × Zh) :=
  zlp (fun (_ : Int32) (_ : Int32) (_ : Zh) => (none : Option (Int32 × Zh))) (gX5_wholeRoots_L2 a0) zFU 0 (-50) h
set_option maxRecDepth 20000 in
theorem cX5_wholeRoots_ok (l : Launch) (h : Zh) (a0 : Nat) : Zc l yX5_wholeRoots mX5_wholeRoots 0 h [(.ref a0, 5)] ((gX5_wholeRoots h a0).map zoI) := by
  refine zc_of2 (ls := [some (.ref a0, 5), none, none]) (j := 2) (by decide +kernel) rfl rfl (zEn_ca rfl) (Nat.le_of_ble_eq_true rfl) rfl ?_
  unfold gX5_wholeRoots
  refine zr_iconst (eX5_wholeRoots 0 rfl) zk_iconst_0 ?_
  refine zr_istore_n (ls2 := [some (.ref a0, 5), some (.int 0, 0), none]) (eX5_wholeRoots 1 rfl) rfl (Nat.le_of_ble_eq_true rfl) rfl ?_
  refine zr_bipush (eX5_wholeRoots 2 rfl) zk_bipush_m50 ?_
  refine zr_istore_n (ls2 := [some (.ref a0, 5), some (.int 0, 0), some (.int (-50), 0)]) (eX5_wholeRoots 3 rfl) rfl (Nat.le_of_ble_eq_true rfl) rfl ?_
  refine v_drop [true, true, true] rfl ?_
  refine zlp_ind (fun (k23 : Int32 → Int32 → Zh → Option (Int32 × Zh)) => ∀ (x21 : Int32) (x22 : Int32) (h1 : Zh), V l mX5_wholeRoots (zN h) (zS h) 0 zoI 5 [some (.ref a0, 5), some (.int x21, 0), some (.int x22, 0)] [] h1 (k23 x21 x22 h1)) ?_ ?_ 0 (-50) h
  · exact fun _ _ _ => v_none
  intro k23 hk23 x21 x22 h1
  unfold gX5_wholeRoots_L2
  refine zr_iload_n (eX5_wholeRoots 4 rfl) rfl rfl ?_
  refine zr_bipush (eX5_wholeRoots 5 rfl) zk_bipush_50 ?_
  refine zr_icmp_gt (eX5_wholeRoots 6 rfl) (t := 35) (by decide) ?_ ?_
  · refine zr_iload_n (eX5_wholeRoots 21 rfl) rfl rfl ?_
    exact zr_iret rfl rfl (eX5_wholeRoots 22 rfl)
  · refine zr_aload_n (r := (some a0)) (eX5_wholeRoots 7 rfl) rfl rfl ?_
    refine zr_iload_n (eX5_wholeRoots 8 rfl) rfl rfl ?_
    refine zr_invV_j (as := [(.int x22, 0)]) (cX5_valueAt_ok l h1 a0 x22) rfl rfl ⟨by decide, by decide, by decide⟩ zcd_X5_valueAt rfl ⟨zw_444, zw_445, zw_446, zw_64⟩ ⟨Nat.le_of_ble_eq_true rfl, Nat.le_of_ble_eq_true rfl⟩ rfl (Nat.le_of_ble_eq_true rfl) (eX5_wholeRoots 9 rfl) (fun x24 => ?_)
    refine zr_lconst (eX5_wholeRoots 10 rfl) zk_lconst_0 ?_
    refine zr_lcmp (eX5_wholeRoots 11 rfl) ?_
    refine v_jn (fun (k26 : Int32 → Zh → Option (Int32 × Zh)) => ∀ (x25 : Int32) (h2 : Zh), V l mX5_wholeRoots (zN h) (zS h) 0 zoI 29 [some (.ref a0, 5), some (.int x25, 0), some (.int x22, 0)] [] h2 (k26 x25 h2)) ?_ ?_
    · intro x25 h2
      unfold gX5_wholeRoots_J1
      refine zr_iinc (ls2 := [some (.ref a0, 5), some (.int x25, 0), some (.int (x22 + 1), 0)]) (eX5_wholeRoots 19 rfl) rfl (Nat.le_of_ble_eq_true rfl) zk_iconst_1 rfl ?_
      refine zr_goto (eX5_wholeRoots 20 rfl) (t := 5) (by decide) ?_
      exact v_drop [true, true, true] rfl (hk23 x25 (x22 + 1) h2)
    intro k26 hk26
    refine zr_if_ne (eX5_wholeRoots 12 rfl) (t := 29) (by decide) ?_ ?_
    · exact v_drop [true, true, true] rfl (hk26 x21 h1)
    · refine zr_iload_n (eX5_wholeRoots 13 rfl) rfl rfl ?_
      refine zr_aload_n (r := (some a0)) (eX5_wholeRoots 14 rfl) rfl rfl ?_
      refine zr_iload_n (eX5_wholeRoots 15 rfl) rfl rfl ?_
      refine zr_invV_I (as := [(.int x22, 0)]) (cX5_rootsAt_ok l h1 a0 x22) rfl rfl ⟨by decide, by decide, by decide⟩ zcd_X5_rootsAt rfl ⟨zw_448, zw_433, zw_434, zw_64⟩ ⟨Nat.le_of_ble_eq_true rfl, Nat.le_of_ble_eq_true rfl⟩ rfl (Nat.le_of_ble_eq_true rfl) (eX5_wholeRoots 16 rfl) (fun x27 h3 => ?_)
      refine zr_iadd (eX5_wholeRoots 17 rfl) ?_
      refine v_leti (fun x28 => ?_)
      refine zr_istore_n (ls2 := [some (.ref a0, 5), some (.int x28, 0), some (.int x22, 0)]) (eX5_wholeRoots 18 rfl) rfl (Nat.le_of_ble_eq_true rfl) rfl ?_
      exact v_drop [true, true, true] rfl (hk26 x28 h3)
def gX5_fromTop (h : Zh) (a0 : Nat) (x1 : Int32) : Option (Int64) :=
  (if ((zI h a0 13) : Int32) < x1 then (some 0)
  else zlt (zR h a0 3) (fun r21 => Option.bind r21 (fun a22 => zg (zin ((zI h a0 13) - x1) (zL h a22)) ((some (zJ h a22 (zx ((zI h a0 13) - x1))))))))
set_option maxRecDepth 20000 in
theorem cX5_fromTop_ok (l : Launch) (h : Zh) (a0 : Nat) (x1 : Int32) : Zc l yX5_fromTop mX5_fromTop 0 h [(.ref a0, 5), (.int x1, 0)] ((gX5_fromTop h a0 x1).map (zoj h)) := by
  refine zc_of2 (ls := [some (.ref a0, 5), some (.int x1, 0)]) (j := 0) (by decide +kernel) rfl rfl (zEn_ca (zEn_ci rfl)) (Nat.le_of_ble_eq_true rfl) rfl ?_
  unfold gX5_fromTop
  refine zr_iload_n (eX5_fromTop 0 rfl) rfl rfl ?_
  refine zr_aload_n (r := (some a0)) (eX5_fromTop 1 rfl) rfl rfl ?_
  refine zr_getI zf_RX5_54 ⟨by decide, by decide⟩ (eX5_fromTop 2 rfl) ?_
  refine zr_icmp_gt (eX5_fromTop 3 rfl) (t := 22) (by decide) ?_ ?_
  · refine zr_lconst (eX5_fromTop 12 rfl) zk_lconst_0 ?_
    exact zr_lret rfl rfl (eX5_fromTop 13 rfl)
  · refine zr_aload_n (r := (some a0)) (eX5_fromTop 4 rfl) rfl rfl ?_
    refine zr_getR2 zf_RX5_22 (τ2 := 21) rfl (eX5_fromTop 5 rfl) ?_
    refine v_letr (fun r21 => ?_)
    refine zr_aload_n (r := (some a0)) (eX5_fromTop 6 rfl) rfl rfl ?_
    refine zr_getI zf_RX5_54 ⟨by decide, by decide⟩ (eX5_fromTop 7 rfl) ?_
    refine zr_iload_n (eX5_fromTop 8 rfl) rfl rfl ?_
    refine zr_isub (eX5_fromTop 9 rfl) ?_
    refine v_nn (fun a22 ea22 => ?_)
    subst ea22
    refine zr_lald (eX5_fromTop 10 rfl) ?_
    refine zr_goto (eX5_fromTop 11 rfl) (t := 23) (by decide) ?_
    exact zr_lret rfl rfl (eX5_fromTop 13 rfl)
def gX5_powerSum_J1 (a0 : Nat) (x1 : Int32) : Zh → Option (Int64 × Zh) :=
  fun (h1 : Zh) => zlt (zR h1 a0 6) (fun r21 => Option.bind r21 (fun a22 => zg (zin x1 (zL h1 a22)) ((some ((zJ h1 a22 (zx x1)), h1)))))
def gX5_powerSum_J2 (a0 : Nat) (x24 : Int32) (h2 : Zh) (k25 : Int32 → Zh → Option (Int64 × Zh)) : Int64 → Option (Int64 × Zh) :=
  fun (x28 : Int64) => zlt (zR h2 a0 6) (fun r29 => Option.bind r29 (fun a30 => zg (zin x24 (zL h2 a30)) (zlt (zsJ h2 a30 (zx x24) (-x28)) (fun (h3 : Zh) => k25 (x24 + 1) h3))))
def gX5_powerSum_L3 (a0 : Nat) (x24 : Int32) (h2 : Zh) (k31 : Int64 → Option (Int64 × Zh)) : (Int64 → Int32 → Option (Int64 × Zh)) → Int64 → Int32 → Option (Int64 × Zh) :=
  fun (k34 : Int64 → Int32 → Option (Int64 × Zh)) (x32 : Int64) (x33 : Int32) => (if (x24 : Int32) ≤ x33 then k31 x32
  else zbj (gX5_fromTop h2 a0 x33) (fun x35 => zlt (zR h2 a0 6) (fun r36 => Option.bind r36 (fun a37 => zg (zin (x24 - x33) (zL h2 a37)) (zlt (x32 + (x35 * (zJ h2 a37 (zx (x24 - x33))))) (fun x38 => k34 x38 (x33 + 1)))))))
def gX5_powerSum_L4 (a0 : Nat) (x1 : Int32) (k23 : Zh → Option (Int64 × Zh)) : (Int32 → Zh → Option (Int64 × Zh)) → Int32 → Zh → Option (Int64 × Zh) :=
  fun (k25 : Int32 → Zh → Option (Int64 × Zh)) (x24 : Int32) (h2 : Zh) => (if (x1 : Int32) < x24 then k23 h2
  else zbj (gX5_fromTop h2 a0 x24) (fun x26 => zlt (((x24 : Int32).toInt64) * x26) (fun x27 => zjn (gX5_powerSum_J2 a0 x24 h2 k25) (fun (k31 : Int64 → Option (Int64 × Zh)) =>
  zlp (fun (_ : Int64) (_ : Int32) => (none : Option (Int64 × Zh))) (gX5_powerSum_L3 a0 x24 h2 k31) zFU x27 1))))
def gX5_powerSum (h : Zh) (a0 : Nat) (x1 : Int32) : Option (Int64 × Zh) :=
  zjn (gX5_powerSum_J1 a0 x1) (fun (k23 : Zh → Option (Int64 × Zh)) =>
  zlp (fun (_ : Int32) (_ : Zh) => (none : Option (Int64 × Zh))) (gX5_powerSum_L4 a0 x1 k23) zFU 1 h)
set_option maxRecDepth 20000 in
theorem cX5_powerSum_ok (l : Launch) (h : Zh) (a0 : Nat) (x1 : Int32) : Zc l yX5_powerSum mX5_powerSum 0 h [(.ref a0, 5), (.int x1, 0)] ((gX5_powerSum h a0 x1).map zoJ) := by
  refine zc_of2 (ls := [some (.ref a0, 5), some (.int x1, 0), none, none, none, none]) (j := 4) (by decide +kernel) rfl rfl (zEn_ca (zEn_ci rfl)) (Nat.le_of_ble_eq_true rfl) rfl ?_
  unfold gX5_powerSum
  refine zr_iconst (eX5_powerSum 0 rfl) zk_iconst_1 ?_
  refine zr_istore_n (ls2 := [some (.ref a0, 5), some (.int x1, 0), some (.int 1, 0), none, none, none]) (eX5_powerSum 1 rfl) rfl (Nat.le_of_ble_eq_true rfl) rfl ?_
  refine v_jn (fun (k23 : Zh → Option (Int64 × Zh)) => ∀ (h1 : Zh), V l mX5_powerSum (zN h) (zS h) 0 zoJ 64 [some (.ref a0, 5), some (.int x1, 0), none, none, none, none] [] h1 (k23 h1)) ?_ ?_
  · intro h1
    unfold gX5_powerSum_J1
    refine zr_aload_n (r := (some a0)) (eX5_powerSum 40 rfl) rfl rfl ?_
    refine zr_getR2 zf_RX5_31 (τ2 := 21) rfl (eX5_powerSum 41 rfl) ?_
    refine v_letr (fun r21 => ?_)
    refine zr_iload_n (eX5_powerSum 42 rfl) rfl rfl ?_
    refine v_nn (fun a22 ea22 => ?_)
    subst ea22
    refine zr_lald (eX5_powerSum 43 rfl) ?_
    exact zr_lret rfl rfl (eX5_powerSum 44 rfl)
  intro k23 hk23
  refine v_drop [true, true, true, false, false, false] rfl ?_
  refine zlp_ind (fun (k25 : Int32 → Zh → Option (Int64 × Zh)) => ∀ (x24 : Int32) (h2 : Zh), V l mX5_powerSum (zN h) (zS h) 0 zoJ 2 [some (.ref a0, 5), some (.int x1, 0), some (.int x24, 0), none, none, none] [] h2 (k25 x24 h2)) ?_ ?_ 1 h
  · exact fun _ _ => v_none
  intro k25 hk25 x24 h2
  unfold gX5_powerSum_L4
  refine zr_iload_n (eX5_powerSum 2 rfl) rfl rfl ?_
  refine zr_iload_n (eX5_powerSum 3 rfl) rfl rfl ?_
  refine zr_icmp_gt (eX5_powerSum 4 rfl) (t := 64) (by decide) ?_ ?_
  · exact v_drop [true, true, false, false, false, false] rfl (hk23 h2)
  · refine zr_iload_n (eX5_powerSum 5 rfl) rfl rfl ?_
    refine zr_i2l (eX5_powerSum 6 rfl) ?_
    refine zr_aload_n (r := (some a0)) (eX5_powerSum 7 rfl) rfl rfl ?_
    refine zr_iload_n (eX5_powerSum 8 rfl) rfl rfl ?_
    refine zr_invV_j (as := [(.int x24, 0)]) (cX5_fromTop_ok l h2 a0 x24) rfl rfl ⟨by decide, by decide, by decide⟩ zcd_X5_fromTop rfl ⟨zw_457, zw_458, zw_459, zw_64⟩ ⟨Nat.le_of_ble_eq_true rfl, Nat.le_of_ble_eq_true rfl⟩ rfl (Nat.le_of_ble_eq_true rfl) (eX5_powerSum 9 rfl) (fun x26 => ?_)
    refine zr_lmul (eX5_powerSum 10 rfl) ?_
    refine v_letj (fun x27 => ?_)
    refine zr_lstore_n (ls2 := [some (.ref a0, 5), some (.int x1, 0), some (.int x24, 0), some (.long x27, 0), none, none]) (eX5_powerSum 11 rfl) rfl (Nat.le_of_ble_eq_true rfl) rfl ?_
    refine zr_iconst (eX5_powerSum 12 rfl) zk_iconst_1 ?_
    refine zr_istore (ls2 := [some (.ref a0, 5), some (.int x1, 0), some (.int x24, 0), some (.long x27, 0), none, some (.int 1, 0)]) (eX5_powerSum 13 rfl) (Nat.le_of_ble_eq_true rfl) rfl ?_
    refine v_jn (fun (k31 : Int64 → Option (Int64 × Zh)) => ∀ (x28 : Int64), V l mX5_powerSum (zN h) (zS h) 0 zoJ 50 [some (.ref a0, 5), some (.int x1, 0), some (.int x24, 0), some (.long x28, 0), none, none] [] h2 (k31 x28)) ?_ ?_
    · intro x28
      unfold gX5_powerSum_J2
      refine zr_aload_n (r := (some a0)) (eX5_powerSum 32 rfl) rfl rfl ?_
      refine zr_getR2 zf_RX5_31 (τ2 := 21) rfl (eX5_powerSum 33 rfl) ?_
      refine v_letr (fun r29 => ?_)
      refine zr_iload_n (eX5_powerSum 34 rfl) rfl rfl ?_
      refine zr_lload_n (eX5_powerSum 35 rfl) rfl rfl ?_
      refine zr_lneg (eX5_powerSum 36 rfl) ?_
      refine v_nn (fun a30 ea30 => ?_)
      subst ea30
      refine zr_last (eX5_powerSum 37 rfl) ?_
      refine v_leth (fun h3 => ?_)
      refine zr_iinc (ls2 := [some (.ref a0, 5), some (.int x1, 0), some (.int (x24 + 1), 0), some (.long x28, 0), none, none]) (eX5_powerSum 38 rfl) rfl (Nat.le_of_ble_eq_true rfl) zk_iconst_1 rfl ?_
      refine zr_goto (eX5_powerSum 39 rfl) (t := 2) (by decide) ?_
      exact v_drop [true, true, true, false, false, false] rfl (hk25 (x24 + 1) h3)
    intro k31 hk31
    refine v_drop [true, true, true, true, false, true] rfl ?_
    refine zlp_ind (fun (k34 : Int64 → Int32 → Option (Int64 × Zh)) => ∀ (x32 : Int64) (x33 : Int32), V l mX5_powerSum (zN h) (zS h) 0 zoJ 19 [some (.ref a0, 5), some (.int x1, 0), some (.int x24, 0), some (.long x32, 0), none, some (.int x33, 0)] [] h2 (k34 x32 x33)) ?_ ?_ x27 1
    · exact fun _ _ => v_none
    intro k34 hk34 x32 x33
    unfold gX5_powerSum_L3
    refine zr_iload (eX5_powerSum 14 rfl) rfl ?_
    refine zr_iload_n (eX5_powerSum 15 rfl) rfl rfl ?_
    refine zr_icmp_ge (eX5_powerSum 16 rfl) (t := 50) (by decide) ?_ ?_
    · exact v_drop [true, true, true, true, false, false] rfl (hk31 x32)
    · refine zr_lload_n (eX5_powerSum 17 rfl) rfl rfl ?_
      refine zr_aload_n (r := (some a0)) (eX5_powerSum 18 rfl) rfl rfl ?_
      refine zr_iload (eX5_powerSum 19 rfl) rfl ?_
      refine zr_invV_j (as := [(.int x33, 0)]) (cX5_fromTop_ok l h2 a0 x33) rfl rfl ⟨by decide, by decide, by decide⟩ zcd_X5_fromTop rfl ⟨zw_457, zw_458, zw_459, zw_64⟩ ⟨Nat.le_of_ble_eq_true rfl, Nat.le_of_ble_eq_true rfl⟩ rfl (Nat.le_of_ble_eq_true rfl) (eX5_powerSum 20 rfl) (fun x35 => ?_)
      refine zr_aload_n (r := (some a0)) (eX5_powerSum 21 rfl) rfl rfl ?_
      refine zr_getR2 zf_RX5_31 (τ2 := 21) rfl (eX5_powerSum 22 rfl) ?_
      refine v_letr (fun r36 => ?_)
      refine zr_iload_n (eX5_powerSum 23 rfl) rfl rfl ?_
      refine zr_iload (eX5_powerSum 24 rfl) rfl ?_
      refine zr_isub (eX5_powerSum 25 rfl) ?_
      refine v_nn (fun a37 ea37 => ?_)
      subst ea37
      refine zr_lald (eX5_powerSum 26 rfl) ?_
      refine zr_lmul (eX5_powerSum 27 rfl) ?_
      refine zr_ladd (eX5_powerSum 28 rfl) ?_
      refine v_letj (fun x38 => ?_)
      refine zr_lstore_n (ls2 := [some (.ref a0, 5), some (.int x1, 0), some (.int x24, 0), some (.long x38, 0), none, some (.int x33, 0)]) (eX5_powerSum 29 rfl) rfl (Nat.le_of_ble_eq_true rfl) rfl ?_
      refine zr_iinc (ls2 := [some (.ref a0, 5), some (.int x1, 0), some (.int x24, 0), some (.long x38, 0), none, some (.int (x33 + 1), 0)]) (eX5_powerSum 30 rfl) rfl (Nat.le_of_ble_eq_true rfl) zk_iconst_1 rfl ?_
      refine zr_goto (eX5_powerSum 31 rfl) (t := 19) (by decide) ?_
      exact v_drop [true, true, true, true, false, true] rfl (hk34 x38 (x33 + 1))
def gX5_spread_J1 (x25 : Int32) (k26 : Int32 → Zh → Option (Zh)) : Zh → Option (Zh) :=
  fun (h3 : Zh) => k26 (x25 + 1) h3
def gX5_spread_L2 (a0 : Nat) (x1 : Int32) (x2 : Int64) (a21 : Nat) : (Int32 → Zh → Option (Zh)) → Int32 → Zh → Option (Zh) :=
  fun (k26 : Int32 → Zh → Option (Zh)) (x25 : Int32) (h2 : Zh) => zlt (zR h2 a0 10) (fun r27 => Option.bind r27 (fun a28 => (if ((zI h2 a28 5) : Int32) ≤ x25 then some h2
  else zlt (zR h2 a0 10) (fun r29 => Option.bind r29 (fun a30 => zbi (gX0_pairBits h2 a30 x25) (fun x31 => zlt (x1 &&& x31) (fun x32 => zjn (gX5_spread_J1 x25 k26) (fun (k33 : Zh → Option (Zh)) =>
  (if (x32 : Int32) = 0 then k33 h2
  else (if (x32 : Int32) = x31 then k33 h2
  else zlt (x1 ^^^ x31) (fun x34 => zg (zin x34 (zL h2 a21)) (zlt (zR h2 a0 10) (fun r35 => Option.bind r35 (fun a36 => zg (zin x34 (zL h2 a21)) (zlt (zsJ h2 a21 (zx x34) ((zJ h2 a21 (zx x34)) + (x2 * (((zI h2 a36 2) : Int32).toInt64)))) (fun (h4 : Zh) => k33 h4))))))))))))))))
def gX5_spread (h : Zh) (a0 : Nat) (x1 : Int32) (x2 : Int64) (r4 : Option Nat) : Option (Zh) :=
  Option.bind r4 (fun a21 => zg (zin x1 (zL h a21)) (zlt (zR h a0 10) (fun r22 => Option.bind r22 (fun a23 => zbi (gX0_stay h a23 x1) (fun x24 => zg (zin x1 (zL h a21)) (zlt (zsJ h a21 (zx x1) ((zJ h a21 (zx x1)) + (x2 * ((x24 : Int32).toInt64)))) (fun (h1 : Zh) => zlp (fun (_ : Int32) (_ : Zh) => (none : Option (Zh))) (gX5_spread_L2 a0 x1 x2 a21) zFU 0 h1)))))))
set_option maxRecDepth 20000 in
theorem cX5_spread_ok (l : Launch) (h : Zh) (a0 : Nat) (x1 : Int32) (x2 : Int64) (r4 : Option Nat) : Zc l yX5_spread mX5_spread 0 h [(.ref a0, 5), (.int x1, 0), (.long x2, 0), (va_rf r4, 21)] ((gX5_spread h a0 x1 x2 r4).map zoV) := by
  refine zc_of2 (ls := [some (.ref a0, 5), some (.int x1, 0), some (.long x2, 0), none, some (va_rf r4, 21), none, none, none]) (j := 3) (by decide +kernel) rfl rfl (zEn_ca (zEn_ci (zEn_cj (zEn_cr rfl)))) (Nat.le_of_ble_eq_true rfl) rfl ?_
  unfold gX5_spread
  refine zr_aload (r := r4) (eX5_spread 0 rfl) rfl ?_
  refine zr_iload_n (eX5_spread 1 rfl) rfl rfl ?_
  refine v_nn (fun a21 ea21 => ?_)
  subst ea21
  refine zr_dup2 (eX5_spread 2 rfl) rfl rfl ?_
  refine zr_lald (eX5_spread 3 rfl) ?_
  refine zr_lload_n (eX5_spread 4 rfl) rfl rfl ?_
  refine zr_aload_n (r := (some a0)) (eX5_spread 5 rfl) rfl rfl ?_
  refine zr_getR2 zf_RX5_43 (τ2 := 0) rfl (eX5_spread 6 rfl) ?_
  refine v_letr (fun r22 => ?_)
  refine zr_iload_n (eX5_spread 7 rfl) rfl rfl ?_
  refine v_nn (fun a23 ea23 => ?_)
  subst ea23
  refine zr_invV_i (as := [(.int x1, 0)]) (cX0_stay_ok l h a23 x1) rfl rfl ⟨by decide, by decide, by decide⟩ zcd_X0_stay rfl ⟨zw_469, zw_244, zw_245, zw_59⟩ ⟨Nat.le_of_ble_eq_true rfl, Nat.le_of_ble_eq_true rfl⟩ rfl (Nat.le_of_ble_eq_true rfl) (eX5_spread 8 rfl) (fun x24 => ?_)
  refine zr_i2l (eX5_spread 9 rfl) ?_
  refine zr_lmul (eX5_spread 10 rfl) ?_
  refine zr_ladd (eX5_spread 11 rfl) ?_
  refine zr_last (eX5_spread 12 rfl) ?_
  refine v_leth (fun h1 => ?_)
  refine zr_iconst (eX5_spread 13 rfl) zk_iconst_0 ?_
  refine zr_istore (ls2 := [some (.ref a0, 5), some (.int x1, 0), some (.long x2, 0), none, some (.ref a21, 21), some (.int 0, 0), none, none]) (eX5_spread 14 rfl) (Nat.le_of_ble_eq_true rfl) rfl ?_
  refine v_drop [true, true, true, false, true, true, false, false] rfl ?_
  refine zlp_ind (fun (k26 : Int32 → Zh → Option (Zh)) => ∀ (x25 : Int32) (h2 : Zh), V l mX5_spread (zN h) (zS h) 0 zoV 21 [some (.ref a0, 5), some (.int x1, 0), some (.long x2, 0), none, some (.ref a21, 21), some (.int x25, 0), none, none] [] h2 (k26 x25 h2)) ?_ ?_ 0 h1
  · exact fun _ _ => v_none
  intro k26 hk26 x25 h2
  unfold gX5_spread_L2
  refine zr_iload (eX5_spread 15 rfl) rfl ?_
  refine zr_aload_n (r := (some a0)) (eX5_spread 16 rfl) rfl rfl ?_
  refine zr_getR2 zf_RX5_43 (τ2 := 0) rfl (eX5_spread 17 rfl) ?_
  refine v_letr (fun r27 => ?_)
  refine v_nn (fun a28 ea28 => ?_)
  subst ea28
  refine zr_getI zf_RX5_145 ⟨by decide, by decide⟩ (eX5_spread 18 rfl) ?_
  refine zr_icmp_ge (eX5_spread 19 rfl) (t := 88) (by decide) ?_ ?_
  · exact zr_vret rfl rfl (eX5_spread 50 rfl)
  · refine zr_aload_n (r := (some a0)) (eX5_spread 20 rfl) rfl rfl ?_
    refine zr_getR2 zf_RX5_43 (τ2 := 0) rfl (eX5_spread 21 rfl) ?_
    refine v_letr (fun r29 => ?_)
    refine zr_iload (eX5_spread 22 rfl) rfl ?_
    refine v_nn (fun a30 ea30 => ?_)
    subst ea30
    refine zr_invV_i (as := [(.int x25, 0)]) (cX0_pairBits_ok l h2 a30 x25) rfl rfl ⟨by decide, by decide, by decide⟩ zcd_X0_pairBits rfl ⟨zw_478, zw_262, zw_263, zw_59⟩ ⟨Nat.le_of_ble_eq_true rfl, Nat.le_of_ble_eq_true rfl⟩ rfl (Nat.le_of_ble_eq_true rfl) (eX5_spread 23 rfl) (fun x31 => ?_)
    refine zr_istore (ls2 := [some (.ref a0, 5), some (.int x1, 0), some (.long x2, 0), none, some (.ref a21, 21), some (.int x25, 0), some (.int x31, 0), none]) (eX5_spread 24 rfl) (Nat.le_of_ble_eq_true rfl) rfl ?_
    refine zr_iload_n (eX5_spread 25 rfl) rfl rfl ?_
    refine zr_iload (eX5_spread 26 rfl) rfl ?_
    refine zr_iand (eX5_spread 27 rfl) ?_
    refine v_leti (fun x32 => ?_)
    refine zr_istore (ls2 := [some (.ref a0, 5), some (.int x1, 0), some (.long x2, 0), none, some (.ref a21, 21), some (.int x25, 0), some (.int x31, 0), some (.int x32, 0)]) (eX5_spread 28 rfl) (Nat.le_of_ble_eq_true rfl) rfl ?_
    refine zr_iload (eX5_spread 29 rfl) rfl ?_
    refine v_jn (fun (k33 : Zh → Option (Zh)) => ∀ (h3 : Zh), V l mX5_spread (zN h) (zS h) 0 zoV 82 [some (.ref a0, 5), some (.int x1, 0), some (.long x2, 0), none, some (.ref a21, 21), some (.int x25, 0), none, none] [] h3 (k33 h3)) ?_ ?_
    · intro h3
      unfold gX5_spread_J1
      refine zr_iinc (ls2 := [some (.ref a0, 5), some (.int x1, 0), some (.long x2, 0), none, some (.ref a21, 21), some (.int (x25 + 1), 0), none, none]) (eX5_spread 48 rfl) rfl (Nat.le_of_ble_eq_true rfl) zk_iconst_1 rfl ?_
      refine zr_goto (eX5_spread 49 rfl) (t := 21) (by decide) ?_
      exact v_drop [true, true, true, false, true, true, false, false] rfl (hk26 (x25 + 1) h3)
    intro k33 hk33
    refine zr_if_eq (eX5_spread 30 rfl) (t := 82) (by decide) ?_ ?_
    · exact v_drop [true, true, true, false, true, true, false, false] rfl (hk33 h2)
    · refine zr_iload (eX5_spread 31 rfl) rfl ?_
      refine zr_iload (eX5_spread 32 rfl) rfl ?_
      refine zr_icmp_eq (eX5_spread 33 rfl) (t := 82) (by decide) ?_ ?_
      · exact v_drop [true, true, true, false, true, true, false, false] rfl (hk33 h2)
      · refine zr_aload (r := (some a21)) (eX5_spread 34 rfl) rfl ?_
        refine zr_iload_n (eX5_spread 35 rfl) rfl rfl ?_
        refine zr_iload (eX5_spread 36 rfl) rfl ?_
        refine zr_ixor (eX5_spread 37 rfl) ?_
        refine v_leti (fun x34 => ?_)
        refine zr_dup2 (eX5_spread 38 rfl) rfl rfl ?_
        refine zr_lald (eX5_spread 39 rfl) ?_
        refine zr_lload_n (eX5_spread 40 rfl) rfl rfl ?_
        refine zr_aload_n (r := (some a0)) (eX5_spread 41 rfl) rfl rfl ?_
        refine zr_getR2 zf_RX5_43 (τ2 := 0) rfl (eX5_spread 42 rfl) ?_
        refine v_letr (fun r35 => ?_)
        refine v_nn (fun a36 ea36 => ?_)
        subst ea36
        refine zr_getI zf_RX5_151 ⟨by decide, by decide⟩ (eX5_spread 43 rfl) ?_
        refine zr_i2l (eX5_spread 44 rfl) ?_
        refine zr_lmul (eX5_spread 45 rfl) ?_
        refine zr_ladd (eX5_spread 46 rfl) ?_
        refine zr_last (eX5_spread 47 rfl) ?_
        refine v_leth (fun h4 => ?_)
        exact v_drop [true, true, true, false, true, true, false, false] rfl (hk33 h4)
def gX5_atItself_J1 (x22 : Int64) (x23 : Int32) (k24 : Int64 → Int32 → Option (Int64 × Zh)) (x25 : Int64) : Int64 → Option (Int64 × Zh) :=
  fun (x26 : Int64) => zlt (x22 + (x25 * x26)) (fun x27 => k24 x27 (x23 + 1))
def gX5_atItself_J2 (a0 : Nat) (x3 : Int32) (h3 : Zh) (x22 : Int64) (x23 : Int32) (k24 : Int64 → Int32 → Option (Int64 × Zh)) : Int64 → Option (Int64 × Zh) :=
  fun (x25 : Int64) => zjn (gX5_atItself_J1 x22 x23 k24 x25) (fun (k28 : Int64 → Option (Int64 × Zh)) =>
  (if (x3 : Int32) = 2 then zlt (zR h3 a0 8) (fun r33 => zlt (zR h3 a0 1) (fun r34 => Option.bind r34 (fun a35 => zg (zin x23 (zL h3 a35)) (Option.bind r33 (fun a36 => zg (zin (zI h3 a35 (zx x23)) (zL h3 a36)) (k28 (zJ h3 a36 (zx (zI h3 a35 (zx x23))))))))))
  else zlt (zR h3 a0 9) (fun r29 => zlt (zR h3 a0 1) (fun r30 => Option.bind r30 (fun a31 => zg (zin x23 (zL h3 a31)) (Option.bind r29 (fun a32 => zg (zin (zI h3 a31 (zx x23)) (zL h3 a32)) (k28 (zJ h3 a32 (zx (zI h3 a31 (zx x23))))))))))))
def gX5_atItself_L3 (a0 : Nat) (x2 : Int32) (x3 : Int32) (h3 : Zh) : (Int64 → Int32 → Option (Int64 × Zh)) → Int64 → Int32 → Option (Int64 × Zh) :=
  fun (k24 : Int64 → Int32 → Option (Int64 × Zh)) (x22 : Int64) (x23 : Int32) => (if (x2 : Int32) ≤ x23 then (some (x22, h3))
  else zjn (gX5_atItself_J2 a0 x3 h3 x22 x23 k24) (fun (k37 : Int64 → Option (Int64 × Zh)) =>
  (if (x3 : Int32) = 4 then zlt (zR h3 a0 9) (fun r42 => zlt (zR h3 a0 1) (fun r43 => Option.bind r43 (fun a44 => zg (zin x23 (zL h3 a44)) (Option.bind r42 (fun a45 => zg (zin (zI h3 a44 (zx x23)) (zL h3 a45)) (k37 (zJ h3 a45 (zx (zI h3 a44 (zx x23))))))))))
  else zlt (zR h3 a0 8) (fun r38 => zlt (zR h3 a0 1) (fun r39 => Option.bind r39 (fun a40 => zg (zin x23 (zL h3 a40)) (Option.bind r38 (fun a41 => zg (zin (zI h3 a40 (zx x23)) (zL h3 a41)) (k37 (zJ h3 a41 (zx (zI h3 a40 (zx x23)))))))))))))
def gX5_atItself_J4 (a0 : Nat) (x2 : Int32) (x3 : Int32) : Zh → Option (Int64 × Zh) :=
  fun (h3 : Zh) => zlp (fun (_ : Int64) (_ : Int32) => (none : Option (Int64 × Zh))) (gX5_atItself_L3 a0 x2 x3 h3) zFU 0 0
def gX5_atItself_J5 (x47 : Int32) (k48 : Int32 → Zh → Option (Int64 × Zh)) : Zh → Option (Int64 × Zh) :=
  fun (h5 : Zh) => k48 (x47 + 1) h5
def gX5_atItself_L6 (a0 : Nat) (x2 : Int32) (x3 : Int32) (k46 : Zh → Option (Int64 × Zh)) : (Int32 → Zh → Option (Int64 × Zh)) → Int32 → Zh → Option (Int64 × Zh) :=
  fun (k48 : Int32 → Zh → Option (Int64 × Zh)) (x47 : Int32) (h4 : Zh) => (if (x2 : Int32) ≤ x47 then k46 h4
  else (if (x3 : Int32) ≤ 2 then k46 h4
  else zlt (zR h4 a0 8) (fun r49 => zlt (zR h4 a0 1) (fun r50 => Option.bind r50 (fun a51 => zg (zin x47 (zL h4 a51)) (Option.bind r49 (fun a52 => zg (zin (zI h4 a51 (zx x47)) (zL h4 a52)) (zjn (gX5_atItself_J5 x47 k48) (fun (k53 : Zh → Option (Int64 × Zh)) =>
  (if ((lg_cmp (zJ h4 a52 (zx (zI h4 a51 (zx x47)))) 0) : Int32) = 0 then k53 h4
  else zlt (zR h4 a0 1) (fun r54 => Option.bind r54 (fun a55 => zg (zin x47 (zL h4 a55)) (zlt (zR h4 a0 8) (fun r56 => zlt (zR h4 a0 1) (fun r57 => Option.bind r57 (fun a58 => zg (zin x47 (zL h4 a58)) (Option.bind r56 (fun a59 => zg (zin (zI h4 a58 (zx x47)) (zL h4 a59)) (zlt (zR h4 a0 9) (fun r60 => zbV (gX5_spread h4 a0 (zI h4 a55 (zx x47)) (zJ h4 a59 (zx (zI h4 a58 (zx x47)))) r60) (fun h6 => k53 h6)))))))))))))))))))))
def gX5_atItself_J7 (a0 : Nat) (x1 : Int32) (x2 : Int32) (x3 : Int32) : Zh → Option (Int64 × Zh) :=
  fun (h1 : Zh) => zlt (zR h1 a0 8) (fun r21 => zbV (gX5_spread h1 a0 x1 1 r21) (fun h2 => zjn (gX5_atItself_J4 a0 x2 x3) (fun (k46 : Zh → Option (Int64 × Zh)) =>
  zlp (fun (_ : Int32) (_ : Zh) => (none : Option (Int64 × Zh))) (gX5_atItself_L6 a0 x2 x3 k46) zFU 0 h2)))
def gX5_atItself_L8 (a0 : Nat) (x2 : Int32) (k61 : Zh → Option (Int64 × Zh)) : (Int32 → Zh → Option (Int64 × Zh)) → Int32 → Zh → Option (Int64 × Zh) :=
  fun (k63 : Int32 → Zh → Option (Int64 × Zh)) (x62 : Int32) (h7 : Zh) => (if (x2 : Int32) ≤ x62 then k61 h7
  else zlt (zR h7 a0 8) (fun r64 => zlt (zR h7 a0 1) (fun r65 => Option.bind r65 (fun a66 => zg (zin x62 (zL h7 a66)) (Option.bind r64 (fun a67 => zg (zin (zI h7 a66 (zx x62)) (zL h7 a67)) (zlt (zsJ h7 a67 (zx (zI h7 a66 (zx x62))) 0) (fun (h8 : Zh) => zlt (zR h8 a0 9) (fun r68 => zlt (zR h8 a0 1) (fun r69 => Option.bind r69 (fun a70 => zg (zin x62 (zL h8 a70)) (Option.bind r68 (fun a71 => zg (zin (zI h8 a70 (zx x62)) (zL h8 a71)) (zlt (zsJ h8 a71 (zx (zI h8 a70 (zx x62))) 0) (fun (h9 : Zh) => k63 (x62 + 1) h9)))))))))))))))
def gX5_atItself (h : Zh) (a0 : Nat) (x1 : Int32) (x2 : Int32) (x3 : Int32) : Option (Int64 × Zh) :=
  zjn (gX5_atItself_J7 a0 x1 x2 x3) (fun (k61 : Zh → Option (Int64 × Zh)) =>
  zlp (fun (_ : Int32) (_ : Zh) => (none : Option (Int64 × Zh))) (gX5_atItself_L8 a0 x2 k61) zFU 0 h)
set_option maxRecDepth 20000 in
theorem cX5_atItself_ok (l : Launch) (h : Zh) (a0 : Nat) (x1 : Int32) (x2 : Int32) (x3 : Int32) : Zc l yX5_atItself mX5_atItself 0 h [(.ref a0, 5), (.int x1, 0), (.int x2, 0), (.int x3, 0)] ((gX5_atItself h a0 x1 x2 x3).map zoJ) := by
  refine zc_of2 (ls := [some (.ref a0, 5), some (.int x1, 0), some (.int x2, 0), some (.int x3, 0), none, none, none, none, none, none, none]) (j := 7) (by decide +kernel) rfl rfl (zEn_ca (zEn_ci (zEn_ci (zEn_ci rfl)))) (Nat.le_of_ble_eq_true rfl) rfl ?_
  unfold gX5_atItself
  refine zr_iconst (eX5_atItself 0 rfl) zk_iconst_0 ?_
  refine zr_istore (ls2 := [some (.ref a0, 5), some (.int x1, 0), some (.int x2, 0), some (.int x3, 0), some (.int 0, 0), none, none, none, none, none, none]) (eX5_atItself 1 rfl) (Nat.le_of_ble_eq_true rfl) rfl ?_
  refine v_jn (fun (k61 : Zh → Option (Int64 × Zh)) => ∀ (h1 : Zh), V l mX5_atItself (zN h) (zS h) 0 zoJ 41 [some (.ref a0, 5), some (.int x1, 0), some (.int x2, 0), some (.int x3, 0), none, none, none, none, none, none, none] [] h1 (k61 h1)) ?_ ?_
  · intro h1
    unfold gX5_atItself_J7
    refine zr_aload_n (r := (some a0)) (eX5_atItself 23 rfl) rfl rfl ?_
    refine zr_iload_n (eX5_atItself 24 rfl) rfl rfl ?_
    refine zr_lconst (eX5_atItself 25 rfl) zk_lconst_1 ?_
    refine zr_aload_n (r := (some a0)) (eX5_atItself 26 rfl) rfl rfl ?_
    refine zr_getR2 zf_RX5_37 (τ2 := 21) rfl (eX5_atItself 27 rfl) ?_
    refine v_letr (fun r21 => ?_)
    refine zr_invV_V (as := [(.int x1, 0), (.long 1, 0), (va_rf r21, 21)]) (cX5_spread_ok l h1 a0 x1 1 r21) rfl rfl ⟨by decide, by decide, by decide⟩ zcd_X5_spread rfl ⟨zw_474, zw_475, zw_476, zw_64⟩ ⟨Nat.le_of_ble_eq_true rfl, Nat.le_of_ble_eq_true rfl⟩ rfl (Nat.le_of_ble_eq_true rfl) (eX5_atItself 28 rfl) (fun h2 => ?_)
    refine zr_iconst (eX5_atItself 29 rfl) zk_iconst_0 ?_
    refine zr_istore (ls2 := [some (.ref a0, 5), some (.int x1, 0), some (.int x2, 0), some (.int x3, 0), some (.int 0, 0), none, none, none, none, none, none]) (eX5_atItself 30 rfl) (Nat.le_of_ble_eq_true rfl) rfl ?_
    refine v_jn (fun (k46 : Zh → Option (Int64 × Zh)) => ∀ (h3 : Zh), V l mX5_atItself (zN h) (zS h) 0 zoJ 115 [some (.ref a0, 5), none, some (.int x2, 0), some (.int x3, 0), none, none, none, none, none, none, none] [] h3 (k46 h3)) ?_ ?_
    · intro h3
      unfold gX5_atItself_J4
      refine zr_lconst (eX5_atItself 64 rfl) zk_lconst_0 ?_
      refine zr_lstore (ls2 := [some (.ref a0, 5), none, some (.int x2, 0), some (.int x3, 0), some (.long 0, 0), none, none, none, none, none, none]) (eX5_atItself 65 rfl) (Nat.le_of_ble_eq_true rfl) rfl ?_
      refine zr_iconst (eX5_atItself 66 rfl) zk_iconst_0 ?_
      refine zr_istore (ls2 := [some (.ref a0, 5), none, some (.int x2, 0), some (.int x3, 0), some (.long 0, 0), none, some (.int 0, 0), none, none, none, none]) (eX5_atItself 67 rfl) (Nat.le_of_ble_eq_true rfl) rfl ?_
      refine v_drop [true, false, true, true, true, false, true, false, false, false, false] rfl ?_
      refine zlp_ind (fun (k24 : Int64 → Int32 → Option (Int64 × Zh)) => ∀ (x22 : Int64) (x23 : Int32), V l mX5_atItself (zN h) (zS h) 0 zoJ 121 [some (.ref a0, 5), none, some (.int x2, 0), some (.int x3, 0), some (.long x22, 0), none, some (.int x23, 0), none, none, none, none] [] h3 (k24 x22 x23)) ?_ ?_ 0 0
      · exact fun _ _ => v_none
      intro k24 hk24 x22 x23
      unfold gX5_atItself_L3
      refine zr_iload (eX5_atItself 68 rfl) rfl ?_
      refine zr_iload_n (eX5_atItself 69 rfl) rfl rfl ?_
      refine zr_icmp_ge (eX5_atItself 70 rfl) (t := 211) (by decide) ?_ ?_
      · refine zr_lload (eX5_atItself 117 rfl) rfl ?_
        exact zr_lret rfl rfl (eX5_atItself 118 rfl)
      · refine zr_iload_n (eX5_atItself 71 rfl) rfl rfl ?_
        refine zr_iconst (eX5_atItself 72 rfl) zk_iconst_4 ?_
        refine v_jn (fun (k37 : Int64 → Option (Int64 × Zh)) => ∀ (x25 : Int64), V l mX5_atItself (zN h) (zS h) 0 zoJ 159 [some (.ref a0, 5), none, some (.int x2, 0), some (.int x3, 0), some (.long x22, 0), none, some (.int x23, 0), none, none, none, none] [(.long x25, 0)] h3 (k37 x25)) ?_ ?_
        · intro x25
          unfold gX5_atItself_J2
          refine zr_lstore (ls2 := [some (.ref a0, 5), none, some (.int x2, 0), some (.int x3, 0), some (.long x22, 0), none, some (.int x23, 0), some (.long x25, 0), none, none, none]) (eX5_atItself 89 rfl) (Nat.le_of_ble_eq_true rfl) rfl ?_
          refine zr_iload_n (eX5_atItself 90 rfl) rfl rfl ?_
          refine zr_iconst (eX5_atItself 91 rfl) zk_iconst_2 ?_
          refine v_jn (fun (k28 : Int64 → Option (Int64 × Zh)) => ∀ (x26 : Int64), V l mX5_atItself (zN h) (zS h) 0 zoJ 193 [some (.ref a0, 5), none, some (.int x2, 0), some (.int x3, 0), some (.long x22, 0), none, some (.int x23, 0), some (.long x25, 0), none, none, none] [(.long x26, 0)] h3 (k28 x26)) ?_ ?_
          · intro x26
            unfold gX5_atItself_J1
            refine zr_lstore (ls2 := [some (.ref a0, 5), none, some (.int x2, 0), some (.int x3, 0), some (.long x22, 0), none, some (.int x23, 0), some (.long x25, 0), none, some (.long x26, 0), none]) (eX5_atItself 108 rfl) (Nat.le_of_ble_eq_true rfl) rfl ?_
            refine zr_lload (eX5_atItself 109 rfl) rfl ?_
            refine zr_lload (eX5_atItself 110 rfl) rfl ?_
            refine zr_lload (eX5_atItself 111 rfl) rfl ?_
            refine zr_lmul (eX5_atItself 112 rfl) ?_
            refine zr_ladd (eX5_atItself 113 rfl) ?_
            refine v_letj (fun x27 => ?_)
            refine zr_lstore (ls2 := [some (.ref a0, 5), none, some (.int x2, 0), some (.int x3, 0), some (.long x27, 0), none, some (.int x23, 0), some (.long x25, 0), none, some (.long x26, 0), none]) (eX5_atItself 114 rfl) (Nat.le_of_ble_eq_true rfl) rfl ?_
            refine zr_iinc (ls2 := [some (.ref a0, 5), none, some (.int x2, 0), some (.int x3, 0), some (.long x27, 0), none, some (.int (x23 + 1), 0), some (.long x25, 0), none, some (.long x26, 0), none]) (eX5_atItself 115 rfl) rfl (Nat.le_of_ble_eq_true rfl) zk_iconst_1 rfl ?_
            refine zr_goto (eX5_atItself 116 rfl) (t := 121) (by decide) ?_
            exact v_drop [true, false, true, true, true, false, true, false, false, false, false] rfl (hk24 x27 (x23 + 1))
          intro k28 hk28
          refine zr_icmp_ne (eX5_atItself 92 rfl) (t := 181) (by decide) ?_ ?_
          · refine zr_aload_n (r := (some a0)) (eX5_atItself 101 rfl) rfl rfl ?_
            refine zr_getR2 zf_RX5_40 (τ2 := 21) rfl (eX5_atItself 102 rfl) ?_
            refine v_letr (fun r29 => ?_)
            refine zr_aload_n (r := (some a0)) (eX5_atItself 103 rfl) rfl rfl ?_
            refine zr_getR2 zf_RX5_15 (τ2 := 20) rfl (eX5_atItself 104 rfl) ?_
            refine v_letr (fun r30 => ?_)
            refine zr_iload (eX5_atItself 105 rfl) rfl ?_
            refine v_nn (fun a31 ea31 => ?_)
            subst ea31
            refine zr_iald (eX5_atItself 106 rfl) ?_
            refine v_nn (fun a32 ea32 => ?_)
            subst ea32
            refine zr_lald (eX5_atItself 107 rfl) ?_
            exact v_drop [true, false, true, true, true, false, true, true, false, false, false] rfl (hk28 (zJ h3 a32 (zx (zI h3 a31 (zx x23)))))
          · refine zr_aload_n (r := (some a0)) (eX5_atItself 93 rfl) rfl rfl ?_
            refine zr_getR2 zf_RX5_37 (τ2 := 21) rfl (eX5_atItself 94 rfl) ?_
            refine v_letr (fun r33 => ?_)
            refine zr_aload_n (r := (some a0)) (eX5_atItself 95 rfl) rfl rfl ?_
            refine zr_getR2 zf_RX5_15 (τ2 := 20) rfl (eX5_atItself 96 rfl) ?_
            refine v_letr (fun r34 => ?_)
            refine zr_iload (eX5_atItself 97 rfl) rfl ?_
            refine v_nn (fun a35 ea35 => ?_)
            subst ea35
            refine zr_iald (eX5_atItself 98 rfl) ?_
            refine v_nn (fun a36 ea36 => ?_)
            subst ea36
            refine zr_lald (eX5_atItself 99 rfl) ?_
            refine zr_goto (eX5_atItself 100 rfl) (t := 193) (by decide) ?_
            exact v_drop [true, false, true, true, true, false, true, true, false, false, false] rfl (hk28 (zJ h3 a36 (zx (zI h3 a35 (zx x23)))))
        intro k37 hk37
        refine zr_icmp_ne (eX5_atItself 73 rfl) (t := 147) (by decide) ?_ ?_
        · refine zr_aload_n (r := (some a0)) (eX5_atItself 82 rfl) rfl rfl ?_
          refine zr_getR2 zf_RX5_37 (τ2 := 21) rfl (eX5_atItself 83 rfl) ?_
          refine v_letr (fun r38 => ?_)
          refine zr_aload_n (r := (some a0)) (eX5_atItself 84 rfl) rfl rfl ?_
          refine zr_getR2 zf_RX5_15 (τ2 := 20) rfl (eX5_atItself 85 rfl) ?_
          refine v_letr (fun r39 => ?_)
          refine zr_iload (eX5_atItself 86 rfl) rfl ?_
          refine v_nn (fun a40 ea40 => ?_)
          subst ea40
          refine zr_iald (eX5_atItself 87 rfl) ?_
          refine v_nn (fun a41 ea41 => ?_)
          subst ea41
          refine zr_lald (eX5_atItself 88 rfl) ?_
          exact v_drop [true, false, true, true, true, false, true, false, false, false, false] rfl (hk37 (zJ h3 a41 (zx (zI h3 a40 (zx x23)))))
        · refine zr_aload_n (r := (some a0)) (eX5_atItself 74 rfl) rfl rfl ?_
          refine zr_getR2 zf_RX5_40 (τ2 := 21) rfl (eX5_atItself 75 rfl) ?_
          refine v_letr (fun r42 => ?_)
          refine zr_aload_n (r := (some a0)) (eX5_atItself 76 rfl) rfl rfl ?_
          refine zr_getR2 zf_RX5_15 (τ2 := 20) rfl (eX5_atItself 77 rfl) ?_
          refine v_letr (fun r43 => ?_)
          refine zr_iload (eX5_atItself 78 rfl) rfl ?_
          refine v_nn (fun a44 ea44 => ?_)
          subst ea44
          refine zr_iald (eX5_atItself 79 rfl) ?_
          refine v_nn (fun a45 ea45 => ?_)
          subst ea45
          refine zr_lald (eX5_atItself 80 rfl) ?_
          refine zr_goto (eX5_atItself 81 rfl) (t := 159) (by decide) ?_
          exact v_drop [true, false, true, true, true, false, true, false, false, false, false] rfl (hk37 (zJ h3 a45 (zx (zI h3 a44 (zx x23)))))
    intro k46 hk46
    refine v_drop [true, false, true, true, true, false, false, false, false, false, false] rfl ?_
    refine zlp_ind (fun (k48 : Int32 → Zh → Option (Int64 × Zh)) => ∀ (x47 : Int32) (h4 : Zh), V l mX5_atItself (zN h) (zS h) 0 zoJ 54 [some (.ref a0, 5), none, some (.int x2, 0), some (.int x3, 0), some (.int x47, 0), none, none, none, none, none, none] [] h4 (k48 x47 h4)) ?_ ?_ 0 h2
    · exact fun _ _ => v_none
    intro k48 hk48 x47 h4
    unfold gX5_atItself_L6
    refine zr_iload (eX5_atItself 31 rfl) rfl ?_
    refine zr_iload_n (eX5_atItself 32 rfl) rfl rfl ?_
    refine zr_icmp_ge (eX5_atItself 33 rfl) (t := 115) (by decide) ?_ ?_
    · exact v_drop [true, false, true, true, false, false, false, false, false, false, false] rfl (hk46 h4)
    · refine zr_iload_n (eX5_atItself 34 rfl) rfl rfl ?_
      refine zr_iconst (eX5_atItself 35 rfl) zk_iconst_2 ?_
      refine zr_icmp_le (eX5_atItself 36 rfl) (t := 115) (by decide) ?_ ?_
      · exact v_drop [true, false, true, true, false, false, false, false, false, false, false] rfl (hk46 h4)
      · refine zr_aload_n (r := (some a0)) (eX5_atItself 37 rfl) rfl rfl ?_
        refine zr_getR2 zf_RX5_37 (τ2 := 21) rfl (eX5_atItself 38 rfl) ?_
        refine v_letr (fun r49 => ?_)
        refine zr_aload_n (r := (some a0)) (eX5_atItself 39 rfl) rfl rfl ?_
        refine zr_getR2 zf_RX5_15 (τ2 := 20) rfl (eX5_atItself 40 rfl) ?_
        refine v_letr (fun r50 => ?_)
        refine zr_iload (eX5_atItself 41 rfl) rfl ?_
        refine v_nn (fun a51 ea51 => ?_)
        subst ea51
        refine zr_iald (eX5_atItself 42 rfl) ?_
        refine v_nn (fun a52 ea52 => ?_)
        subst ea52
        refine zr_lald (eX5_atItself 43 rfl) ?_
        refine zr_lconst (eX5_atItself 44 rfl) zk_lconst_0 ?_
        refine zr_lcmp (eX5_atItself 45 rfl) ?_
        refine v_jn (fun (k53 : Zh → Option (Int64 × Zh)) => ∀ (h5 : Zh), V l mX5_atItself (zN h) (zS h) 0 zoJ 109 [some (.ref a0, 5), none, some (.int x2, 0), some (.int x3, 0), some (.int x47, 0), none, none, none, none, none, none] [] h5 (k53 h5)) ?_ ?_
        · intro h5
          unfold gX5_atItself_J5
          refine zr_iinc (ls2 := [some (.ref a0, 5), none, some (.int x2, 0), some (.int x3, 0), some (.int (x47 + 1), 0), none, none, none, none, none, none]) (eX5_atItself 62 rfl) rfl (Nat.le_of_ble_eq_true rfl) zk_iconst_1 rfl ?_
          refine zr_goto (eX5_atItself 63 rfl) (t := 54) (by decide) ?_
          exact v_drop [true, false, true, true, true, false, false, false, false, false, false] rfl (hk48 (x47 + 1) h5)
        intro k53 hk53
        refine zr_if_eq (eX5_atItself 46 rfl) (t := 109) (by decide) ?_ ?_
        · exact v_drop [true, false, true, true, true, false, false, false, false, false, false] rfl (hk53 h4)
        · refine zr_aload_n (r := (some a0)) (eX5_atItself 47 rfl) rfl rfl ?_
          refine zr_aload_n (r := (some a0)) (eX5_atItself 48 rfl) rfl rfl ?_
          refine zr_getR2 zf_RX5_15 (τ2 := 20) rfl (eX5_atItself 49 rfl) ?_
          refine v_letr (fun r54 => ?_)
          refine zr_iload (eX5_atItself 50 rfl) rfl ?_
          refine v_nn (fun a55 ea55 => ?_)
          subst ea55
          refine zr_iald (eX5_atItself 51 rfl) ?_
          refine zr_aload_n (r := (some a0)) (eX5_atItself 52 rfl) rfl rfl ?_
          refine zr_getR2 zf_RX5_37 (τ2 := 21) rfl (eX5_atItself 53 rfl) ?_
          refine v_letr (fun r56 => ?_)
          refine zr_aload_n (r := (some a0)) (eX5_atItself 54 rfl) rfl rfl ?_
          refine zr_getR2 zf_RX5_15 (τ2 := 20) rfl (eX5_atItself 55 rfl) ?_
          refine v_letr (fun r57 => ?_)
          refine zr_iload (eX5_atItself 56 rfl) rfl ?_
          refine v_nn (fun a58 ea58 => ?_)
          subst ea58
          refine zr_iald (eX5_atItself 57 rfl) ?_
          refine v_nn (fun a59 ea59 => ?_)
          subst ea59
          refine zr_lald (eX5_atItself 58 rfl) ?_
          refine zr_aload_n (r := (some a0)) (eX5_atItself 59 rfl) rfl rfl ?_
          refine zr_getR2 zf_RX5_40 (τ2 := 21) rfl (eX5_atItself 60 rfl) ?_
          refine v_letr (fun r60 => ?_)
          refine zr_invV_V (as := [(.int (zI h4 a55 (zx x47)), 0), (.long (zJ h4 a59 (zx (zI h4 a58 (zx x47)))), 0), (va_rf r60, 21)]) (cX5_spread_ok l h4 a0 (zI h4 a55 (zx x47)) (zJ h4 a59 (zx (zI h4 a58 (zx x47)))) r60) rfl rfl ⟨by decide, by decide, by decide⟩ zcd_X5_spread rfl ⟨zw_474, zw_475, zw_476, zw_64⟩ ⟨Nat.le_of_ble_eq_true rfl, Nat.le_of_ble_eq_true rfl⟩ rfl (Nat.le_of_ble_eq_true rfl) (eX5_atItself 61 rfl) (fun h6 => ?_)
          exact v_drop [true, false, true, true, true, false, false, false, false, false, false] rfl (hk53 h6)
  intro k61 hk61
  refine v_drop [true, true, true, true, true, false, false, false, false, false, false] rfl ?_
  refine zlp_ind (fun (k63 : Int32 → Zh → Option (Int64 × Zh)) => ∀ (x62 : Int32) (h7 : Zh), V l mX5_atItself (zN h) (zS h) 0 zoJ 3 [some (.ref a0, 5), some (.int x1, 0), some (.int x2, 0), some (.int x3, 0), some (.int x62, 0), none, none, none, none, none, none] [] h7 (k63 x62 h7)) ?_ ?_ 0 h
  · exact fun _ _ => v_none
  intro k63 hk63 x62 h7
  unfold gX5_atItself_L8
  refine zr_iload (eX5_atItself 2 rfl) rfl ?_
  refine zr_iload_n (eX5_atItself 3 rfl) rfl rfl ?_
  refine zr_icmp_ge (eX5_atItself 4 rfl) (t := 41) (by decide) ?_ ?_
  · exact v_drop [true, true, true, true, false, false, false, false, false, false, false] rfl (hk61 h7)
  · refine zr_aload_n (r := (some a0)) (eX5_atItself 5 rfl) rfl rfl ?_
    refine zr_getR2 zf_RX5_37 (τ2 := 21) rfl (eX5_atItself 6 rfl) ?_
    refine v_letr (fun r64 => ?_)
    refine zr_aload_n (r := (some a0)) (eX5_atItself 7 rfl) rfl rfl ?_
    refine zr_getR2 zf_RX5_15 (τ2 := 20) rfl (eX5_atItself 8 rfl) ?_
    refine v_letr (fun r65 => ?_)
    refine zr_iload (eX5_atItself 9 rfl) rfl ?_
    refine v_nn (fun a66 ea66 => ?_)
    subst ea66
    refine zr_iald (eX5_atItself 10 rfl) ?_
    refine zr_lconst (eX5_atItself 11 rfl) zk_lconst_0 ?_
    refine v_nn (fun a67 ea67 => ?_)
    subst ea67
    refine zr_last (eX5_atItself 12 rfl) ?_
    refine v_leth (fun h8 => ?_)
    refine zr_aload_n (r := (some a0)) (eX5_atItself 13 rfl) rfl rfl ?_
    refine zr_getR2 zf_RX5_40 (τ2 := 21) rfl (eX5_atItself 14 rfl) ?_
    refine v_letr (fun r68 => ?_)
    refine zr_aload_n (r := (some a0)) (eX5_atItself 15 rfl) rfl rfl ?_
    refine zr_getR2 zf_RX5_15 (τ2 := 20) rfl (eX5_atItself 16 rfl) ?_
    refine v_letr (fun r69 => ?_)
    refine zr_iload (eX5_atItself 17 rfl) rfl ?_
    refine v_nn (fun a70 ea70 => ?_)
    subst ea70
    refine zr_iald (eX5_atItself 18 rfl) ?_
    refine zr_lconst (eX5_atItself 19 rfl) zk_lconst_0 ?_
    refine v_nn (fun a71 ea71 => ?_)
    subst ea71
    refine zr_last (eX5_atItself 20 rfl) ?_
    refine v_leth (fun h9 => ?_)
    refine zr_iinc (ls2 := [some (.ref a0, 5), some (.int x1, 0), some (.int x2, 0), some (.int x3, 0), some (.int (x62 + 1), 0), none, none, none, none, none, none]) (eX5_atItself 21 rfl) rfl (Nat.le_of_ble_eq_true rfl) zk_iconst_1 rfl ?_
    refine zr_goto (eX5_atItself 22 rfl) (t := 3) (by decide) ?_
    exact v_drop [true, true, true, true, true, false, false, false, false, false, false] rfl (hk63 (x62 + 1) h9)
def gX5_powerSumOfAll_J1 (x23 : Int64) (x24 : Int32) (k25 : Int64 → Int32 → Zh → Option (Int64 × Zh)) : Int64 → Zh → Option (Int64 × Zh) :=
  fun (x26 : Int64) (h4 : Zh) => zlt (x23 + x26) (fun x27 => k25 x27 (x24 + 1) h4)
def gX5_powerSumOfAll_L2 (a0 : Nat) (x1 : Int32) (x22 : Int32) : (Int64 → Int32 → Zh → Option (Int64 × Zh)) → Int64 → Int32 → Zh → Option (Int64 × Zh) :=
  fun (k25 : Int64 → Int32 → Zh → Option (Int64 × Zh)) (x23 : Int64) (x24 : Int32) (h3 : Zh) => (if (x22 : Int32) ≤ x24 then (some (x23, h3))
  else zjn (gX5_powerSumOfAll_J1 x23 x24 k25) (fun (k28 : Int64 → Zh → Option (Int64 × Zh)) =>
  (if (x1 : Int32) = 1 then zlt (zR h3 a0 10) (fun r32 => zlt (zR h3 a0 1) (fun r33 => Option.bind r33 (fun a34 => zg (zin x24 (zL h3 a34)) (Option.bind r32 (fun a35 => zbi (gX0_stay h3 a35 (zI h3 a34 (zx x24))) (fun x36 => k28 ((x36 : Int32).toInt64) h3))))))
  else zlt (zR h3 a0 1) (fun r29 => Option.bind r29 (fun a30 => zg (zin x24 (zL h3 a30)) (zbJ (gX5_atItself h3 a0 (zI h3 a30 (zx x24)) x22 x1) (fun x31 h5 => k28 x31 h5)))))))
def gX5_powerSumOfAll_J3 (a0 : Nat) (x1 : Int32) : Int32 → Zh → Option (Int64 × Zh) :=
  fun (x22 : Int32) (h2 : Zh) => zlp (fun (_ : Int64) (_ : Int32) (_ : Zh) => (none : Option (Int64 × Zh))) (gX5_powerSumOfAll_L2 a0 x1 x22) zFU 0 0 h2
def gX5_powerSumOfAll_J4 (x39 : Int32) (k40 : Int32 → Int32 → Zh → Option (Int64 × Zh)) : Int32 → Zh → Option (Int64 × Zh) :=
  fun (x44 : Int32) (h7 : Zh) => k40 x44 (x39 + 1) h7
def gX5_powerSumOfAll_L5 (a0 : Nat) (k37 : Int32 → Zh → Option (Int64 × Zh)) : (Int32 → Int32 → Zh → Option (Int64 × Zh)) → Int32 → Int32 → Zh → Option (Int64 × Zh) :=
  fun (k40 : Int32 → Int32 → Zh → Option (Int64 × Zh)) (x38 : Int32) (x39 : Int32) (h6 : Zh) => zlt (zR h6 a0 10) (fun r41 => Option.bind r41 (fun a42 => (if ((zI h6 a42 4) : Int32) ≤ x39 then k37 x38 h6
  else zbi (gJ6_bitCount_0f7a4 x39) (fun x43 => zjn (gX5_powerSumOfAll_J4 x39 k40) (fun (k45 : Int32 → Zh → Option (Int64 × Zh)) =>
  (if (x43 : Int32) = (zI h6 a0 11) then zlt (zR h6 a0 1) (fun r46 => Option.bind r46 (fun a47 => (if ((Int32.ofNat (zL h6 a47)) : Int32) ≤ x38 then k45 x38 h6
  else zlt (zR h6 a0 1) (fun r48 => Option.bind r48 (fun a49 => zg (zin x38 (zL h6 a49)) (zlt (zsI h6 a49 (zx x38) x39) (fun (h8 : Zh) => k45 (x38 + 1) h8)))))))
  else k45 x38 h6))))))
def gX5_powerSumOfAll_J6 (a0 : Nat) (x1 : Int32) : Zh → Option (Int64 × Zh) :=
  fun (h1 : Zh) => zjn (gX5_powerSumOfAll_J3 a0 x1) (fun (k37 : Int32 → Zh → Option (Int64 × Zh)) =>
  zlp (fun (_ : Int32) (_ : Int32) (_ : Zh) => (none : Option (Int64 × Zh))) (gX5_powerSumOfAll_L5 a0 k37) zFU 0 0 h1)
def gX5_powerSumOfAll_J7 (h : Zh) (a0 : Nat) (k50 : Zh → Option (Int64 × Zh)) : Option (Int64 × Zh) :=
  zg (zok 256) (zlt (zN h) (fun a51 => zlt (zA h 21 (zx 256)) (fun (h9 : Zh) => zlt (zsR h9 a0 8 (some a51)) (fun (h10 : Zh) => zg (zok 256) (zlt (zN h10) (fun a52 => zlt (zA h10 21 (zx 256)) (fun (h11 : Zh) => zlt (zsR h11 a0 9 (some a52)) (fun (h12 : Zh) => k50 h12))))))))
def gX5_powerSumOfAll (h : Zh) (a0 : Nat) (x1 : Int32) : Option (Int64 × Zh) :=
  zlt (zR h a0 8) (fun r21 => zjn (gX5_powerSumOfAll_J6 a0 x1) (fun (k50 : Zh → Option (Int64 × Zh)) =>
  zjn (gX5_powerSumOfAll_J7 h a0 k50) (fun (k53 : Option (Int64 × Zh)) =>
  (zcs r21 (k53) (fun a54 => zlt (zR h a0 9) (fun r55 => (zcs r55 (k53) (fun a56 => k50 h))))))))
set_option maxRecDepth 20000 in
theorem cX5_powerSumOfAll_ok (l : Launch) (h : Zh) (a0 : Nat) (x1 : Int32) : Zc l yX5_powerSumOfAll mX5_powerSumOfAll 0 h [(.ref a0, 5), (.int x1, 0)] ((gX5_powerSumOfAll h a0 x1).map zoJ) := by
  refine zc_of2 (ls := [some (.ref a0, 5), some (.int x1, 0), none, none, none, none]) (j := 4) (by decide +kernel) rfl rfl (zEn_ca (zEn_ci rfl)) (Nat.le_of_ble_eq_true rfl) rfl ?_
  unfold gX5_powerSumOfAll
  refine zr_aload_n (r := (some a0)) (eX5_powerSumOfAll 0 rfl) rfl rfl ?_
  refine zr_getR2 zf_RX5_37 (τ2 := 21) rfl (eX5_powerSumOfAll 1 rfl) ?_
  refine v_letr (fun r21 => ?_)
  refine v_jn (fun (k50 : Zh → Option (Int64 × Zh)) => ∀ (h1 : Zh), V l mX5_powerSumOfAll (zN h) (zS h) 0 zoJ 32 [some (.ref a0, 5), some (.int x1, 0), none, none, none, none] [] h1 (k50 h1)) ?_ ?_
  · intro h1
    unfold gX5_powerSumOfAll_J6
    refine zr_iconst (eX5_powerSumOfAll 14 rfl) zk_iconst_0 ?_
    refine zr_istore_n (ls2 := [some (.ref a0, 5), some (.int x1, 0), some (.int 0, 0), none, none, none]) (eX5_powerSumOfAll 15 rfl) rfl (Nat.le_of_ble_eq_true rfl) rfl ?_
    refine zr_iconst (eX5_powerSumOfAll 16 rfl) zk_iconst_0 ?_
    refine zr_istore_n (ls2 := [some (.ref a0, 5), some (.int x1, 0), some (.int 0, 0), some (.int 0, 0), none, none]) (eX5_powerSumOfAll 17 rfl) rfl (Nat.le_of_ble_eq_true rfl) rfl ?_
    refine v_jn (fun (k37 : Int32 → Zh → Option (Int64 × Zh)) => ∀ (x22 : Int32) (h2 : Zh), V l mX5_powerSumOfAll (zN h) (zS h) 0 zoJ 83 [some (.ref a0, 5), some (.int x1, 0), some (.int x22, 0), none, none, none] [] h2 (k37 x22 h2)) ?_ ?_
    · intro x22 h2
      unfold gX5_powerSumOfAll_J3
      refine zr_lconst (eX5_powerSumOfAll 41 rfl) zk_lconst_0 ?_
      refine zr_lstore_n (ls2 := [some (.ref a0, 5), some (.int x1, 0), some (.int x22, 0), some (.long 0, 0), none, none]) (eX5_powerSumOfAll 42 rfl) rfl (Nat.le_of_ble_eq_true rfl) rfl ?_
      refine zr_iconst (eX5_powerSumOfAll 43 rfl) zk_iconst_0 ?_
      refine zr_istore (ls2 := [some (.ref a0, 5), some (.int x1, 0), some (.int x22, 0), some (.long 0, 0), none, some (.int 0, 0)]) (eX5_powerSumOfAll 44 rfl) (Nat.le_of_ble_eq_true rfl) rfl ?_
      refine v_drop [true, true, true, true, false, true] rfl ?_
      refine zlp_ind (fun (k25 : Int64 → Int32 → Zh → Option (Int64 × Zh)) => ∀ (x23 : Int64) (x24 : Int32) (h3 : Zh), V l mX5_powerSumOfAll (zN h) (zS h) 0 zoJ 88 [some (.ref a0, 5), some (.int x1, 0), some (.int x22, 0), some (.long x23, 0), none, some (.int x24, 0)] [] h3 (k25 x23 x24 h3)) ?_ ?_ 0 0 h2
      · exact fun _ _ _ => v_none
      intro k25 hk25 x23 x24 h3
      unfold gX5_powerSumOfAll_L2
      refine zr_iload (eX5_powerSumOfAll 45 rfl) rfl ?_
      refine zr_iload_n (eX5_powerSumOfAll 46 rfl) rfl rfl ?_
      refine zr_icmp_ge (eX5_powerSumOfAll 47 rfl) (t := 139) (by decide) ?_ ?_
      · refine zr_lload_n (eX5_powerSumOfAll 73 rfl) rfl rfl ?_
        exact zr_lret rfl rfl (eX5_powerSumOfAll 74 rfl)
      · refine zr_lload_n (eX5_powerSumOfAll 48 rfl) rfl rfl ?_
        refine zr_iload_n (eX5_powerSumOfAll 49 rfl) rfl rfl ?_
        refine zr_iconst (eX5_powerSumOfAll 50 rfl) zk_iconst_1 ?_
        refine v_jn (fun (k28 : Int64 → Zh → Option (Int64 × Zh)) => ∀ (x26 : Int64) (h4 : Zh), V l mX5_powerSumOfAll (zN h) (zS h) 0 zoJ 131 [some (.ref a0, 5), some (.int x1, 0), some (.int x22, 0), none, none, some (.int x24, 0)] [(.long x26, 0), (.long x23, 0)] h4 (k28 x26 h4)) ?_ ?_
        · intro x26 h4
          unfold gX5_powerSumOfAll_J1
          refine zr_ladd (eX5_powerSumOfAll 69 rfl) ?_
          refine v_letj (fun x27 => ?_)
          refine zr_lstore_n (ls2 := [some (.ref a0, 5), some (.int x1, 0), some (.int x22, 0), some (.long x27, 0), none, some (.int x24, 0)]) (eX5_powerSumOfAll 70 rfl) rfl (Nat.le_of_ble_eq_true rfl) rfl ?_
          refine zr_iinc (ls2 := [some (.ref a0, 5), some (.int x1, 0), some (.int x22, 0), some (.long x27, 0), none, some (.int (x24 + 1), 0)]) (eX5_powerSumOfAll 71 rfl) rfl (Nat.le_of_ble_eq_true rfl) zk_iconst_1 rfl ?_
          refine zr_goto (eX5_powerSumOfAll 72 rfl) (t := 88) (by decide) ?_
          exact v_drop [true, true, true, true, false, true] rfl (hk25 x27 (x24 + 1) h4)
        intro k28 hk28
        refine zr_icmp_ne (eX5_powerSumOfAll 51 rfl) (t := 118) (by decide) ?_ ?_
        · refine zr_aload_n (r := (some a0)) (eX5_powerSumOfAll 61 rfl) rfl rfl ?_
          refine zr_aload_n (r := (some a0)) (eX5_powerSumOfAll 62 rfl) rfl rfl ?_
          refine zr_getR2 zf_RX5_15 (τ2 := 20) rfl (eX5_powerSumOfAll 63 rfl) ?_
          refine v_letr (fun r29 => ?_)
          refine zr_iload (eX5_powerSumOfAll 64 rfl) rfl ?_
          refine v_nn (fun a30 ea30 => ?_)
          subst ea30
          refine zr_iald (eX5_powerSumOfAll 65 rfl) ?_
          refine zr_iload_n (eX5_powerSumOfAll 66 rfl) rfl rfl ?_
          refine zr_iload_n (eX5_powerSumOfAll 67 rfl) rfl rfl ?_
          refine zr_invV_J (as := [(.int (zI h3 a30 (zx x24)), 0), (.int x22, 0), (.int x1, 0)]) (cX5_atItself_ok l h3 a0 (zI h3 a30 (zx x24)) x22 x1) rfl rfl ⟨by decide, by decide, by decide⟩ zcd_X5_atItself rfl ⟨zw_470, zw_471, zw_472, zw_64⟩ ⟨Nat.le_of_ble_eq_true rfl, Nat.le_of_ble_eq_true rfl⟩ rfl (Nat.le_of_ble_eq_true rfl) (eX5_powerSumOfAll 68 rfl) (fun x31 h5 => ?_)
          exact v_drop [true, true, true, false, false, true] rfl (hk28 x31 h5)
        · refine zr_aload_n (r := (some a0)) (eX5_powerSumOfAll 52 rfl) rfl rfl ?_
          refine zr_getR2 zf_RX5_43 (τ2 := 0) rfl (eX5_powerSumOfAll 53 rfl) ?_
          refine v_letr (fun r32 => ?_)
          refine zr_aload_n (r := (some a0)) (eX5_powerSumOfAll 54 rfl) rfl rfl ?_
          refine zr_getR2 zf_RX5_15 (τ2 := 20) rfl (eX5_powerSumOfAll 55 rfl) ?_
          refine v_letr (fun r33 => ?_)
          refine zr_iload (eX5_powerSumOfAll 56 rfl) rfl ?_
          refine v_nn (fun a34 ea34 => ?_)
          subst ea34
          refine zr_iald (eX5_powerSumOfAll 57 rfl) ?_
          refine v_nn (fun a35 ea35 => ?_)
          subst ea35
          refine zr_invV_i (as := [(.int (zI h3 a34 (zx x24)), 0)]) (cX0_stay_ok l h3 a35 (zI h3 a34 (zx x24))) rfl rfl ⟨by decide, by decide, by decide⟩ zcd_X0_stay rfl ⟨zw_469, zw_244, zw_245, zw_59⟩ ⟨Nat.le_of_ble_eq_true rfl, Nat.le_of_ble_eq_true rfl⟩ rfl (Nat.le_of_ble_eq_true rfl) (eX5_powerSumOfAll 58 rfl) (fun x36 => ?_)
          refine zr_i2l (eX5_powerSumOfAll 59 rfl) ?_
          refine zr_goto (eX5_powerSumOfAll 60 rfl) (t := 131) (by decide) ?_
          exact v_drop [true, true, true, false, false, true] rfl (hk28 ((x36 : Int32).toInt64) h3)
    intro k37 hk37
    refine v_drop [true, true, true, true, false, false] rfl ?_
    refine zlp_ind (fun (k40 : Int32 → Int32 → Zh → Option (Int64 × Zh)) => ∀ (x38 : Int32) (x39 : Int32) (h6 : Zh), V l mX5_powerSumOfAll (zN h) (zS h) 0 zoJ 36 [some (.ref a0, 5), some (.int x1, 0), some (.int x38, 0), some (.int x39, 0), none, none] [] h6 (k40 x38 x39 h6)) ?_ ?_ 0 0 h1
    · exact fun _ _ _ => v_none
    intro k40 hk40 x38 x39 h6
    unfold gX5_powerSumOfAll_L5
    refine zr_iload_n (eX5_powerSumOfAll 18 rfl) rfl rfl ?_
    refine zr_aload_n (r := (some a0)) (eX5_powerSumOfAll 19 rfl) rfl rfl ?_
    refine zr_getR2 zf_RX5_43 (τ2 := 0) rfl (eX5_powerSumOfAll 20 rfl) ?_
    refine v_letr (fun r41 => ?_)
    refine v_nn (fun a42 ea42 => ?_)
    subst ea42
    refine zr_getI zf_RX5_70 ⟨by decide, by decide⟩ (eX5_powerSumOfAll 21 rfl) ?_
    refine zr_icmp_ge (eX5_powerSumOfAll 22 rfl) (t := 83) (by decide) ?_ ?_
    · exact v_drop [true, true, true, false, false, false] rfl (hk37 x38 h6)
    · refine zr_iload_n (eX5_powerSumOfAll 23 rfl) rfl rfl ?_
      refine zr_invS_i (as := [(.int x39, 0)]) (cJ6_bitCount_0f7a4_ok l h6 x39) rfl zcd_J6_bitCount_0f7a4 ⟨zw_360, zw_252, zw_63⟩ ⟨Nat.le_of_ble_eq_true rfl, Nat.le_of_ble_eq_true rfl⟩ rfl (Nat.le_of_ble_eq_true rfl) (eX5_powerSumOfAll 24 rfl) (fun x43 => ?_)
      refine zr_aload_n (r := (some a0)) (eX5_powerSumOfAll 25 rfl) rfl rfl ?_
      refine zr_getI zf_RX5_47 ⟨by decide, by decide⟩ (eX5_powerSumOfAll 26 rfl) ?_
      refine v_jn (fun (k45 : Int32 → Zh → Option (Int64 × Zh)) => ∀ (x44 : Int32) (h7 : Zh), V l mX5_powerSumOfAll (zN h) (zS h) 0 zoJ 77 [some (.ref a0, 5), some (.int x1, 0), some (.int x44, 0), some (.int x39, 0), none, none] [] h7 (k45 x44 h7)) ?_ ?_
      · intro x44 h7
        unfold gX5_powerSumOfAll_J4
        refine zr_iinc (ls2 := [some (.ref a0, 5), some (.int x1, 0), some (.int x44, 0), some (.int (x39 + 1), 0), none, none]) (eX5_powerSumOfAll 39 rfl) rfl (Nat.le_of_ble_eq_true rfl) zk_iconst_1 rfl ?_
        refine zr_goto (eX5_powerSumOfAll 40 rfl) (t := 36) (by decide) ?_
        exact v_drop [true, true, true, true, false, false] rfl (hk40 x44 (x39 + 1) h7)
      intro k45 hk45
      refine zr_icmp_ne (eX5_powerSumOfAll 27 rfl) (t := 77) (by decide) ?_ ?_
      · exact v_drop [true, true, true, true, false, false] rfl (hk45 x38 h6)
      · refine zr_iload_n (eX5_powerSumOfAll 28 rfl) rfl rfl ?_
        refine zr_aload_n (r := (some a0)) (eX5_powerSumOfAll 29 rfl) rfl rfl ?_
        refine zr_getR2 zf_RX5_15 (τ2 := 20) rfl (eX5_powerSumOfAll 30 rfl) ?_
        refine v_letr (fun r46 => ?_)
        refine v_nn (fun a47 ea47 => ?_)
        subst ea47
        refine zr_alen (by decide) (eX5_powerSumOfAll 31 rfl) ?_
        refine zr_icmp_ge (eX5_powerSumOfAll 32 rfl) (t := 77) (by decide) ?_ ?_
        · exact v_drop [true, true, true, true, false, false] rfl (hk45 x38 h6)
        · refine zr_aload_n (r := (some a0)) (eX5_powerSumOfAll 33 rfl) rfl rfl ?_
          refine zr_getR2 zf_RX5_15 (τ2 := 20) rfl (eX5_powerSumOfAll 34 rfl) ?_
          refine v_letr (fun r48 => ?_)
          refine zr_iload_n (eX5_powerSumOfAll 35 rfl) rfl rfl ?_
          refine zr_iload_n (eX5_powerSumOfAll 36 rfl) rfl rfl ?_
          refine v_nn (fun a49 ea49 => ?_)
          subst ea49
          refine zr_iast (eX5_powerSumOfAll 37 rfl) ?_
          refine v_leth (fun h8 => ?_)
          refine zr_iinc (ls2 := [some (.ref a0, 5), some (.int x1, 0), some (.int (x38 + 1), 0), some (.int x39, 0), none, none]) (eX5_powerSumOfAll 38 rfl) rfl (Nat.le_of_ble_eq_true rfl) zk_iconst_1 rfl ?_
          exact v_drop [true, true, true, true, false, false] rfl (hk45 (x38 + 1) h8)
  intro k50 hk50
  refine v_jn (fun (k53 : Option (Int64 × Zh)) => V l mX5_powerSumOfAll (zN h) (zS h) 0 zoJ 14 [some (.ref a0, 5), some (.int x1, 0), none, none, none, none] [] h k53) ?_ ?_
  · skip
    unfold gX5_powerSumOfAll_J7
    refine zr_aload_n (r := (some a0)) (eX5_powerSumOfAll 6 rfl) rfl rfl ?_
    refine zr_sipush (eX5_powerSumOfAll 7 rfl) zk_sipush_256 ?_
    refine zr_newj zw_355 (eX5_powerSumOfAll 8 rfl) ?_
    refine zr_leta (fun a51 => ?_)
    refine v_leth (fun h9 => ?_)
    refine zr_putR (x := (some a51)) zf_RX5_37 (by decide) (fun _ h => h) (Or.inl rfl) (eX5_powerSumOfAll 9 rfl) ?_
    refine v_leth (fun h10 => ?_)
    refine zr_aload_n (r := (some a0)) (eX5_powerSumOfAll 10 rfl) rfl rfl ?_
    refine zr_sipush (eX5_powerSumOfAll 11 rfl) zk_sipush_256 ?_
    refine zr_newj zw_355 (eX5_powerSumOfAll 12 rfl) ?_
    refine zr_leta (fun a52 => ?_)
    refine v_leth (fun h11 => ?_)
    refine zr_putR (x := (some a52)) zf_RX5_40 (by decide) (fun _ h => h) (Or.inl rfl) (eX5_powerSumOfAll 13 rfl) ?_
    refine v_leth (fun h12 => ?_)
    exact v_drop [true, true, false, false, false, false] rfl (hk50 h12)
  intro k53 hk53
  refine zr_null2 (eX5_powerSumOfAll 2 rfl) (t := 14) (by decide) (fun ea54 => ?_) (fun a54 ea54 => ?_)
  · subst ea54
    exact v_drop [true, true, false, false, false, false] rfl (hk53)
  · subst ea54
    refine zr_aload_n (r := (some a0)) (eX5_powerSumOfAll 3 rfl) rfl rfl ?_
    refine zr_getR2 zf_RX5_40 (τ2 := 21) rfl (eX5_powerSumOfAll 4 rfl) ?_
    refine v_letr (fun r55 => ?_)
    refine zr_nonnull2 (eX5_powerSumOfAll 5 rfl) (t := 32) (by decide) (fun ea56 => ?_) (fun a56 ea56 => ?_)
    · subst ea56
      exact v_drop [true, true, false, false, false, false] rfl (hk53)
    · subst ea56
      exact v_drop [true, true, false, false, false, false] rfl (hk50 h)
def gX5_applyToUnit_J1 (a0 : Nat) (x1 : Int32) (x25 : Int32) (k26 : Int32 → Zh → Option (Zh)) : Zh → Option (Zh) :=
  fun (h5 : Zh) => zlt (zR h5 a0 5) (fun r31 => Option.bind r31 (fun a32 => zg (zin x1 (zL h5 a32)) (zlt (zR h5 a0 6) (fun r33 => Option.bind r33 (fun a34 => zg (zin x25 (zL h5 a34)) (zg (zin x1 (zL h5 a32)) (zlt (zsJ h5 a32 (zx x1) ((zJ h5 a32 (zx x1)) + (zJ h5 a34 (zx x25)))) (fun (h6 : Zh) => k26 (x25 + (-1)) h6))))))))
def gX5_applyToUnit_L2 (a0 : Nat) (k35 : Zh → Option (Zh)) : (Int32 → Zh → Option (Zh)) → Int32 → Zh → Option (Zh) :=
  fun (k37 : Int32 → Zh → Option (Zh)) (x36 : Int32) (h7 : Zh) => (if ((zI h7 a0 13) : Int32) ≤ x36 then k35 h7
  else zlt (zR h7 a0 5) (fun r38 => zlt (zR h7 a0 7) (fun r39 => zbj (gX5_rowTimes h7 a0 x36 (zI h7 a0 13) r39) (fun x40 => Option.bind r38 (fun a41 => zg (zin x36 (zL h7 a41)) (zlt (zsJ h7 a41 (zx x36) x40) (fun (h8 : Zh) => k37 (x36 + 1) h8)))))))
def gX5_applyToUnit_L3 (a0 : Nat) (x1 : Int32) : (Int32 → Zh → Option (Zh)) → Int32 → Zh → Option (Zh) :=
  fun (k26 : Int32 → Zh → Option (Zh)) (x25 : Int32) (h3 : Zh) => (if (x25 : Int32) < 0 then some h3
  else zlt (zR h3 a0 5) (fun r27 => zlt (zR h3 a0 7) (fun r28 => Option.bind r27 (fun a29 => Option.bind r28 (fun a30 => zg (zcp h3 a29 0 a30 0 (zI h3 a0 13)) (zlt (zcJ h3 a29 (zx 0) a30 (zx 0) (zx (zI h3 a0 13))) (fun (h4 : Zh) => zjn (gX5_applyToUnit_J1 a0 x1 x25 k26) (fun (k35 : Zh → Option (Zh)) =>
  zlp (fun (_ : Int32) (_ : Zh) => (none : Option (Zh))) (gX5_applyToUnit_L2 a0 k35) zFU 0 h4))))))))
def gX5_applyToUnit (h : Zh) (a0 : Nat) (x1 : Int32) : Option (Zh) :=
  zlt (zR h a0 5) (fun r21 => zbV (gJ7_fill_d0a16 h r21 0) (fun h1 => zlt (zR h1 a0 5) (fun r22 => Option.bind r22 (fun a23 => zg (zin x1 (zL h1 a23)) (zlt (zsJ h1 a23 (zx x1) 1) (fun (h2 : Zh) => zlt ((zI h2 a0 13) - 2) (fun x24 => zlp (fun (_ : Int32) (_ : Zh) => (none : Option (Zh))) (gX5_applyToUnit_L3 a0 x1) zFU x24 h2)))))))
set_option maxRecDepth 20000 in
theorem cX5_applyToUnit_ok (l : Launch) (h : Zh) (a0 : Nat) (x1 : Int32) : Zc l yX5_applyToUnit mX5_applyToUnit 0 h [(.ref a0, 5), (.int x1, 0)] ((gX5_applyToUnit h a0 x1).map zoV) := by
  refine zc_of2 (ls := [some (.ref a0, 5), some (.int x1, 0), none, none]) (j := 2) (by decide +kernel) rfl rfl (zEn_ca (zEn_ci rfl)) (Nat.le_of_ble_eq_true rfl) rfl ?_
  unfold gX5_applyToUnit
  refine zr_aload_n (r := (some a0)) (eX5_applyToUnit 0 rfl) rfl rfl ?_
  refine zr_getR2 zf_RX5_28 (τ2 := 21) rfl (eX5_applyToUnit 1 rfl) ?_
  refine v_letr (fun r21 => ?_)
  refine zr_lconst (eX5_applyToUnit 2 rfl) zk_lconst_0 ?_
  refine zr_invS_V (as := [(va_rf r21, 21), (.long 0, 0)]) (cJ7_fill_d0a16_ok l h r21 0) rfl zcd_J7_fill_d0a16 ⟨zw_390, zw_391, zw_65⟩ ⟨Nat.le_of_ble_eq_true rfl, Nat.le_of_ble_eq_true rfl⟩ rfl (Nat.le_of_ble_eq_true rfl) (eX5_applyToUnit 3 rfl) (fun h1 => ?_)
  refine zr_aload_n (r := (some a0)) (eX5_applyToUnit 4 rfl) rfl rfl ?_
  refine zr_getR2 zf_RX5_28 (τ2 := 21) rfl (eX5_applyToUnit 5 rfl) ?_
  refine v_letr (fun r22 => ?_)
  refine zr_iload_n (eX5_applyToUnit 6 rfl) rfl rfl ?_
  refine zr_lconst (eX5_applyToUnit 7 rfl) zk_lconst_1 ?_
  refine v_nn (fun a23 ea23 => ?_)
  subst ea23
  refine zr_last (eX5_applyToUnit 8 rfl) ?_
  refine v_leth (fun h2 => ?_)
  refine zr_aload_n (r := (some a0)) (eX5_applyToUnit 9 rfl) rfl rfl ?_
  refine zr_getI zf_RX5_54 ⟨by decide, by decide⟩ (eX5_applyToUnit 10 rfl) ?_
  refine zr_iconst (eX5_applyToUnit 11 rfl) zk_iconst_2 ?_
  refine zr_isub (eX5_applyToUnit 12 rfl) ?_
  refine v_leti (fun x24 => ?_)
  refine zr_istore_n (ls2 := [some (.ref a0, 5), some (.int x1, 0), some (.int x24, 0), none]) (eX5_applyToUnit 13 rfl) rfl (Nat.le_of_ble_eq_true rfl) rfl ?_
  refine v_drop [true, true, true, false] rfl ?_
  refine zlp_ind (fun (k26 : Int32 → Zh → Option (Zh)) => ∀ (x25 : Int32) (h3 : Zh), V l mX5_applyToUnit (zN h) (zS h) 0 zoV 22 [some (.ref a0, 5), some (.int x1, 0), some (.int x25, 0), none] [] h3 (k26 x25 h3)) ?_ ?_ x24 h2
  · exact fun _ _ => v_none
  intro k26 hk26 x25 h3
  unfold gX5_applyToUnit_L3
  refine zr_iload_n (eX5_applyToUnit 14 rfl) rfl rfl ?_
  refine zr_if_lt (eX5_applyToUnit 15 rfl) (t := 99) (by decide) ?_ ?_
  · exact zr_vret rfl rfl (eX5_applyToUnit 57 rfl)
  · refine zr_aload_n (r := (some a0)) (eX5_applyToUnit 16 rfl) rfl rfl ?_
    refine zr_getR2 zf_RX5_28 (τ2 := 21) rfl (eX5_applyToUnit 17 rfl) ?_
    refine v_letr (fun r27 => ?_)
    refine zr_iconst (eX5_applyToUnit 18 rfl) zk_iconst_0 ?_
    refine zr_aload_n (r := (some a0)) (eX5_applyToUnit 19 rfl) rfl rfl ?_
    refine zr_getR2 zf_RX5_34 (τ2 := 21) rfl (eX5_applyToUnit 20 rfl) ?_
    refine v_letr (fun r28 => ?_)
    refine zr_iconst (eX5_applyToUnit 21 rfl) zk_iconst_0 ?_
    refine zr_aload_n (r := (some a0)) (eX5_applyToUnit 22 rfl) rfl rfl ?_
    refine zr_getI zf_RX5_54 ⟨by decide, by decide⟩ (eX5_applyToUnit 23 rfl) ?_
    refine v_nn (fun a29 ea29 => ?_)
    subst ea29
    refine v_nn (fun a30 ea30 => ?_)
    subst ea30
    refine zr_copyJ (e' := 0) (f := 0) zac_RX5_115 ⟨Nat.le_of_ble_eq_true rfl, zRnat rfl⟩ (Nat.le_of_ble_eq_true rfl) (eX5_applyToUnit 24 rfl) ?_
    refine v_leth (fun h4 => ?_)
    refine zr_iconst (eX5_applyToUnit 25 rfl) zk_iconst_0 ?_
    refine zr_istore_n (ls2 := [some (.ref a0, 5), some (.int x1, 0), some (.int x25, 0), some (.int 0, 0)]) (eX5_applyToUnit 26 rfl) rfl (Nat.le_of_ble_eq_true rfl) rfl ?_
    refine v_jn (fun (k35 : Zh → Option (Zh)) => ∀ (h5 : Zh), V l mX5_applyToUnit (zN h) (zS h) 0 zoV 78 [some (.ref a0, 5), some (.int x1, 0), some (.int x25, 0), none] [] h5 (k35 h5)) ?_ ?_
    · intro h5
      unfold gX5_applyToUnit_J1
      refine zr_aload_n (r := (some a0)) (eX5_applyToUnit 44 rfl) rfl rfl ?_
      refine zr_getR2 zf_RX5_28 (τ2 := 21) rfl (eX5_applyToUnit 45 rfl) ?_
      refine v_letr (fun r31 => ?_)
      refine zr_iload_n (eX5_applyToUnit 46 rfl) rfl rfl ?_
      refine v_nn (fun a32 ea32 => ?_)
      subst ea32
      refine zr_dup2 (eX5_applyToUnit 47 rfl) rfl rfl ?_
      refine zr_lald (eX5_applyToUnit 48 rfl) ?_
      refine zr_aload_n (r := (some a0)) (eX5_applyToUnit 49 rfl) rfl rfl ?_
      refine zr_getR2 zf_RX5_31 (τ2 := 21) rfl (eX5_applyToUnit 50 rfl) ?_
      refine v_letr (fun r33 => ?_)
      refine zr_iload_n (eX5_applyToUnit 51 rfl) rfl rfl ?_
      refine v_nn (fun a34 ea34 => ?_)
      subst ea34
      refine zr_lald (eX5_applyToUnit 52 rfl) ?_
      refine zr_ladd (eX5_applyToUnit 53 rfl) ?_
      refine zr_last (eX5_applyToUnit 54 rfl) ?_
      refine v_leth (fun h6 => ?_)
      refine zr_iinc (ls2 := [some (.ref a0, 5), some (.int x1, 0), some (.int (x25 + (-1)), 0), none]) (eX5_applyToUnit 55 rfl) rfl (Nat.le_of_ble_eq_true rfl) zk_iconst_m1 rfl ?_
      refine zr_goto (eX5_applyToUnit 56 rfl) (t := 22) (by decide) ?_
      exact v_drop [true, true, true, false] rfl (hk26 (x25 + (-1)) h6)
    intro k35 hk35
    refine v_drop [true, true, true, true] rfl ?_
    refine zlp_ind (fun (k37 : Int32 → Zh → Option (Zh)) => ∀ (x36 : Int32) (h7 : Zh), V l mX5_applyToUnit (zN h) (zS h) 0 zoV 45 [some (.ref a0, 5), some (.int x1, 0), some (.int x25, 0), some (.int x36, 0)] [] h7 (k37 x36 h7)) ?_ ?_ 0 h4
    · exact fun _ _ => v_none
    intro k37 hk37 x36 h7
    unfold gX5_applyToUnit_L2
    refine zr_iload_n (eX5_applyToUnit 27 rfl) rfl rfl ?_
    refine zr_aload_n (r := (some a0)) (eX5_applyToUnit 28 rfl) rfl rfl ?_
    refine zr_getI zf_RX5_54 ⟨by decide, by decide⟩ (eX5_applyToUnit 29 rfl) ?_
    refine zr_icmp_ge (eX5_applyToUnit 30 rfl) (t := 78) (by decide) ?_ ?_
    · exact v_drop [true, true, true, false] rfl (hk35 h7)
    · refine zr_aload_n (r := (some a0)) (eX5_applyToUnit 31 rfl) rfl rfl ?_
      refine zr_getR2 zf_RX5_28 (τ2 := 21) rfl (eX5_applyToUnit 32 rfl) ?_
      refine v_letr (fun r38 => ?_)
      refine zr_iload_n (eX5_applyToUnit 33 rfl) rfl rfl ?_
      refine zr_aload_n (r := (some a0)) (eX5_applyToUnit 34 rfl) rfl rfl ?_
      refine zr_iload_n (eX5_applyToUnit 35 rfl) rfl rfl ?_
      refine zr_aload_n (r := (some a0)) (eX5_applyToUnit 36 rfl) rfl rfl ?_
      refine zr_getI zf_RX5_54 ⟨by decide, by decide⟩ (eX5_applyToUnit 37 rfl) ?_
      refine zr_aload_n (r := (some a0)) (eX5_applyToUnit 38 rfl) rfl rfl ?_
      refine zr_getR2 zf_RX5_34 (τ2 := 21) rfl (eX5_applyToUnit 39 rfl) ?_
      refine v_letr (fun r39 => ?_)
      refine zr_invV_j (as := [(.int x36, 0), (.int (zI h7 a0 13), 0), (va_rf r39, 21)]) (cX5_rowTimes_ok l h7 a0 x36 (zI h7 a0 13) r39) rfl rfl ⟨by decide, by decide, by decide⟩ zcd_X5_rowTimes rfl ⟨zw_402, zw_403, zw_404, zw_64⟩ ⟨Nat.le_of_ble_eq_true rfl, Nat.le_of_ble_eq_true rfl⟩ rfl (Nat.le_of_ble_eq_true rfl) (eX5_applyToUnit 40 rfl) (fun x40 => ?_)
      refine v_nn (fun a41 ea41 => ?_)
      subst ea41
      refine zr_last (eX5_applyToUnit 41 rfl) ?_
      refine v_leth (fun h8 => ?_)
      refine zr_iinc (ls2 := [some (.ref a0, 5), some (.int x1, 0), some (.int x25, 0), some (.int (x36 + 1), 0)]) (eX5_applyToUnit 42 rfl) rfl (Nat.le_of_ble_eq_true rfl) zk_iconst_1 rfl ?_
      refine zr_goto (eX5_applyToUnit 43 rfl) (t := 45) (by decide) ?_
      exact v_drop [true, true, true, true] rfl (hk37 (x36 + 1) h8)
def gX5_commonDivisor_L1 : (Int64 → Int64 → Int32 → Option (Int64)) → Int64 → Int64 → Int32 → Option (Int64) :=
  fun (k26 : Int64 → Int64 → Int32 → Option (Int64)) (x23 : Int64) (x24 : Int64) (x25 : Int32) => (if (200 : Int32) ≤ x25 then (some x23)
  else (if ((lg_cmp x24 0) : Int32) = 0 then (some x23)
  else (if (x24 : Int64) = 0 then none else zlt (x23 - x23 / x24 * x24) (fun x27 => k26 x24 x27 (x25 + 1)))))
def gX5_commonDivisor (x0 : Int64) (x2 : Int64) : Option (Int64) :=
  zbj (gJ9_abs_067f4 x0) (fun x21 => zbj (gJ9_abs_067f4 x2) (fun x22 => zlp (fun (_ : Int64) (_ : Int64) (_ : Int32) => (none : Option (Int64))) gX5_commonDivisor_L1 zFU x21 x22 0))
set_option maxRecDepth 20000 in
theorem cX5_commonDivisor_ok (l : Launch) (h : Zh) (x0 : Int64) (x2 : Int64) : Zc l yX5_commonDivisor mX5_commonDivisor 0 h [(.long x0, 0), (.long x2, 0)] ((gX5_commonDivisor x0 x2).map (zoj h)) := by
  refine zc_of2 (ls := [some (.long x0, 0), none, some (.long x2, 0), none, none, none, none, none, none, none, none]) (j := 7) (by decide +kernel) rfl rfl (zEn_cj (zEn_cj rfl)) (Nat.le_of_ble_eq_true rfl) rfl ?_
  unfold gX5_commonDivisor
  refine zr_lload_n (eX5_commonDivisor 0 rfl) rfl rfl ?_
  refine zr_invS_j (as := [(.long x0, 0)]) (cJ9_abs_067f4_ok l h x0) rfl zcd_J9_abs_067f4 ⟨zw_499, zw_500, zw_67⟩ ⟨Nat.le_of_ble_eq_true rfl, Nat.le_of_ble_eq_true rfl⟩ rfl (Nat.le_of_ble_eq_true rfl) (eX5_commonDivisor 1 rfl) (fun x21 => ?_)
  refine zr_lstore (ls2 := [some (.long x0, 0), none, some (.long x2, 0), none, some (.long x21, 0), none, none, none, none, none, none]) (eX5_commonDivisor 2 rfl) (Nat.le_of_ble_eq_true rfl) rfl ?_
  refine zr_lload_n (eX5_commonDivisor 3 rfl) rfl rfl ?_
  refine zr_invS_j (as := [(.long x2, 0)]) (cJ9_abs_067f4_ok l h x2) rfl zcd_J9_abs_067f4 ⟨zw_499, zw_500, zw_67⟩ ⟨Nat.le_of_ble_eq_true rfl, Nat.le_of_ble_eq_true rfl⟩ rfl (Nat.le_of_ble_eq_true rfl) (eX5_commonDivisor 4 rfl) (fun x22 => ?_)
  refine zr_lstore (ls2 := [some (.long x0, 0), none, some (.long x2, 0), none, some (.long x21, 0), none, some (.long x22, 0), none, none, none, none]) (eX5_commonDivisor 5 rfl) (Nat.le_of_ble_eq_true rfl) rfl ?_
  refine zr_iconst (eX5_commonDivisor 6 rfl) zk_iconst_0 ?_
  refine zr_istore (ls2 := [some (.long x0, 0), none, some (.long x2, 0), none, some (.long x21, 0), none, some (.long x22, 0), none, some (.int 0, 0), none, none]) (eX5_commonDivisor 7 rfl) (Nat.le_of_ble_eq_true rfl) rfl ?_
  refine v_drop [false, false, false, false, true, false, true, false, true, false, false] rfl ?_
  refine zlp_ind (fun (k26 : Int64 → Int64 → Int32 → Option (Int64)) => ∀ (x23 : Int64) (x24 : Int64) (x25 : Int32), V l mX5_commonDivisor (zN h) (zS h) 0 (zoj h) 15 [none, none, none, none, some (.long x23, 0), none, some (.long x24, 0), none, some (.int x25, 0), none, none] [] h (k26 x23 x24 x25)) ?_ ?_ x21 x22 0
  · exact fun _ _ _ => v_none
  intro k26 hk26 x23 x24 x25
  unfold gX5_commonDivisor_L1
  refine zr_iload (eX5_commonDivisor 8 rfl) rfl ?_
  refine zr_sipush (eX5_commonDivisor 9 rfl) zk_sipush_200 ?_
  refine zr_icmp_ge (eX5_commonDivisor 10 rfl) (t := 51) (by decide) ?_ ?_
  · refine zr_lload (eX5_commonDivisor 25 rfl) rfl ?_
    exact zr_lret rfl rfl (eX5_commonDivisor 26 rfl)
  · refine zr_lload (eX5_commonDivisor 11 rfl) rfl ?_
    refine zr_lconst (eX5_commonDivisor 12 rfl) zk_lconst_0 ?_
    refine zr_lcmp (eX5_commonDivisor 13 rfl) ?_
    refine zr_if_eq (eX5_commonDivisor 14 rfl) (t := 51) (by decide) ?_ ?_
    · refine zr_lload (eX5_commonDivisor 25 rfl) rfl ?_
      exact zr_lret rfl rfl (eX5_commonDivisor 26 rfl)
    · refine zr_lload (eX5_commonDivisor 15 rfl) rfl ?_
      refine zr_lload (eX5_commonDivisor 16 rfl) rfl ?_
      refine zr_lrem (eX5_commonDivisor 17 rfl) ?_
      refine v_letj (fun x27 => ?_)
      refine zr_lstore (ls2 := [none, none, none, none, some (.long x23, 0), none, some (.long x24, 0), none, some (.int x25, 0), some (.long x27, 0), none]) (eX5_commonDivisor 18 rfl) (Nat.le_of_ble_eq_true rfl) rfl ?_
      refine zr_lload (eX5_commonDivisor 19 rfl) rfl ?_
      refine zr_lstore (ls2 := [none, none, none, none, some (.long x24, 0), none, some (.long x24, 0), none, some (.int x25, 0), some (.long x27, 0), none]) (eX5_commonDivisor 20 rfl) (Nat.le_of_ble_eq_true rfl) rfl ?_
      refine zr_lload (eX5_commonDivisor 21 rfl) rfl ?_
      refine zr_lstore (ls2 := [none, none, none, none, some (.long x24, 0), none, some (.long x27, 0), none, some (.int x25, 0), some (.long x27, 0), none]) (eX5_commonDivisor 22 rfl) (Nat.le_of_ble_eq_true rfl) rfl ?_
      refine zr_iinc (ls2 := [none, none, none, none, some (.long x24, 0), none, some (.long x27, 0), none, some (.int (x25 + 1), 0), some (.long x27, 0), none]) (eX5_commonDivisor 23 rfl) rfl (Nat.le_of_ble_eq_true rfl) zk_iconst_1 rfl ?_
      refine zr_goto (eX5_commonDivisor 24 rfl) (t := 15) (by decide) ?_
      exact v_drop [false, false, false, false, true, false, true, false, true, false, false] rfl (hk26 x24 x27 (x25 + 1))
def gX5_reduceShares_J1 (x24 : Int32) (k25 : Int32 → Int64 → Int32 → Zh → Option (Int32 × Zh)) (x26 : Int64) (h2 : Zh) : Int32 → Option (Int32 × Zh) :=
  fun (x30 : Int32) => k25 x30 x26 (x24 + 1) h2
def gX5_reduceShares_J2 (a0 : Nat) (x24 : Int32) (k25 : Int32 → Int64 → Int32 → Zh → Option (Int32 × Zh)) (x26 : Int64) : Zh → Option (Int32 × Zh) :=
  fun (h2 : Zh) => zlt (zR h2 a0 5) (fun r27 => Option.bind r27 (fun a28 => zg (zin x24 (zL h2 a28)) (zbj (gJ9_abs_067f4 (zJ h2 a28 (zx x24))) (fun x29 => zjn (gX5_reduceShares_J1 x24 k25 x26 h2) (fun (k31 : Int32 → Option (Int32 × Zh)) =>
  (if (0 : Int32) < (lg_cmp x29 1000000) then k31 0
  else k31 1))))))
def gX5_reduceShares_J3 (a0 : Nat) (x24 : Int32) (h1 : Zh) (k25 : Int32 → Int64 → Int32 → Zh → Option (Int32 × Zh)) : Int64 → Option (Int32 × Zh) :=
  fun (x26 : Int64) => zjn (gX5_reduceShares_J2 a0 x24 k25 x26) (fun (k32 : Zh → Option (Int32 × Zh)) =>
  (if ((lg_cmp x26 0) : Int32) = 0 then k32 h1
  else zlt (zR h1 a0 5) (fun r33 => Option.bind r33 (fun a34 => zg (zin x24 (zL h1 a34)) ((if (x26 : Int64) = 0 then none else zg (zin x24 (zL h1 a34)) (zlt (zsJ h1 a34 (zx x24) ((zJ h1 a34 (zx x24)) / x26)) (fun (h3 : Zh) => k32 h3))))))))
def gX5_reduceShares_J4 (k35 : Int64 → Option (Int32 × Zh)) : Int64 → Option (Int32 × Zh) :=
  fun (x40 : Int64) => k35 x40
def gX5_reduceShares_L5 (a0 : Nat) (x1 : Int64) : (Int32 → Int64 → Int32 → Zh → Option (Int32 × Zh)) → Int32 → Int64 → Int32 → Zh → Option (Int32 × Zh) :=
  fun (k25 : Int32 → Int64 → Int32 → Zh → Option (Int32 × Zh)) (x22 : Int32) (x23 : Int64) (x24 : Int32) (h1 : Zh) => (if ((zI h1 a0 13) : Int32) ≤ x24 then (zg (zbl x22) (some (x22, h1)))
  else (if (x22 : Int32) = 0 then (zg (zbl x22) (some (x22, h1)))
  else zjn (gX5_reduceShares_J3 a0 x24 h1 k25) (fun (k35 : Int64 → Option (Int32 × Zh)) =>
  (if ((lg_cmp x23 0) : Int32) = 0 then zlt (zR h1 a0 5) (fun r36 => Option.bind r36 (fun a37 => zg (zin x24 (zL h1 a37)) ((if ((lg_cmp (zJ h1 a37 (zx x24)) 0) : Int32) = 0 then k35 x23
  else zlt (zR h1 a0 5) (fun r38 => Option.bind r38 (fun a39 => zg (zin x24 (zL h1 a39)) (zjn (gX5_reduceShares_J4 k35) (fun (k41 : Int64 → Option (Int32 × Zh)) =>
  (if ((lg_cmp (zJ h1 a39 (zx x24)) 0) : Int32) ≤ 0 then k41 (-x1)
  else k41 x1)))))))))
  else k35 x23))))
def gX5_reduceShares_J6 (h : Zh) (a0 : Nat) (x1 : Int64) : Int32 → Option (Int32 × Zh) :=
  fun (x21 : Int32) => zlp (fun (_ : Int32) (_ : Int64) (_ : Int32) (_ : Zh) => (none : Option (Int32 × Zh))) (gX5_reduceShares_L5 a0 x1) zFU x21 0 0 h
def gX5_reduceShares (h : Zh) (a0 : Nat) (x1 : Int64) : Option (Int32 × Zh) :=
  zjn (gX5_reduceShares_J6 h a0 x1) (fun (k42 : Int32 → Option (Int32 × Zh)) =>
  (if ((lg_cmp x1 0) : Int32) = 0 then k42 0
  else k42 1))
set_option maxRecDepth 20000 in
theorem cX5_reduceShares_ok (l : Launch) (h : Zh) (a0 : Nat) (x1 : Int64) : Zc l yX5_reduceShares mX5_reduceShares 0 h [(.ref a0, 5), (.long x1, 0)] ((gX5_reduceShares h a0 x1).map zoI) := by
  refine zc_of2 (ls := [some (.ref a0, 5), some (.long x1, 0), none, none, none, none, none]) (j := 4) (by decide +kernel) rfl rfl (zEn_ca (zEn_cj rfl)) (Nat.le_of_ble_eq_true rfl) rfl ?_
  unfold gX5_reduceShares
  refine zr_lload_n (eX5_reduceShares 0 rfl) rfl rfl ?_
  refine zr_lconst (eX5_reduceShares 1 rfl) zk_lconst_0 ?_
  refine zr_lcmp (eX5_reduceShares 2 rfl) ?_
  refine v_jn (fun (k42 : Int32 → Option (Int32 × Zh)) => ∀ (x21 : Int32), V l mX5_reduceShares (zN h) (zS h) 0 zoI 11 [some (.ref a0, 5), some (.long x1, 0), none, none, none, none, none] [(.int x21, 0)] h (k42 x21)) ?_ ?_
  · intro x21
    unfold gX5_reduceShares_J6
    refine zr_istore_n (ls2 := [some (.ref a0, 5), some (.long x1, 0), none, some (.int x21, 0), none, none, none]) (eX5_reduceShares 7 rfl) rfl (Nat.le_of_ble_eq_true rfl) rfl ?_
    refine zr_lconst (eX5_reduceShares 8 rfl) zk_lconst_0 ?_
    refine zr_lstore (ls2 := [some (.ref a0, 5), some (.long x1, 0), none, some (.int x21, 0), some (.long 0, 0), none, none]) (eX5_reduceShares 9 rfl) (Nat.le_of_ble_eq_true rfl) rfl ?_
    refine zr_iconst (eX5_reduceShares 10 rfl) zk_iconst_0 ?_
    refine zr_istore (ls2 := [some (.ref a0, 5), some (.long x1, 0), none, some (.int x21, 0), some (.long 0, 0), none, some (.int 0, 0)]) (eX5_reduceShares 11 rfl) (Nat.le_of_ble_eq_true rfl) rfl ?_
    refine v_drop [true, true, false, true, true, false, true] rfl ?_
    refine zlp_ind (fun (k25 : Int32 → Int64 → Int32 → Zh → Option (Int32 × Zh)) => ∀ (x22 : Int32) (x23 : Int64) (x24 : Int32) (h1 : Zh), V l mX5_reduceShares (zN h) (zS h) 0 zoI 18 [some (.ref a0, 5), some (.long x1, 0), none, some (.int x22, 0), some (.long x23, 0), none, some (.int x24, 0)] [] h1 (k25 x22 x23 x24 h1)) ?_ ?_ x21 0 0 h
    · exact fun _ _ _ _ => v_none
    intro k25 hk25 x22 x23 x24 h1
    unfold gX5_reduceShares_L5
    refine zr_iload (eX5_reduceShares 12 rfl) rfl ?_
    refine zr_aload_n (r := (some a0)) (eX5_reduceShares 13 rfl) rfl rfl ?_
    refine zr_getI zf_RX5_54 ⟨by decide, by decide⟩ (eX5_reduceShares 14 rfl) ?_
    refine zr_icmp_ge (eX5_reduceShares 15 rfl) (t := 118) (by decide) ?_ ?_
    · refine zr_iload_n (eX5_reduceShares 67 rfl) rfl rfl ?_
      refine v_g (fun hb => ?_)
      exact zr_zret rfl (zbl_of hb) rfl (eX5_reduceShares 68 rfl)
    · refine zr_iload_n (eX5_reduceShares 16 rfl) rfl rfl ?_
      refine zr_if_eq (eX5_reduceShares 17 rfl) (t := 118) (by decide) ?_ ?_
      · refine zr_iload_n (eX5_reduceShares 67 rfl) rfl rfl ?_
        refine v_g (fun hb => ?_)
        exact zr_zret rfl (zbl_of hb) rfl (eX5_reduceShares 68 rfl)
      · refine zr_lload (eX5_reduceShares 18 rfl) rfl ?_
        refine zr_lconst (eX5_reduceShares 19 rfl) zk_lconst_0 ?_
        refine zr_lcmp (eX5_reduceShares 20 rfl) ?_
        refine v_jn (fun (k35 : Int64 → Option (Int32 × Zh)) => ∀ (x26 : Int64), V l mX5_reduceShares (zN h) (zS h) 0 zoI 70 [some (.ref a0, 5), some (.long x1, 0), none, none, some (.long x26, 0), none, some (.int x24, 0)] [] h1 (k35 x26)) ?_ ?_
        · intro x26
          unfold gX5_reduceShares_J3
          refine zr_lload (eX5_reduceShares 41 rfl) rfl ?_
          refine zr_lconst (eX5_reduceShares 42 rfl) zk_lconst_0 ?_
          refine zr_lcmp (eX5_reduceShares 43 rfl) ?_
          refine v_jn (fun (k32 : Zh → Option (Int32 × Zh)) => ∀ (h2 : Zh), V l mX5_reduceShares (zN h) (zS h) 0 zoI 89 [some (.ref a0, 5), some (.long x1, 0), none, none, some (.long x26, 0), none, some (.int x24, 0)] [] h2 (k32 h2)) ?_ ?_
          · intro h2
            unfold gX5_reduceShares_J2
            refine zr_aload_n (r := (some a0)) (eX5_reduceShares 53 rfl) rfl rfl ?_
            refine zr_getR2 zf_RX5_28 (τ2 := 21) rfl (eX5_reduceShares 54 rfl) ?_
            refine v_letr (fun r27 => ?_)
            refine zr_iload (eX5_reduceShares 55 rfl) rfl ?_
            refine v_nn (fun a28 ea28 => ?_)
            subst ea28
            refine zr_lald (eX5_reduceShares 56 rfl) ?_
            refine zr_invS_j (as := [(.long (zJ h2 a28 (zx x24)), 0)]) (cJ9_abs_067f4_ok l h2 (zJ h2 a28 (zx x24))) rfl zcd_J9_abs_067f4 ⟨zw_499, zw_500, zw_67⟩ ⟨Nat.le_of_ble_eq_true rfl, Nat.le_of_ble_eq_true rfl⟩ rfl (Nat.le_of_ble_eq_true rfl) (eX5_reduceShares 57 rfl) (fun x29 => ?_)
            refine zr_ldc2 (eX5_reduceShares 58 rfl) zw_506 ?_
            refine zr_lcmp (eX5_reduceShares 59 rfl) ?_
            refine v_jn (fun (k31 : Int32 → Option (Int32 × Zh)) => ∀ (x30 : Int32), V l mX5_reduceShares (zN h) (zS h) 0 zoI 111 [some (.ref a0, 5), some (.long x1, 0), none, none, some (.long x26, 0), none, some (.int x24, 0)] [(.int x30, 0)] h2 (k31 x30)) ?_ ?_
            · intro x30
              unfold gX5_reduceShares_J1
              refine zr_istore_n (ls2 := [some (.ref a0, 5), some (.long x1, 0), none, some (.int x30, 0), some (.long x26, 0), none, some (.int x24, 0)]) (eX5_reduceShares 64 rfl) rfl (Nat.le_of_ble_eq_true rfl) rfl ?_
              refine zr_iinc (ls2 := [some (.ref a0, 5), some (.long x1, 0), none, some (.int x30, 0), some (.long x26, 0), none, some (.int (x24 + 1), 0)]) (eX5_reduceShares 65 rfl) rfl (Nat.le_of_ble_eq_true rfl) zk_iconst_1 rfl ?_
              refine zr_goto (eX5_reduceShares 66 rfl) (t := 18) (by decide) ?_
              exact v_drop [true, true, false, true, true, false, true] rfl (hk25 x30 x26 (x24 + 1) h2)
            intro k31 hk31
            refine zr_if_gt (eX5_reduceShares 60 rfl) (t := 110) (by decide) ?_ ?_
            · refine zr_iconst (eX5_reduceShares 63 rfl) zk_iconst_0 ?_
              exact v_drop [true, true, false, false, true, false, true] rfl (hk31 0)
            · refine zr_iconst (eX5_reduceShares 61 rfl) zk_iconst_1 ?_
              refine zr_goto (eX5_reduceShares 62 rfl) (t := 111) (by decide) ?_
              exact v_drop [true, true, false, false, true, false, true] rfl (hk31 1)
          intro k32 hk32
          refine zr_if_eq (eX5_reduceShares 44 rfl) (t := 89) (by decide) ?_ ?_
          · exact v_drop [true, true, false, false, true, false, true] rfl (hk32 h1)
          · refine zr_aload_n (r := (some a0)) (eX5_reduceShares 45 rfl) rfl rfl ?_
            refine zr_getR2 zf_RX5_28 (τ2 := 21) rfl (eX5_reduceShares 46 rfl) ?_
            refine v_letr (fun r33 => ?_)
            refine zr_iload (eX5_reduceShares 47 rfl) rfl ?_
            refine v_nn (fun a34 ea34 => ?_)
            subst ea34
            refine zr_dup2 (eX5_reduceShares 48 rfl) rfl rfl ?_
            refine zr_lald (eX5_reduceShares 49 rfl) ?_
            refine zr_lload (eX5_reduceShares 50 rfl) rfl ?_
            refine zr_ldiv (eX5_reduceShares 51 rfl) ?_
            refine zr_last (eX5_reduceShares 52 rfl) ?_
            refine v_leth (fun h3 => ?_)
            exact v_drop [true, true, false, false, true, false, true] rfl (hk32 h3)
        intro k35 hk35
        refine zr_if_ne (eX5_reduceShares 21 rfl) (t := 70) (by decide) ?_ ?_
        · exact v_drop [true, true, false, false, true, false, true] rfl (hk35 x23)
        · refine zr_aload_n (r := (some a0)) (eX5_reduceShares 22 rfl) rfl rfl ?_
          refine zr_getR2 zf_RX5_28 (τ2 := 21) rfl (eX5_reduceShares 23 rfl) ?_
          refine v_letr (fun r36 => ?_)
          refine zr_iload (eX5_reduceShares 24 rfl) rfl ?_
          refine v_nn (fun a37 ea37 => ?_)
          subst ea37
          refine zr_lald (eX5_reduceShares 25 rfl) ?_
          refine zr_lconst (eX5_reduceShares 26 rfl) zk_lconst_0 ?_
          refine zr_lcmp (eX5_reduceShares 27 rfl) ?_
          refine zr_if_eq (eX5_reduceShares 28 rfl) (t := 70) (by decide) ?_ ?_
          · exact v_drop [true, true, false, false, true, false, true] rfl (hk35 x23)
          · refine zr_aload_n (r := (some a0)) (eX5_reduceShares 29 rfl) rfl rfl ?_
            refine zr_getR2 zf_RX5_28 (τ2 := 21) rfl (eX5_reduceShares 30 rfl) ?_
            refine v_letr (fun r38 => ?_)
            refine zr_iload (eX5_reduceShares 31 rfl) rfl ?_
            refine v_nn (fun a39 ea39 => ?_)
            subst ea39
            refine zr_lald (eX5_reduceShares 32 rfl) ?_
            refine zr_lconst (eX5_reduceShares 33 rfl) zk_lconst_0 ?_
            refine zr_lcmp (eX5_reduceShares 34 rfl) ?_
            refine v_jn (fun (k41 : Int64 → Option (Int32 × Zh)) => ∀ (x40 : Int64), V l mX5_reduceShares (zN h) (zS h) 0 zoI 68 [some (.ref a0, 5), some (.long x1, 0), none, none, none, none, some (.int x24, 0)] [(.long x40, 0)] h1 (k41 x40)) ?_ ?_
            · intro x40
              unfold gX5_reduceShares_J4
              refine zr_lstore (ls2 := [some (.ref a0, 5), some (.long x1, 0), none, none, some (.long x40, 0), none, some (.int x24, 0)]) (eX5_reduceShares 40 rfl) (Nat.le_of_ble_eq_true rfl) rfl ?_
              exact v_drop [true, true, false, false, true, false, true] rfl (hk35 x40)
            intro k41 hk41
            refine zr_if_le (eX5_reduceShares 35 rfl) (t := 66) (by decide) ?_ ?_
            · refine zr_lload_n (eX5_reduceShares 38 rfl) rfl rfl ?_
              refine zr_lneg (eX5_reduceShares 39 rfl) ?_
              exact v_drop [true, true, false, false, false, false, true] rfl (hk41 (-x1))
            · refine zr_lload_n (eX5_reduceShares 36 rfl) rfl rfl ?_
              refine zr_goto (eX5_reduceShares 37 rfl) (t := 68) (by decide) ?_
              exact v_drop [true, true, false, false, false, false, true] rfl (hk41 x1)
  intro k42 hk42
  refine zr_if_eq (eX5_reduceShares 3 rfl) (t := 10) (by decide) ?_ ?_
  · refine zr_iconst (eX5_reduceShares 6 rfl) zk_iconst_0 ?_
    exact v_drop [true, true, false, false, false, false, false] rfl (hk42 0)
  · refine zr_iconst (eX5_reduceShares 4 rfl) zk_iconst_1 ?_
    refine zr_goto (eX5_reduceShares 5 rfl) (t := 11) (by decide) ?_
    exact v_drop [true, true, false, false, false, false, false] rfl (hk42 1)
def gX5_findRest_J1 : Zh → Option (Int32 × Zh) :=
  fun (h4 : Zh) => (some (0, h4))
def gX5_findRest_J2 (a0 : Nat) : Int64 → Zh → Option (Int32 × Zh) :=
  fun (x24 : Int64) (h3 : Zh) => zjn gX5_findRest_J1 (fun (k25 : Zh → Option (Int32 × Zh)) =>
  (if ((lg_cmp x24 0) : Int32) = 0 then k25 h3
  else zbI (gX5_reduceShares h3 a0 x24) (fun x26 h5 => (if (x26 : Int32) = 0 then k25 h5
  else (some (1, h5))))))
def gX5_findRest_J3 (x29 : Int32) (k30 : Int64 → Int32 → Zh → Option (Int32 × Zh)) (h7 : Zh) : Int64 → Option (Int32 × Zh) :=
  fun (x31 : Int64) => k30 x31 (x29 + 1) h7
def gX5_findRest_L4 (a0 : Nat) (h7 : Zh) (k32 : Int64 → Option (Int32 × Zh)) : (Int64 → Int32 → Option (Int32 × Zh)) → Int64 → Int32 → Option (Int32 × Zh) :=
  fun (k35 : Int64 → Int32 → Option (Int32 × Zh)) (x33 : Int64) (x34 : Int32) => (if ((zI h7 a0 13) : Int32) ≤ x34 then k32 x33
  else zlt (zR h7 a0 5) (fun r36 => Option.bind r36 (fun a37 => zg (zin x34 (zL h7 a37)) (zbj (gX5_commonDivisor x33 (zJ h7 a37 (zx x34))) (fun x38 => k35 x38 (x34 + 1))))))
def gX5_findRest_L5 (a0 : Nat) (k27 : Int64 → Zh → Option (Int32 × Zh)) : (Int64 → Int32 → Zh → Option (Int32 × Zh)) → Int64 → Int32 → Zh → Option (Int32 × Zh) :=
  fun (k30 : Int64 → Int32 → Zh → Option (Int32 × Zh)) (x28 : Int64) (x29 : Int32) (h6 : Zh) => (if ((zI h6 a0 13) : Int32) ≤ x29 then k27 x28 h6
  else (if ((lg_cmp x28 0) : Int32) = 0 then zbV (gX5_applyToUnit h6 a0 x29) (fun h7 => zjn (gX5_findRest_J3 x29 k30 h7) (fun (k32 : Int64 → Option (Int32 × Zh)) =>
  zlp (fun (_ : Int64) (_ : Int32) => (none : Option (Int32 × Zh))) (gX5_findRest_L4 a0 h7 k32) zFU x28 0))
  else k27 x28 h6))
def gX5_findRest_J6 (a0 : Nat) : Zh → Option (Int32 × Zh) :=
  fun (h2 : Zh) => zjn (gX5_findRest_J2 a0) (fun (k27 : Int64 → Zh → Option (Int32 × Zh)) =>
  zlp (fun (_ : Int64) (_ : Int32) (_ : Zh) => (none : Option (Int32 × Zh))) (gX5_findRest_L5 a0 k27) zFU 0 0 h2)
def gX5_findRest_L7 (a0 : Nat) (x1 : Int32) (k39 : Zh → Option (Int32 × Zh)) : (Int32 → Zh → Option (Int32 × Zh)) → Int32 → Zh → Option (Int32 × Zh) :=
  fun (k41 : Int32 → Zh → Option (Int32 × Zh)) (x40 : Int32) (h8 : Zh) => (if (x40 : Int32) ≤ 0 then k39 h8
  else zlt (zR h8 a0 6) (fun r42 => zlt (zR h8 a0 3) (fun r43 => Option.bind r43 (fun a44 => zg (zin x40 (zL h8 a44)) (zlt (zR h8 a0 6) (fun r45 => Option.bind r45 (fun a46 => zg (zin x40 (zL h8 a46)) (Option.bind r42 (fun a47 => zg (zin (x40 - 1) (zL h8 a47)) (zlt (zsJ h8 a47 (zx (x40 - 1)) ((zJ h8 a44 (zx x40)) + (((x1 : Int32).toInt64) * (zJ h8 a46 (zx x40))))) (fun (h9 : Zh) => k41 (x40 + (-1)) h9)))))))))))
def gX5_findRest (h : Zh) (a0 : Nat) (x1 : Int32) : Option (Int32 × Zh) :=
  zlt (zR h a0 6) (fun r21 => Option.bind r21 (fun a22 => zg (zin ((zI h a0 13) - 1) (zL h a22)) (zlt (zsJ h a22 (zx ((zI h a0 13) - 1)) 1) (fun (h1 : Zh) => zlt ((zI h1 a0 13) - 1) (fun x23 => zjn (gX5_findRest_J6 a0) (fun (k39 : Zh → Option (Int32 × Zh)) =>
  zlp (fun (_ : Int32) (_ : Zh) => (none : Option (Int32 × Zh))) (gX5_findRest_L7 a0 x1 k39) zFU x23 h1))))))
set_option maxRecDepth 20000 in
theorem cX5_findRest_ok (l : Launch) (h : Zh) (a0 : Nat) (x1 : Int32) : Zc l yX5_findRest mX5_findRest 0 h [(.ref a0, 5), (.int x1, 0)] ((gX5_findRest h a0 x1).map zoI) := by
  refine zc_of2 (ls := [some (.ref a0, 5), some (.int x1, 0), none, none, none, none]) (j := 4) (by decide +kernel) rfl rfl (zEn_ca (zEn_ci rfl)) (Nat.le_of_ble_eq_true rfl) rfl ?_
  unfold gX5_findRest
  refine zr_aload_n (r := (some a0)) (eX5_findRest 0 rfl) rfl rfl ?_
  refine zr_getR2 zf_RX5_31 (τ2 := 21) rfl (eX5_findRest 1 rfl) ?_
  refine v_letr (fun r21 => ?_)
  refine zr_aload_n (r := (some a0)) (eX5_findRest 2 rfl) rfl rfl ?_
  refine zr_getI zf_RX5_54 ⟨by decide, by decide⟩ (eX5_findRest 3 rfl) ?_
  refine zr_iconst (eX5_findRest 4 rfl) zk_iconst_1 ?_
  refine zr_isub (eX5_findRest 5 rfl) ?_
  refine zr_lconst (eX5_findRest 6 rfl) zk_lconst_1 ?_
  refine v_nn (fun a22 ea22 => ?_)
  subst ea22
  refine zr_last (eX5_findRest 7 rfl) ?_
  refine v_leth (fun h1 => ?_)
  refine zr_aload_n (r := (some a0)) (eX5_findRest 8 rfl) rfl rfl ?_
  refine zr_getI zf_RX5_54 ⟨by decide, by decide⟩ (eX5_findRest 9 rfl) ?_
  refine zr_iconst (eX5_findRest 10 rfl) zk_iconst_1 ?_
  refine zr_isub (eX5_findRest 11 rfl) ?_
  refine v_leti (fun x23 => ?_)
  refine zr_istore_n (ls2 := [some (.ref a0, 5), some (.int x1, 0), some (.int x23, 0), none, none, none]) (eX5_findRest 12 rfl) rfl (Nat.le_of_ble_eq_true rfl) rfl ?_
  refine v_jn (fun (k39 : Zh → Option (Int32 × Zh)) => ∀ (h2 : Zh), V l mX5_findRest (zN h) (zS h) 0 zoI 53 [some (.ref a0, 5), none, none, none, none, none] [] h2 (k39 h2)) ?_ ?_
  · intro h2
    unfold gX5_findRest_J6
    refine zr_lconst (eX5_findRest 35 rfl) zk_lconst_0 ?_
    refine zr_lstore_n (ls2 := [some (.ref a0, 5), none, some (.long 0, 0), none, none, none]) (eX5_findRest 36 rfl) rfl (Nat.le_of_ble_eq_true rfl) rfl ?_
    refine zr_iconst (eX5_findRest 37 rfl) zk_iconst_0 ?_
    refine zr_istore (ls2 := [some (.ref a0, 5), none, some (.long 0, 0), none, some (.int 0, 0), none]) (eX5_findRest 38 rfl) (Nat.le_of_ble_eq_true rfl) rfl ?_
    refine v_jn (fun (k27 : Int64 → Zh → Option (Int32 × Zh)) => ∀ (x24 : Int64) (h3 : Zh), V l mX5_findRest (zN h) (zS h) 0 zoI 115 [some (.ref a0, 5), none, some (.long x24, 0), none, none, none] [] h3 (k27 x24 h3)) ?_ ?_
    · intro x24 h3
      unfold gX5_findRest_J2
      refine zr_lload_n (eX5_findRest 67 rfl) rfl rfl ?_
      refine zr_lconst (eX5_findRest 68 rfl) zk_lconst_0 ?_
      refine zr_lcmp (eX5_findRest 69 rfl) ?_
      refine v_jn (fun (k25 : Zh → Option (Int32 × Zh)) => ∀ (h4 : Zh), V l mX5_findRest (zN h) (zS h) 0 zoI 133 [none, none, none, none, none, none] [] h4 (k25 h4)) ?_ ?_
      · intro h4
        unfold gX5_findRest_J1
        refine zr_iconst (eX5_findRest 77 rfl) zk_iconst_0 ?_
        exact zr_zret rfl (by decide) rfl (eX5_findRest 78 rfl)
      intro k25 hk25
      refine zr_if_eq (eX5_findRest 70 rfl) (t := 133) (by decide) ?_ ?_
      · exact v_drop [false, false, false, false, false, false] rfl (hk25 h3)
      · refine zr_aload_n (r := (some a0)) (eX5_findRest 71 rfl) rfl rfl ?_
        refine zr_lload_n (eX5_findRest 72 rfl) rfl rfl ?_
        refine zr_invV_I (as := [(.long x24, 0)]) (cX5_reduceShares_ok l h3 a0 x24) rfl rfl ⟨by decide, by decide, by decide⟩ zcd_X5_reduceShares rfl ⟨zw_502, zw_503, zw_504, zw_64⟩ ⟨Nat.le_of_ble_eq_true rfl, Nat.le_of_ble_eq_true rfl⟩ rfl (Nat.le_of_ble_eq_true rfl) (eX5_findRest 73 rfl) (fun x26 h5 => ?_)
        refine zr_if_eq (eX5_findRest 74 rfl) (t := 133) (by decide) ?_ ?_
        · exact v_drop [false, false, false, false, false, false] rfl (hk25 h5)
        · refine zr_iconst (eX5_findRest 75 rfl) zk_iconst_1 ?_
          refine zr_goto (eX5_findRest 76 rfl) (t := 134) (by decide) ?_
          exact zr_zret rfl (by decide) rfl (eX5_findRest 78 rfl)
    intro k27 hk27
    refine v_drop [true, false, true, false, true, false] rfl ?_
    refine zlp_ind (fun (k30 : Int64 → Int32 → Zh → Option (Int32 × Zh)) => ∀ (x28 : Int64) (x29 : Int32) (h6 : Zh), V l mX5_findRest (zN h) (zS h) 0 zoI 58 [some (.ref a0, 5), none, some (.long x28, 0), none, some (.int x29, 0), none] [] h6 (k30 x28 x29 h6)) ?_ ?_ 0 0 h2
    · exact fun _ _ _ => v_none
    intro k30 hk30 x28 x29 h6
    unfold gX5_findRest_L5
    refine zr_iload (eX5_findRest 39 rfl) rfl ?_
    refine zr_aload_n (r := (some a0)) (eX5_findRest 40 rfl) rfl rfl ?_
    refine zr_getI zf_RX5_54 ⟨by decide, by decide⟩ (eX5_findRest 41 rfl) ?_
    refine zr_icmp_ge (eX5_findRest 42 rfl) (t := 115) (by decide) ?_ ?_
    · exact v_drop [true, false, true, false, false, false] rfl (hk27 x28 h6)
    · refine zr_lload_n (eX5_findRest 43 rfl) rfl rfl ?_
      refine zr_lconst (eX5_findRest 44 rfl) zk_lconst_0 ?_
      refine zr_lcmp (eX5_findRest 45 rfl) ?_
      refine zr_if_ne (eX5_findRest 46 rfl) (t := 115) (by decide) ?_ ?_
      · exact v_drop [true, false, true, false, false, false] rfl (hk27 x28 h6)
      · refine zr_aload_n (r := (some a0)) (eX5_findRest 47 rfl) rfl rfl ?_
        refine zr_iload (eX5_findRest 48 rfl) rfl ?_
        refine zr_invV_V (as := [(.int x29, 0)]) (cX5_applyToUnit_ok l h6 a0 x29) rfl rfl ⟨by decide, by decide, by decide⟩ zcd_X5_applyToUnit rfl ⟨zw_492, zw_493, zw_494, zw_64⟩ ⟨Nat.le_of_ble_eq_true rfl, Nat.le_of_ble_eq_true rfl⟩ rfl (Nat.le_of_ble_eq_true rfl) (eX5_findRest 49 rfl) (fun h7 => ?_)
        refine zr_iconst (eX5_findRest 50 rfl) zk_iconst_0 ?_
        refine zr_istore (ls2 := [some (.ref a0, 5), none, some (.long x28, 0), none, some (.int x29, 0), some (.int 0, 0)]) (eX5_findRest 51 rfl) (Nat.le_of_ble_eq_true rfl) rfl ?_
        refine v_jn (fun (k32 : Int64 → Option (Int32 × Zh)) => ∀ (x31 : Int64), V l mX5_findRest (zN h) (zS h) 0 zoI 109 [some (.ref a0, 5), none, some (.long x31, 0), none, some (.int x29, 0), none] [] h7 (k32 x31)) ?_ ?_
        · intro x31
          unfold gX5_findRest_J3
          refine zr_iinc (ls2 := [some (.ref a0, 5), none, some (.long x31, 0), none, some (.int (x29 + 1), 0), none]) (eX5_findRest 65 rfl) rfl (Nat.le_of_ble_eq_true rfl) zk_iconst_1 rfl ?_
          refine zr_goto (eX5_findRest 66 rfl) (t := 58) (by decide) ?_
          exact v_drop [true, false, true, false, true, false] rfl (hk30 x31 (x29 + 1) h7)
        intro k32 hk32
        refine v_drop [true, false, true, false, true, true] rfl ?_
        refine zlp_ind (fun (k35 : Int64 → Int32 → Option (Int32 × Zh)) => ∀ (x33 : Int64) (x34 : Int32), V l mX5_findRest (zN h) (zS h) 0 zoI 82 [some (.ref a0, 5), none, some (.long x33, 0), none, some (.int x29, 0), some (.int x34, 0)] [] h7 (k35 x33 x34)) ?_ ?_ x28 0
        · exact fun _ _ => v_none
        intro k35 hk35 x33 x34
        unfold gX5_findRest_L4
        refine zr_iload (eX5_findRest 52 rfl) rfl ?_
        refine zr_aload_n (r := (some a0)) (eX5_findRest 53 rfl) rfl rfl ?_
        refine zr_getI zf_RX5_54 ⟨by decide, by decide⟩ (eX5_findRest 54 rfl) ?_
        refine zr_icmp_ge (eX5_findRest 55 rfl) (t := 109) (by decide) ?_ ?_
        · exact v_drop [true, false, true, false, true, false] rfl (hk32 x33)
        · refine zr_lload_n (eX5_findRest 56 rfl) rfl rfl ?_
          refine zr_aload_n (r := (some a0)) (eX5_findRest 57 rfl) rfl rfl ?_
          refine zr_getR2 zf_RX5_28 (τ2 := 21) rfl (eX5_findRest 58 rfl) ?_
          refine v_letr (fun r36 => ?_)
          refine zr_iload (eX5_findRest 59 rfl) rfl ?_
          refine v_nn (fun a37 ea37 => ?_)
          subst ea37
          refine zr_lald (eX5_findRest 60 rfl) ?_
          refine zr_invS_j (as := [(.long x33, 0), (.long (zJ h7 a37 (zx x34)), 0)]) (cX5_commonDivisor_ok l h7 x33 (zJ h7 a37 (zx x34))) rfl zcd_X5_commonDivisor ⟨zw_496, zw_497, zw_64⟩ ⟨Nat.le_of_ble_eq_true rfl, Nat.le_of_ble_eq_true rfl⟩ rfl (Nat.le_of_ble_eq_true rfl) (eX5_findRest 61 rfl) (fun x38 => ?_)
          refine zr_lstore_n (ls2 := [some (.ref a0, 5), none, some (.long x38, 0), none, some (.int x29, 0), some (.int x34, 0)]) (eX5_findRest 62 rfl) rfl (Nat.le_of_ble_eq_true rfl) rfl ?_
          refine zr_iinc (ls2 := [some (.ref a0, 5), none, some (.long x38, 0), none, some (.int x29, 0), some (.int (x34 + 1), 0)]) (eX5_findRest 63 rfl) rfl (Nat.le_of_ble_eq_true rfl) zk_iconst_1 rfl ?_
          refine zr_goto (eX5_findRest 64 rfl) (t := 82) (by decide) ?_
          exact v_drop [true, false, true, false, true, true] rfl (hk35 x38 (x34 + 1))
  intro k39 hk39
  refine v_drop [true, true, true, false, false, false] rfl ?_
  refine zlp_ind (fun (k41 : Int32 → Zh → Option (Int32 × Zh)) => ∀ (x40 : Int32) (h8 : Zh), V l mX5_findRest (zN h) (zS h) 0 zoI 19 [some (.ref a0, 5), some (.int x1, 0), some (.int x40, 0), none, none, none] [] h8 (k41 x40 h8)) ?_ ?_ x23 h1
  · exact fun _ _ => v_none
  intro k41 hk41 x40 h8
  unfold gX5_findRest_L7
  refine zr_iload_n (eX5_findRest 13 rfl) rfl rfl ?_
  refine zr_if_le (eX5_findRest 14 rfl) (t := 53) (by decide) ?_ ?_
  · exact v_drop [true, false, false, false, false, false] rfl (hk39 h8)
  · refine zr_aload_n (r := (some a0)) (eX5_findRest 15 rfl) rfl rfl ?_
    refine zr_getR2 zf_RX5_31 (τ2 := 21) rfl (eX5_findRest 16 rfl) ?_
    refine v_letr (fun r42 => ?_)
    refine zr_iload_n (eX5_findRest 17 rfl) rfl rfl ?_
    refine zr_iconst (eX5_findRest 18 rfl) zk_iconst_1 ?_
    refine zr_isub (eX5_findRest 19 rfl) ?_
    refine zr_aload_n (r := (some a0)) (eX5_findRest 20 rfl) rfl rfl ?_
    refine zr_getR2 zf_RX5_22 (τ2 := 21) rfl (eX5_findRest 21 rfl) ?_
    refine v_letr (fun r43 => ?_)
    refine zr_iload_n (eX5_findRest 22 rfl) rfl rfl ?_
    refine v_nn (fun a44 ea44 => ?_)
    subst ea44
    refine zr_lald (eX5_findRest 23 rfl) ?_
    refine zr_iload_n (eX5_findRest 24 rfl) rfl rfl ?_
    refine zr_i2l (eX5_findRest 25 rfl) ?_
    refine zr_aload_n (r := (some a0)) (eX5_findRest 26 rfl) rfl rfl ?_
    refine zr_getR2 zf_RX5_31 (τ2 := 21) rfl (eX5_findRest 27 rfl) ?_
    refine v_letr (fun r45 => ?_)
    refine zr_iload_n (eX5_findRest 28 rfl) rfl rfl ?_
    refine v_nn (fun a46 ea46 => ?_)
    subst ea46
    refine zr_lald (eX5_findRest 29 rfl) ?_
    refine zr_lmul (eX5_findRest 30 rfl) ?_
    refine zr_ladd (eX5_findRest 31 rfl) ?_
    refine v_nn (fun a47 ea47 => ?_)
    subst ea47
    refine zr_last (eX5_findRest 32 rfl) ?_
    refine v_leth (fun h9 => ?_)
    refine zr_iinc (ls2 := [some (.ref a0, 5), some (.int x1, 0), some (.int (x40 + (-1)), 0), none, none, none]) (eX5_findRest 33 rfl) rfl (Nat.le_of_ble_eq_true rfl) zk_iconst_m1 rfl ?_
    refine zr_goto (eX5_findRest 34 rfl) (t := 19) (by decide) ?_
    exact v_drop [true, true, true, false, false, false] rfl (hk41 (x40 + (-1)) h9)
def gX5_restsAt_J1 (a0 : Nat) : Zh → Option (Int32 × Zh) :=
  fun (h2 : Zh) => (zg (zbl (zI h2 a0 16)) (some ((zI h2 a0 16), h2)))
def gX5_restsAt_J2 (a0 : Nat) (k22 : Zh → Option (Int32 × Zh)) : Int32 → Zh → Option (Int32 × Zh) :=
  fun (x24 : Int32) (h6 : Zh) => zg (zbl x24) (zlt (zsI h6 a0 16 x24) (fun (h7 : Zh) => k22 h7))
def gX5_restsAt_J3 (k25 : Int32 → Zh → Option (Int32 × Zh)) : Zh → Option (Int32 × Zh) :=
  fun (h8 : Zh) => k25 0 h8
def gX5_restsAt_J4 (a0 : Nat) (x1 : Int32) (h1 : Zh) (k22 : Zh → Option (Int32 × Zh)) : Option (Int32 × Zh) :=
  zlt (zsI h1 a0 15 1) (fun (h3 : Zh) => zlt (zsI h3 a0 17 x1) (fun (h4 : Zh) => zbI (gX5_rootsAt h4 a0 x1) (fun x23 h5 => zjn (gX5_restsAt_J2 a0 k22) (fun (k25 : Int32 → Zh → Option (Int32 × Zh)) =>
  zjn (gX5_restsAt_J3 k25) (fun (k26 : Zh → Option (Int32 × Zh)) =>
  (if (x23 : Int32) = 1 then zbI (gX5_findRest h5 a0 x1) (fun x27 h9 => (if (x27 : Int32) = 0 then k26 h9
  else k25 1 h9))
  else k26 h5))))))
def gX5_restsAt (h : Zh) (a0 : Nat) (x1 : Int32) : Option (Int32 × Zh) :=
  zbI (gX5_solve h a0) (fun x21 h1 => (if (x21 : Int32) = 0 then (some (0, h1))
  else zjn (gX5_restsAt_J1 a0) (fun (k22 : Zh → Option (Int32 × Zh)) =>
  zjn (gX5_restsAt_J4 a0 x1 h1 k22) (fun (k28 : Option (Int32 × Zh)) =>
  (if ((zI h1 a0 15) : Int32) = 0 then k28
  else (if ((zI h1 a0 17) : Int32) = x1 then k22 h1
  else k28))))))
set_option maxRecDepth 20000 in
theorem cX5_restsAt_ok (l : Launch) (h : Zh) (a0 : Nat) (x1 : Int32) : Zc l yX5_restsAt mX5_restsAt 0 h [(.ref a0, 5), (.int x1, 0)] ((gX5_restsAt h a0 x1).map zoI) := by
  refine zc_of2 (ls := [some (.ref a0, 5), some (.int x1, 0)]) (j := 0) (by decide +kernel) rfl rfl (zEn_ca (zEn_ci rfl)) (Nat.le_of_ble_eq_true rfl) rfl ?_
  unfold gX5_restsAt
  refine zr_aload_n (r := (some a0)) (eX5_restsAt 0 rfl) rfl rfl ?_
  refine zr_invV_I (as := []) (cX5_solve_ok l h a0) rfl rfl ⟨by decide, by decide, by decide⟩ zcd_X5_solve rfl ⟨zw_487, zw_383, zw_384, zw_64⟩ ⟨Nat.le_of_ble_eq_true rfl, Nat.le_of_ble_eq_true rfl⟩ rfl (Nat.le_of_ble_eq_true rfl) (eX5_restsAt 1 rfl) (fun x21 h1 => ?_)
  refine zr_if_ne (eX5_restsAt 2 rfl) (t := 9) (by decide) ?_ ?_
  · refine zr_aload_n (r := (some a0)) (eX5_restsAt 5 rfl) rfl rfl ?_
    refine zr_getI zf_RX5_61 ⟨by decide, by decide⟩ (eX5_restsAt 6 rfl) ?_
    refine v_jn (fun (k22 : Zh → Option (Int32 × Zh)) => ∀ (h2 : Zh), V l mX5_restsAt (zN h) (zS h) 0 zoI 60 [some (.ref a0, 5), none] [] h2 (k22 h2)) ?_ ?_
    · intro h2
      unfold gX5_restsAt_J1
      refine zr_aload_n (r := (some a0)) (eX5_restsAt 32 rfl) rfl rfl ?_
      refine zr_getI zf_RX5_64 ⟨by decide, by decide⟩ (eX5_restsAt 33 rfl) ?_
      refine v_g (fun hb => ?_)
      exact zr_zret rfl (zbl_of hb) rfl (eX5_restsAt 34 rfl)
    intro k22 hk22
    refine v_jn (fun (k28 : Option (Int32 × Zh)) => V l mX5_restsAt (zN h) (zS h) 0 zoI 24 [some (.ref a0, 5), some (.int x1, 0)] [] h1 k28) ?_ ?_
    · skip
      unfold gX5_restsAt_J4
      refine zr_aload_n (r := (some a0)) (eX5_restsAt 12 rfl) rfl rfl ?_
      refine zr_iconst (eX5_restsAt 13 rfl) zk_iconst_1 ?_
      refine zr_putZ zf_RX5_61 rfl (by decide) (Or.inl rfl) (eX5_restsAt 14 rfl) ?_
      refine v_leth (fun h3 => ?_)
      refine zr_aload_n (r := (some a0)) (eX5_restsAt 15 rfl) rfl rfl ?_
      refine zr_iload_n (eX5_restsAt 16 rfl) rfl rfl ?_
      refine zr_putI zf_RX5_67 rfl (Or.inl rfl) (eX5_restsAt 17 rfl) ?_
      refine v_leth (fun h4 => ?_)
      refine zr_aload_n (r := (some a0)) (eX5_restsAt 18 rfl) rfl rfl ?_
      refine zr_aload_n (r := (some a0)) (eX5_restsAt 19 rfl) rfl rfl ?_
      refine zr_iload_n (eX5_restsAt 20 rfl) rfl rfl ?_
      refine zr_invV_I (as := [(.int x1, 0)]) (cX5_rootsAt_ok l h4 a0 x1) rfl rfl ⟨by decide, by decide, by decide⟩ zcd_X5_rootsAt rfl ⟨zw_448, zw_433, zw_434, zw_64⟩ ⟨Nat.le_of_ble_eq_true rfl, Nat.le_of_ble_eq_true rfl⟩ rfl (Nat.le_of_ble_eq_true rfl) (eX5_restsAt 21 rfl) (fun x23 h5 => ?_)
      refine zr_iconst (eX5_restsAt 22 rfl) zk_iconst_1 ?_
      refine v_jn (fun (k25 : Int32 → Zh → Option (Int32 × Zh)) => ∀ (x24 : Int32) (h6 : Zh), V l mX5_restsAt (zN h) (zS h) 0 zoI 57 [some (.ref a0, 5), none] [(.int x24, 0), (.ref a0, 5)] h6 (k25 x24 h6)) ?_ ?_
      · intro x24 h6
        unfold gX5_restsAt_J2
        refine v_g (fun hb => ?_)
        refine zr_putZ zf_RX5_64 rfl (zbl_of hb) (Or.inl rfl) (eX5_restsAt 31 rfl) ?_
        refine v_leth (fun h7 => ?_)
        exact v_drop [true, false] rfl (hk22 h7)
      intro k25 hk25
      refine v_jn (fun (k26 : Zh → Option (Int32 × Zh)) => ∀ (h8 : Zh), V l mX5_restsAt (zN h) (zS h) 0 zoI 56 [some (.ref a0, 5), none] [(.ref a0, 5)] h8 (k26 h8)) ?_ ?_
      · intro h8
        unfold gX5_restsAt_J3
        refine zr_iconst (eX5_restsAt 30 rfl) zk_iconst_0 ?_
        exact v_drop [true, false] rfl (hk25 0 h8)
      intro k26 hk26
      refine zr_icmp_ne (eX5_restsAt 23 rfl) (t := 56) (by decide) ?_ ?_
      · exact v_drop [true, false] rfl (hk26 h5)
      · refine zr_aload_n (r := (some a0)) (eX5_restsAt 24 rfl) rfl rfl ?_
        refine zr_iload_n (eX5_restsAt 25 rfl) rfl rfl ?_
        refine zr_invV_I (as := [(.int x1, 0)]) (cX5_findRest_ok l h5 a0 x1) rfl rfl ⟨by decide, by decide, by decide⟩ zcd_X5_findRest rfl ⟨zw_488, zw_489, zw_490, zw_64⟩ ⟨Nat.le_of_ble_eq_true rfl, Nat.le_of_ble_eq_true rfl⟩ rfl (Nat.le_of_ble_eq_true rfl) (eX5_restsAt 26 rfl) (fun x27 h9 => ?_)
        refine zr_if_eq (eX5_restsAt 27 rfl) (t := 56) (by decide) ?_ ?_
        · exact v_drop [true, false] rfl (hk26 h9)
        · refine zr_iconst (eX5_restsAt 28 rfl) zk_iconst_1 ?_
          refine zr_goto (eX5_restsAt 29 rfl) (t := 57) (by decide) ?_
          exact v_drop [true, false] rfl (hk25 1 h9)
    intro k28 hk28
    refine zr_if_eq (eX5_restsAt 7 rfl) (t := 24) (by decide) ?_ ?_
    · exact v_drop [true, true] rfl (hk28)
    · refine zr_aload_n (r := (some a0)) (eX5_restsAt 8 rfl) rfl rfl ?_
      refine zr_getI zf_RX5_67 ⟨by decide, by decide⟩ (eX5_restsAt 9 rfl) ?_
      refine zr_iload_n (eX5_restsAt 10 rfl) rfl rfl ?_
      refine zr_icmp_eq (eX5_restsAt 11 rfl) (t := 60) (by decide) ?_ ?_
      · exact v_drop [true, false] rfl (hk22 h1)
      · exact v_drop [true, true] rfl (hk28)
  · refine zr_iconst (eX5_restsAt 3 rfl) zk_iconst_0 ?_
    exact zr_zret rfl (by decide) rfl (eX5_restsAt 4 rfl)
def gX5_seenAt_J1 (x23 : Int64) : Int64 → Option (Int64) :=
  fun (x24 : Int64) => (if (x23 : Int64) = 0 then none else (some (x24 / x23)))
def gX5_seenAt_J2 (x3 : Int32) : Int64 → Int64 → Option (Int64) :=
  fun (x21 : Int64) (x22 : Int64) => zbj (gX5_commonDivisor x21 x22) (fun x23 => (if ((lg_cmp x23 0) : Int32) = 0 then (some (-9223372036854775808))
  else zjn (gX5_seenAt_J1 x23) (fun (k25 : Int64 → Option (Int64)) =>
  (if (x3 : Int32) = 0 then k25 x22
  else k25 x21))))
def gX5_seenAt_J3 (x29 : Int32) (k30 : Int64 → Int64 → Int32 → Option (Int64)) : Int64 → Int64 → Option (Int64) :=
  fun (x40 : Int64) (x41 : Int64) => k30 x40 x41 (x29 + 1)
def gX5_seenAt_J4 (h : Zh) (a0 : Nat) (x35 : Int64) (x43 : Int64) (x44 : Int64) (x45 : Int32) (x46 : Int32) (k47 : Int64 → Int64 → Int32 → Int32 → Option (Int64)) : Int64 → Option (Int64) :=
  fun (x49 : Int64) => zlt (x43 + x49) (fun x50 => zlt (x44 + x35) (fun x51 => zlt (zR h a0 10) (fun r52 => Option.bind r52 (fun a53 => zbi (gX0_turn h a53 x45) (fun x54 => k47 x50 x51 x54 (x46 + 1))))))
def gX5_seenAt_J5 (h : Zh) (a0 : Nat) (x35 : Int64) (x43 : Int64) (x44 : Int64) (x45 : Int32) (x46 : Int32) (k47 : Int64 → Int64 → Int32 → Int32 → Option (Int64)) : Int32 → Option (Int64) :=
  fun (x48 : Int32) => zjn (gX5_seenAt_J4 h a0 x35 x43 x44 x45 x46 k47) (fun (k55 : Int64 → Option (Int64)) =>
  (if (x48 : Int32) = 0 then k55 (-x35)
  else k55 x35))
def gX5_seenAt_L6 (h : Zh) (a0 : Nat) (x1 : Int32) (x2 : Int32) (x35 : Int64) (x39 : Int32) (k42 : Int64 → Int64 → Option (Int64)) : (Int64 → Int64 → Int32 → Int32 → Option (Int64)) → Int64 → Int64 → Int32 → Int32 → Option (Int64) :=
  fun (k47 : Int64 → Int64 → Int32 → Int32 → Option (Int64)) (x43 : Int64) (x44 : Int64) (x45 : Int32) (x46 : Int32) => (if (x39 : Int32) ≤ x46 then k42 x43 x44
  else zjn (gX5_seenAt_J5 h a0 x35 x43 x44 x45 x46 k47) (fun (k56 : Int32 → Option (Int64)) =>
  (if (((x45 >>> (x1 &&& 31)) &&& 1) : Int32) = ((x45 >>> (x2 &&& 31)) &&& 1) then k56 1
  else k56 0)))
def gX5_seenAt_L7 (h : Zh) (a0 : Nat) (x1 : Int32) (x2 : Int32) (k26 : Int64 → Int64 → Option (Int64)) : (Int64 → Int64 → Int32 → Option (Int64)) → Int64 → Int64 → Int32 → Option (Int64) :=
  fun (k30 : Int64 → Int64 → Int32 → Option (Int64)) (x27 : Int64) (x28 : Int64) (x29 : Int32) => (if ((zI h a0 13) : Int32) ≤ x29 then k26 x27 x28
  else zlt (zR h a0 5) (fun r31 => Option.bind r31 (fun a32 => zg (zin x29 (zL h a32)) (zlt (zR h a0 5) (fun r33 => Option.bind r33 (fun a34 => zg (zin x29 (zL h a34)) (zlt ((zJ h a32 (zx x29)) * (zJ h a34 (zx x29))) (fun x35 => zlt (zR h a0 0) (fun r36 => Option.bind r36 (fun a37 => zg (zin x29 (zL h a37)) (zlt (zI h a37 (zx x29)) (fun x38 => zbi (gX5_orbitLength h a0 x38) (fun x39 => zjn (gX5_seenAt_J3 x29 k30) (fun (k42 : Int64 → Int64 → Option (Int64)) =>
  zlp (fun (_ : Int64) (_ : Int64) (_ : Int32) (_ : Int32) => (none : Option (Int64))) (gX5_seenAt_L6 h a0 x1 x2 x35 x39 k42) zFU x27 x28 x38 0))))))))))))))
def gX5_seenAt (h : Zh) (a0 : Nat) (x1 : Int32) (x2 : Int32) (x3 : Int32) : Option (Int64) :=
  zjn (gX5_seenAt_J2 x3) (fun (k26 : Int64 → Int64 → Option (Int64)) =>
  zlp (fun (_ : Int64) (_ : Int64) (_ : Int32) => (none : Option (Int64))) (gX5_seenAt_L7 h a0 x1 x2 k26) zFU 0 0 0)
set_option maxRecDepth 20000 in
theorem cX5_seenAt_ok (l : Launch) (h : Zh) (a0 : Nat) (x1 : Int32) (x2 : Int32) (x3 : Int32) : Zc l yX5_seenAt mX5_seenAt 0 h [(.ref a0, 5), (.int x1, 0), (.int x2, 0), (.int x3, 0)] ((gX5_seenAt h a0 x1 x2 x3).map (zoj h)) := by
  refine zc_of2 (ls := [some (.ref a0, 5), some (.int x1, 0), some (.int x2, 0), some (.int x3, 0), none, none, none, none, none, none, none, none, none, none, none]) (j := 11) (by decide +kernel) rfl rfl (zEn_ca (zEn_ci (zEn_ci (zEn_ci rfl)))) (Nat.le_of_ble_eq_true rfl) rfl ?_
  unfold gX5_seenAt
  refine zr_lconst (eX5_seenAt 0 rfl) zk_lconst_0 ?_
  refine zr_lstore (ls2 := [some (.ref a0, 5), some (.int x1, 0), some (.int x2, 0), some (.int x3, 0), some (.long 0, 0), none, none, none, none, none, none, none, none, none, none]) (eX5_seenAt 1 rfl) (Nat.le_of_ble_eq_true rfl) rfl ?_
  refine zr_lconst (eX5_seenAt 2 rfl) zk_lconst_0 ?_
  refine zr_lstore (ls2 := [some (.ref a0, 5), some (.int x1, 0), some (.int x2, 0), some (.int x3, 0), some (.long 0, 0), none, some (.long 0, 0), none, none, none, none, none, none, none, none]) (eX5_seenAt 3 rfl) (Nat.le_of_ble_eq_true rfl) rfl ?_
  refine zr_iconst (eX5_seenAt 4 rfl) zk_iconst_0 ?_
  refine zr_istore (ls2 := [some (.ref a0, 5), some (.int x1, 0), some (.int x2, 0), some (.int x3, 0), some (.long 0, 0), none, some (.long 0, 0), none, some (.int 0, 0), none, none, none, none, none, none]) (eX5_seenAt 5 rfl) (Nat.le_of_ble_eq_true rfl) rfl ?_
  refine v_jn (fun (k26 : Int64 → Int64 → Option (Int64)) => ∀ (x21 : Int64) (x22 : Int64), V l mX5_seenAt (zN h) (zS h) 0 (zoj h) 132 [none, none, none, some (.int x3, 0), some (.long x21, 0), none, some (.long x22, 0), none, none, none, none, none, none, none, none] [] h (k26 x21 x22)) ?_ ?_
  · intro x21 x22
    unfold gX5_seenAt_J2
    refine zr_lload (eX5_seenAt 71 rfl) rfl ?_
    refine zr_lload (eX5_seenAt 72 rfl) rfl ?_
    refine zr_invS_j (as := [(.long x21, 0), (.long x22, 0)]) (cX5_commonDivisor_ok l h x21 x22) rfl zcd_X5_commonDivisor ⟨zw_496, zw_497, zw_64⟩ ⟨Nat.le_of_ble_eq_true rfl, Nat.le_of_ble_eq_true rfl⟩ rfl (Nat.le_of_ble_eq_true rfl) (eX5_seenAt 73 rfl) (fun x23 => ?_)
    refine zr_lstore (ls2 := [none, none, none, some (.int x3, 0), some (.long x21, 0), none, some (.long x22, 0), none, some (.long x23, 0), none, none, none, none, none, none]) (eX5_seenAt 74 rfl) (Nat.le_of_ble_eq_true rfl) rfl ?_
    refine zr_lload (eX5_seenAt 75 rfl) rfl ?_
    refine zr_lconst (eX5_seenAt 76 rfl) zk_lconst_0 ?_
    refine zr_lcmp (eX5_seenAt 77 rfl) ?_
    refine zr_if_ne (eX5_seenAt 78 rfl) (t := 152) (by decide) ?_ ?_
    · refine zr_iload_n (eX5_seenAt 81 rfl) rfl rfl ?_
      refine v_jn (fun (k25 : Int64 → Option (Int64)) => ∀ (x24 : Int64), V l mX5_seenAt (zN h) (zS h) 0 (zoj h) 163 [none, none, none, none, none, none, none, none, some (.long x23, 0), none, none, none, none, none, none] [(.long x24, 0)] h (k25 x24)) ?_ ?_
      · intro x24
        unfold gX5_seenAt_J1
        refine zr_lload (eX5_seenAt 86 rfl) rfl ?_
        refine zr_ldiv (eX5_seenAt 87 rfl) ?_
        exact zr_lret rfl rfl (eX5_seenAt 88 rfl)
      intro k25 hk25
      refine zr_if_eq (eX5_seenAt 82 rfl) (t := 161) (by decide) ?_ ?_
      · refine zr_lload (eX5_seenAt 85 rfl) rfl ?_
        exact v_drop [false, false, false, false, false, false, false, false, true, false, false, false, false, false, false] rfl (hk25 x22)
      · refine zr_lload (eX5_seenAt 83 rfl) rfl ?_
        refine zr_goto (eX5_seenAt 84 rfl) (t := 163) (by decide) ?_
        exact v_drop [false, false, false, false, false, false, false, false, true, false, false, false, false, false, false] rfl (hk25 x21)
    · refine zr_ldc2 (eX5_seenAt 79 rfl) zw_515 ?_
      exact zr_lret rfl rfl (eX5_seenAt 80 rfl)
  intro k26 hk26
  refine v_drop [true, true, true, true, true, false, true, false, true, false, false, false, false, false, false] rfl ?_
  refine zlp_ind (fun (k30 : Int64 → Int64 → Int32 → Option (Int64)) => ∀ (x27 : Int64) (x28 : Int64) (x29 : Int32), V l mX5_seenAt (zN h) (zS h) 0 (zoj h) 9 [some (.ref a0, 5), some (.int x1, 0), some (.int x2, 0), some (.int x3, 0), some (.long x27, 0), none, some (.long x28, 0), none, some (.int x29, 0), none, none, none, none, none, none] [] h (k30 x27 x28 x29)) ?_ ?_ 0 0 0
  · exact fun _ _ _ => v_none
  intro k30 hk30 x27 x28 x29
  unfold gX5_seenAt_L7
  refine zr_iload (eX5_seenAt 6 rfl) rfl ?_
  refine zr_aload_n (r := (some a0)) (eX5_seenAt 7 rfl) rfl rfl ?_
  refine zr_getI zf_RX5_54 ⟨by decide, by decide⟩ (eX5_seenAt 8 rfl) ?_
  refine zr_icmp_ge (eX5_seenAt 9 rfl) (t := 132) (by decide) ?_ ?_
  · exact v_drop [false, false, false, true, true, false, true, false, false, false, false, false, false, false, false] rfl (hk26 x27 x28)
  · refine zr_aload_n (r := (some a0)) (eX5_seenAt 10 rfl) rfl rfl ?_
    refine zr_getR2 zf_RX5_28 (τ2 := 21) rfl (eX5_seenAt 11 rfl) ?_
    refine v_letr (fun r31 => ?_)
    refine zr_iload (eX5_seenAt 12 rfl) rfl ?_
    refine v_nn (fun a32 ea32 => ?_)
    subst ea32
    refine zr_lald (eX5_seenAt 13 rfl) ?_
    refine zr_aload_n (r := (some a0)) (eX5_seenAt 14 rfl) rfl rfl ?_
    refine zr_getR2 zf_RX5_28 (τ2 := 21) rfl (eX5_seenAt 15 rfl) ?_
    refine v_letr (fun r33 => ?_)
    refine zr_iload (eX5_seenAt 16 rfl) rfl ?_
    refine v_nn (fun a34 ea34 => ?_)
    subst ea34
    refine zr_lald (eX5_seenAt 17 rfl) ?_
    refine zr_lmul (eX5_seenAt 18 rfl) ?_
    refine v_letj (fun x35 => ?_)
    refine zr_lstore (ls2 := [some (.ref a0, 5), some (.int x1, 0), some (.int x2, 0), some (.int x3, 0), some (.long x27, 0), none, some (.long x28, 0), none, some (.int x29, 0), some (.long x35, 0), none, none, none, none, none]) (eX5_seenAt 19 rfl) (Nat.le_of_ble_eq_true rfl) rfl ?_
    refine zr_aload_n (r := (some a0)) (eX5_seenAt 20 rfl) rfl rfl ?_
    refine zr_getR2 zf_RX5_9 (τ2 := 20) rfl (eX5_seenAt 21 rfl) ?_
    refine v_letr (fun r36 => ?_)
    refine zr_iload (eX5_seenAt 22 rfl) rfl ?_
    refine v_nn (fun a37 ea37 => ?_)
    subst ea37
    refine zr_iald (eX5_seenAt 23 rfl) ?_
    refine v_leti (fun x38 => ?_)
    refine zr_istore (ls2 := [some (.ref a0, 5), some (.int x1, 0), some (.int x2, 0), some (.int x3, 0), some (.long x27, 0), none, some (.long x28, 0), none, some (.int x29, 0), some (.long x35, 0), none, some (.int x38, 0), none, none, none]) (eX5_seenAt 24 rfl) (Nat.le_of_ble_eq_true rfl) rfl ?_
    refine zr_aload_n (r := (some a0)) (eX5_seenAt 25 rfl) rfl rfl ?_
    refine zr_iload (eX5_seenAt 26 rfl) rfl ?_
    refine zr_invV_i (as := [(.int x38, 0)]) (cX5_orbitLength_ok l h a0 x38) rfl rfl ⟨by decide, by decide, by decide⟩ zcd_X5_orbitLength rfl ⟨zw_365, zw_366, zw_367, zw_64⟩ ⟨Nat.le_of_ble_eq_true rfl, Nat.le_of_ble_eq_true rfl⟩ rfl (Nat.le_of_ble_eq_true rfl) (eX5_seenAt 27 rfl) (fun x39 => ?_)
    refine zr_istore (ls2 := [some (.ref a0, 5), some (.int x1, 0), some (.int x2, 0), some (.int x3, 0), some (.long x27, 0), none, some (.long x28, 0), none, some (.int x29, 0), some (.long x35, 0), none, some (.int x38, 0), some (.int x39, 0), none, none]) (eX5_seenAt 28 rfl) (Nat.le_of_ble_eq_true rfl) rfl ?_
    refine zr_iconst (eX5_seenAt 29 rfl) zk_iconst_0 ?_
    refine zr_istore (ls2 := [some (.ref a0, 5), some (.int x1, 0), some (.int x2, 0), some (.int x3, 0), some (.long x27, 0), none, some (.long x28, 0), none, some (.int x29, 0), some (.long x35, 0), none, some (.int x38, 0), some (.int x39, 0), some (.int 0, 0), none]) (eX5_seenAt 30 rfl) (Nat.le_of_ble_eq_true rfl) rfl ?_
    refine v_jn (fun (k42 : Int64 → Int64 → Option (Int64)) => ∀ (x40 : Int64) (x41 : Int64), V l mX5_seenAt (zN h) (zS h) 0 (zoj h) 126 [some (.ref a0, 5), some (.int x1, 0), some (.int x2, 0), some (.int x3, 0), some (.long x40, 0), none, some (.long x41, 0), none, some (.int x29, 0), none, none, none, none, none, none] [] h (k42 x40 x41)) ?_ ?_
    · intro x40 x41
      unfold gX5_seenAt_J3
      refine zr_iinc (ls2 := [some (.ref a0, 5), some (.int x1, 0), some (.int x2, 0), some (.int x3, 0), some (.long x40, 0), none, some (.long x41, 0), none, some (.int (x29 + 1), 0), none, none, none, none, none, none]) (eX5_seenAt 69 rfl) rfl (Nat.le_of_ble_eq_true rfl) zk_iconst_1 rfl ?_
      refine zr_goto (eX5_seenAt 70 rfl) (t := 9) (by decide) ?_
      exact v_drop [true, true, true, true, true, false, true, false, true, false, false, false, false, false, false] rfl (hk30 x40 x41 (x29 + 1))
    intro k42 hk42
    refine v_drop [true, true, true, true, true, false, true, false, true, true, false, true, true, true, false] rfl ?_
    refine zlp_ind (fun (k47 : Int64 → Int64 → Int32 → Int32 → Option (Int64)) => ∀ (x43 : Int64) (x44 : Int64) (x45 : Int32) (x46 : Int32), V l mX5_seenAt (zN h) (zS h) 0 (zoj h) 55 [some (.ref a0, 5), some (.int x1, 0), some (.int x2, 0), some (.int x3, 0), some (.long x43, 0), none, some (.long x44, 0), none, some (.int x29, 0), some (.long x35, 0), none, some (.int x45, 0), some (.int x39, 0), some (.int x46, 0), none] [] h (k47 x43 x44 x45 x46)) ?_ ?_ x27 x28 x38 0
    · exact fun _ _ _ _ => v_none
    intro k47 hk47 x43 x44 x45 x46
    unfold gX5_seenAt_L6
    refine zr_iload (eX5_seenAt 31 rfl) rfl ?_
    refine zr_iload (eX5_seenAt 32 rfl) rfl ?_
    refine zr_icmp_ge (eX5_seenAt 33 rfl) (t := 126) (by decide) ?_ ?_
    · exact v_drop [true, true, true, true, true, false, true, false, true, false, false, false, false, false, false] rfl (hk42 x43 x44)
    · refine zr_iload (eX5_seenAt 34 rfl) rfl ?_
      refine zr_iload_n (eX5_seenAt 35 rfl) rfl rfl ?_
      refine zr_ishr (eX5_seenAt 36 rfl) ?_
      refine zr_iconst (eX5_seenAt 37 rfl) zk_iconst_1 ?_
      refine zr_iand (eX5_seenAt 38 rfl) ?_
      refine zr_iload (eX5_seenAt 39 rfl) rfl ?_
      refine zr_iload_n (eX5_seenAt 40 rfl) rfl rfl ?_
      refine zr_ishr (eX5_seenAt 41 rfl) ?_
      refine zr_iconst (eX5_seenAt 42 rfl) zk_iconst_1 ?_
      refine zr_iand (eX5_seenAt 43 rfl) ?_
      refine v_jn (fun (k56 : Int32 → Option (Int64)) => ∀ (x48 : Int32), V l mX5_seenAt (zN h) (zS h) 0 (zoj h) 82 [some (.ref a0, 5), some (.int x1, 0), some (.int x2, 0), some (.int x3, 0), some (.long x43, 0), none, some (.long x44, 0), none, some (.int x29, 0), some (.long x35, 0), none, some (.int x45, 0), some (.int x39, 0), some (.int x46, 0), none] [(.int x48, 0)] h (k56 x48)) ?_ ?_
      · intro x48
        unfold gX5_seenAt_J5
        refine zr_istore (ls2 := [some (.ref a0, 5), some (.int x1, 0), some (.int x2, 0), some (.int x3, 0), some (.long x43, 0), none, some (.long x44, 0), none, some (.int x29, 0), some (.long x35, 0), none, some (.int x45, 0), some (.int x39, 0), some (.int x46, 0), some (.int x48, 0)]) (eX5_seenAt 48 rfl) (Nat.le_of_ble_eq_true rfl) rfl ?_
        refine zr_lload (eX5_seenAt 49 rfl) rfl ?_
        refine zr_iload (eX5_seenAt 50 rfl) rfl ?_
        refine v_jn (fun (k55 : Int64 → Option (Int64)) => ∀ (x49 : Int64), V l mX5_seenAt (zN h) (zS h) 0 (zoj h) 99 [some (.ref a0, 5), some (.int x1, 0), some (.int x2, 0), some (.int x3, 0), none, none, some (.long x44, 0), none, some (.int x29, 0), some (.long x35, 0), none, some (.int x45, 0), some (.int x39, 0), some (.int x46, 0), none] [(.long x49, 0), (.long x43, 0)] h (k55 x49)) ?_ ?_
        · intro x49
          unfold gX5_seenAt_J4
          refine zr_ladd (eX5_seenAt 56 rfl) ?_
          refine v_letj (fun x50 => ?_)
          refine zr_lstore (ls2 := [some (.ref a0, 5), some (.int x1, 0), some (.int x2, 0), some (.int x3, 0), some (.long x50, 0), none, some (.long x44, 0), none, some (.int x29, 0), some (.long x35, 0), none, some (.int x45, 0), some (.int x39, 0), some (.int x46, 0), none]) (eX5_seenAt 57 rfl) (Nat.le_of_ble_eq_true rfl) rfl ?_
          refine zr_lload (eX5_seenAt 58 rfl) rfl ?_
          refine zr_lload (eX5_seenAt 59 rfl) rfl ?_
          refine zr_ladd (eX5_seenAt 60 rfl) ?_
          refine v_letj (fun x51 => ?_)
          refine zr_lstore (ls2 := [some (.ref a0, 5), some (.int x1, 0), some (.int x2, 0), some (.int x3, 0), some (.long x50, 0), none, some (.long x51, 0), none, some (.int x29, 0), some (.long x35, 0), none, some (.int x45, 0), some (.int x39, 0), some (.int x46, 0), none]) (eX5_seenAt 61 rfl) (Nat.le_of_ble_eq_true rfl) rfl ?_
          refine zr_aload_n (r := (some a0)) (eX5_seenAt 62 rfl) rfl rfl ?_
          refine zr_getR2 zf_RX5_43 (τ2 := 0) rfl (eX5_seenAt 63 rfl) ?_
          refine v_letr (fun r52 => ?_)
          refine zr_iload (eX5_seenAt 64 rfl) rfl ?_
          refine v_nn (fun a53 ea53 => ?_)
          subst ea53
          refine zr_invV_i (as := [(.int x45, 0)]) (cX0_turn_ok l h a53 x45) rfl rfl ⟨by decide, by decide, by decide⟩ zcd_X0_turn rfl ⟨zw_369, zw_270, zw_271, zw_59⟩ ⟨Nat.le_of_ble_eq_true rfl, Nat.le_of_ble_eq_true rfl⟩ rfl (Nat.le_of_ble_eq_true rfl) (eX5_seenAt 65 rfl) (fun x54 => ?_)
          refine zr_istore (ls2 := [some (.ref a0, 5), some (.int x1, 0), some (.int x2, 0), some (.int x3, 0), some (.long x50, 0), none, some (.long x51, 0), none, some (.int x29, 0), some (.long x35, 0), none, some (.int x54, 0), some (.int x39, 0), some (.int x46, 0), none]) (eX5_seenAt 66 rfl) (Nat.le_of_ble_eq_true rfl) rfl ?_
          refine zr_iinc (ls2 := [some (.ref a0, 5), some (.int x1, 0), some (.int x2, 0), some (.int x3, 0), some (.long x50, 0), none, some (.long x51, 0), none, some (.int x29, 0), some (.long x35, 0), none, some (.int x54, 0), some (.int x39, 0), some (.int (x46 + 1), 0), none]) (eX5_seenAt 67 rfl) rfl (Nat.le_of_ble_eq_true rfl) zk_iconst_1 rfl ?_
          refine zr_goto (eX5_seenAt 68 rfl) (t := 55) (by decide) ?_
          exact v_drop [true, true, true, true, true, false, true, false, true, true, false, true, true, true, false] rfl (hk47 x50 x51 x54 (x46 + 1))
        intro k55 hk55
        refine zr_if_eq (eX5_seenAt 51 rfl) (t := 96) (by decide) ?_ ?_
        · refine zr_lload (eX5_seenAt 54 rfl) rfl ?_
          refine zr_lneg (eX5_seenAt 55 rfl) ?_
          exact v_drop [true, true, true, true, false, false, true, false, true, true, false, true, true, true, false] rfl (hk55 (-x35))
        · refine zr_lload (eX5_seenAt 52 rfl) rfl ?_
          refine zr_goto (eX5_seenAt 53 rfl) (t := 99) (by decide) ?_
          exact v_drop [true, true, true, true, false, false, true, false, true, true, false, true, true, true, false] rfl (hk55 x35)
      intro k56 hk56
      refine zr_icmp_ne (eX5_seenAt 44 rfl) (t := 81) (by decide) ?_ ?_
      · refine zr_iconst (eX5_seenAt 47 rfl) zk_iconst_0 ?_
        exact v_drop [true, true, true, true, true, false, true, false, true, true, false, true, true, true, false] rfl (hk56 0)
      · refine zr_iconst (eX5_seenAt 45 rfl) zk_iconst_1 ?_
        refine zr_goto (eX5_seenAt 46 rfl) (t := 82) (by decide) ?_
        exact v_drop [true, true, true, true, true, false, true, false, true, true, false, true, true, true, false] rfl (hk56 1)
def gX6_init (h : Zh) (a0 : Nat) (x1 : Int32) (r2 : Option Nat) : Option (Zh) :=
  zlt (zsI h a0 0 x1) (fun (h1 : Zh) => zlt (zsR h1 a0 1 r2) (fun (h2 : Zh) => some h2))
set_option maxRecDepth 20000 in
theorem cX6_init_ok (l : Launch) (h : Zh) (a0 : Nat) (x1 : Int32) (r2 : Option Nat) : Zc l yX6_init mX6_init 0 h [(.ref a0, 6), (.int x1, 0), (va_rf r2, 20)] ((gX6_init h a0 x1 r2).map zoV) := by
  refine zc_of2 (ls := [some (.ref a0, 6), some (.int x1, 0), some (va_rf r2, 20)]) (j := 0) (by decide +kernel) rfl rfl (zEn_ca (zEn_ci (zEn_cr rfl))) (Nat.le_of_ble_eq_true rfl) rfl ?_
  unfold gX6_init
  refine zr_aload_n (r := (some a0)) (eX6_init 0 rfl) rfl rfl ?_
  refine zr_objI ⟨zw_962, zw_80, zw_81⟩ ⟨Nat.le_of_ble_eq_true rfl, Nat.le_of_ble_eq_true rfl⟩ (Nat.le_of_ble_eq_true rfl) (eX6_init 1 rfl) ?_
  refine zr_aload_n (r := (some a0)) (eX6_init 2 rfl) rfl rfl ?_
  refine zr_iload_n (eX6_init 3 rfl) rfl rfl ?_
  refine zr_putI zf_RX6_7 rfl (Or.inr ⟨rfl, rfl⟩) (eX6_init 4 rfl) ?_
  refine v_leth (fun h1 => ?_)
  refine zr_aload_n (r := (some a0)) (eX6_init 5 rfl) rfl rfl ?_
  refine zr_aload_n (r := r2) (eX6_init 6 rfl) rfl rfl ?_
  refine zr_putR (x := r2) zf_RX6_13 (by decide) (fun _ h => h) (Or.inr ⟨rfl, rfl⟩) (eX6_init 7 rfl) ?_
  refine v_leth (fun h2 => ?_)
  exact zr_vret rfl rfl (eX6_init 8 rfl)
def gX6_cut (h : Zh) (a0 : Nat) (x1 : Int32) : Option (Int32) :=
  (if ((zI h a0 0) : Int32) = 0 then (some ((x1 : Int32).toInt8.toInt32))
  else (if ((zI h a0 0) : Int32) = 1 then (some ((x1 : Int32).toInt16.toInt32))
  else (some x1)))
set_option maxRecDepth 20000 in
theorem cX6_cut_ok (l : Launch) (h : Zh) (a0 : Nat) (x1 : Int32) : Zc l yX6_cut mX6_cut 0 h [(.ref a0, 6), (.int x1, 0)] ((gX6_cut h a0 x1).map (zoi h)) := by
  refine zc_of2 (ls := [some (.ref a0, 6), some (.int x1, 0)]) (j := 0) (by decide +kernel) rfl rfl (zEn_ca (zEn_ci rfl)) (Nat.le_of_ble_eq_true rfl) rfl ?_
  unfold gX6_cut
  refine zr_aload_n (r := (some a0)) (eX6_cut 0 rfl) rfl rfl ?_
  refine zr_getI zf_RX6_7 ⟨by decide, by decide⟩ (eX6_cut 1 rfl) ?_
  refine zr_if_ne (eX6_cut 2 rfl) (t := 10) (by decide) ?_ ?_
  · refine zr_aload_n (r := (some a0)) (eX6_cut 6 rfl) rfl rfl ?_
    refine zr_getI zf_RX6_7 ⟨by decide, by decide⟩ (eX6_cut 7 rfl) ?_
    refine zr_iconst (eX6_cut 8 rfl) zk_iconst_1 ?_
    refine zr_icmp_ne (eX6_cut 9 rfl) (t := 23) (by decide) ?_ ?_
    · refine zr_iload_n (eX6_cut 13 rfl) rfl rfl ?_
      exact zr_iret rfl rfl (eX6_cut 14 rfl)
    · refine zr_iload_n (eX6_cut 10 rfl) rfl rfl ?_
      refine zr_i2s (eX6_cut 11 rfl) ?_
      refine zr_goto (eX6_cut 12 rfl) (t := 24) (by decide) ?_
      exact zr_iret rfl rfl (eX6_cut 14 rfl)
  · refine zr_iload_n (eX6_cut 3 rfl) rfl rfl ?_
    refine zr_i2b (eX6_cut 4 rfl) ?_
    exact zr_iret rfl rfl (eX6_cut 5 rfl)
def gX6_has_J1 : Option (Int32) :=
  (some 0)
def gX6_has (h : Zh) (a0 : Nat) (x1 : Int32) (x2 : Int32) : Option (Int32) :=
  zjn gX6_has_J1 (fun (k21 : Option (Int32)) =>
  (if (x1 : Int32) < 0 then k21
  else (if (x2 : Int32) < 0 then k21
  else zlt (zR h a0 1) (fun r22 => Option.bind r22 (fun a23 => (if (((Int32.ofNat (zL h a23)) - x2) : Int32) < x1 then k21
  else (some 1)))))))
set_option maxRecDepth 20000 in
theorem cX6_has_ok (l : Launch) (h : Zh) (a0 : Nat) (x1 : Int32) (x2 : Int32) : Zc l yX6_has mX6_has 0 h [(.ref a0, 6), (.int x1, 0), (.int x2, 0)] ((gX6_has h a0 x1 x2).map (zoi h)) := by
  refine zc_of2 (ls := [some (.ref a0, 6), some (.int x1, 0), some (.int x2, 0)]) (j := 0) (by decide +kernel) rfl rfl (zEn_ca (zEn_ci (zEn_ci rfl))) (Nat.le_of_ble_eq_true rfl) rfl ?_
  unfold gX6_has
  refine zr_iload_n (eX6_has 0 rfl) rfl rfl ?_
  refine v_jn (fun (k21 : Option (Int32)) => V l mX6_has (zN h) (zS h) 0 (zoi h) 23 [none, none, none] [] h k21) ?_ ?_
  · skip
    unfold gX6_has_J1
    refine zr_iconst (eX6_has 13 rfl) zk_iconst_0 ?_
    exact zr_zret rfl (by decide) rfl (eX6_has 14 rfl)
  intro k21 hk21
  refine zr_if_lt (eX6_has 1 rfl) (t := 23) (by decide) ?_ ?_
  · exact v_drop [false, false, false] rfl (hk21)
  · refine zr_iload_n (eX6_has 2 rfl) rfl rfl ?_
    refine zr_if_lt (eX6_has 3 rfl) (t := 23) (by decide) ?_ ?_
    · exact v_drop [false, false, false] rfl (hk21)
    · refine zr_iload_n (eX6_has 4 rfl) rfl rfl ?_
      refine zr_aload_n (r := (some a0)) (eX6_has 5 rfl) rfl rfl ?_
      refine zr_getR2 zf_RX6_13 (τ2 := 20) rfl (eX6_has 6 rfl) ?_
      refine v_letr (fun r22 => ?_)
      refine v_nn (fun a23 ea23 => ?_)
      subst ea23
      refine zr_alen (by decide) (eX6_has 7 rfl) ?_
      refine zr_iload_n (eX6_has 8 rfl) rfl rfl ?_
      refine zr_isub (eX6_has 9 rfl) ?_
      refine zr_icmp_gt (eX6_has 10 rfl) (t := 23) (by decide) ?_ ?_
      · exact v_drop [false, false, false] rfl (hk21)
      · refine zr_iconst (eX6_has 11 rfl) zk_iconst_1 ?_
        refine zr_goto (eX6_has 12 rfl) (t := 24) (by decide) ?_
        exact zr_zret rfl (by decide) rfl (eX6_has 14 rfl)
def gX10_init (h : Zh) (a0 : Nat) (x1 : Int32) (x2 : Int32) (x3 : Int32) (x4 : Int32) : Option (Zh) :=
  zbV (gX4_init h a0 x1 x3 x2 x4) (fun h1 => some h1)
set_option maxRecDepth 20000 in
theorem cX10_init_ok (l : Launch) (h : Zh) (a0 : Nat) (x1 : Int32) (x2 : Int32) (x3 : Int32) (x4 : Int32) : Zc l yX10_init mX10_init 0 h [(.ref a0, 10), (.int x1, 0), (.int x2, 0), (.int x3, 0), (.int x4, 0)] ((gX10_init h a0 x1 x2 x3 x4).map zoV) := by
  refine zc_of2 (ls := [some (.ref a0, 10), some (.int x1, 0), some (.int x2, 0), some (.int x3, 0), some (.int x4, 0)]) (j := 0) (by decide +kernel) rfl rfl (zEn_ca (zEn_ci (zEn_ci (zEn_ci (zEn_ci rfl))))) (Nat.le_of_ble_eq_true rfl) rfl ?_
  unfold gX10_init
  refine zr_aload_n (r := (some a0)) (eX10_init 0 rfl) rfl rfl ?_
  refine zr_iload_n (eX10_init 1 rfl) rfl rfl ?_
  refine zr_iload_n (eX10_init 2 rfl) rfl rfl ?_
  refine zr_iload_n (eX10_init 3 rfl) rfl rfl ?_
  refine zr_iload (eX10_init 4 rfl) rfl ?_
  refine zr_cast2 [(.int x4, 0), (.int x2, 0), (.int x3, 0), (.int x1, 0), (.ref a0, 4)] rfl (fun t => (zTo_cons t.hd (zTo_cons t.tl.hd (zTo_cons t.tl.tl.hd (zTo_cons t.tl.tl.tl.hd (zTo_cons (zTok_s zSub_10_4 t.tl.tl.tl.tl.hd) t.tl.tl.tl.tl.tl)))))) ?_
  refine zr_invI_V (as := [(.int x1, 0), (.int x3, 0), (.int x2, 0), (.int x4, 0)]) (cX4_init_ok l h a0 x1 x3 x2 x4) rfl zcd_X4_init rfl rfl ⟨zw_556, zw_532, zw_68⟩ ⟨Nat.le_of_ble_eq_true rfl, Nat.le_of_ble_eq_true rfl⟩ rfl (Nat.le_of_ble_eq_true rfl) (eX10_init 5 rfl) (fun h1 => ?_)
  exact zr_vret rfl rfl (eX10_init 6 rfl)
def gX7_init (h : Zh) (a0 : Nat) (x1 : Int32) (x2 : Int32) (x3 : Int32) (x4 : Int32) : Option (Zh) :=
  zbV (gX10_init h a0 x1 x2 x3 (-x4)) (fun h1 => some h1)
set_option maxRecDepth 20000 in
theorem cX7_init_ok (l : Launch) (h : Zh) (a0 : Nat) (x1 : Int32) (x2 : Int32) (x3 : Int32) (x4 : Int32) : Zc l yX7_init mX7_init 0 h [(.ref a0, 7), (.int x1, 0), (.int x2, 0), (.int x3, 0), (.int x4, 0)] ((gX7_init h a0 x1 x2 x3 x4).map zoV) := by
  refine zc_of2 (ls := [some (.ref a0, 7), some (.int x1, 0), some (.int x2, 0), some (.int x3, 0), some (.int x4, 0)]) (j := 0) (by decide +kernel) rfl rfl (zEn_ca (zEn_ci (zEn_ci (zEn_ci (zEn_ci rfl))))) (Nat.le_of_ble_eq_true rfl) rfl ?_
  unfold gX7_init
  refine zr_aload_n (r := (some a0)) (eX7_init 0 rfl) rfl rfl ?_
  refine zr_iload_n (eX7_init 1 rfl) rfl rfl ?_
  refine zr_iload_n (eX7_init 2 rfl) rfl rfl ?_
  refine zr_iload_n (eX7_init 3 rfl) rfl rfl ?_
  refine zr_iload (eX7_init 4 rfl) rfl ?_
  refine zr_ineg (eX7_init 5 rfl) ?_
  refine zr_cast2 [(.int (-x4), 0), (.int x3, 0), (.int x2, 0), (.int x1, 0), (.ref a0, 10)] rfl (fun t => (zTo_cons t.hd (zTo_cons t.tl.hd (zTo_cons t.tl.tl.hd (zTo_cons t.tl.tl.tl.hd (zTo_cons (zTok_s zSub_7_10 t.tl.tl.tl.tl.hd) t.tl.tl.tl.tl.tl)))))) ?_
  refine zr_invI_V (as := [(.int x1, 0), (.int x2, 0), (.int x3, 0), (.int (-x4), 0)]) (cX10_init_ok l h a0 x1 x2 x3 (-x4)) rfl zcd_X10_init rfl rfl ⟨zw_567, zw_554, zw_69⟩ ⟨Nat.le_of_ble_eq_true rfl, Nat.le_of_ble_eq_true rfl⟩ rfl (Nat.le_of_ble_eq_true rfl) (eX7_init 6 rfl) (fun h1 => ?_)
  exact zr_vret rfl rfl (eX7_init 7 rfl)
def gX7_kind (a0 : Nat) : Option (Int32) :=
  (some 2)
set_option maxRecDepth 20000 in
theorem cX7_kind_ok (l : Launch) (h : Zh) (a0 : Nat) : Zc l yX7_kind mX7_kind 0 h [(.ref a0, 7)] ((gX7_kind a0).map (zoi h)) := by
  refine zc_of2 (ls := [some (.ref a0, 7)]) (j := 0) (by decide +kernel) rfl rfl (zEn_ca rfl) (Nat.le_of_ble_eq_true rfl) rfl ?_
  unfold gX7_kind
  refine zr_iconst (eX7_kind 0 rfl) zk_iconst_2 ?_
  exact zr_iret rfl rfl (eX7_kind 1 rfl)
def gX10_telling (h : Zh) (a0 : Nat) (r1 : Option Nat) : Option (Int32 × Zh) :=
  Option.bind r1 (fun a21 => zbV (gX9_leave h a21 2) (fun h1 => zbI (gX4_telling h1 a0 (some a21)) (fun x22 h2 => (some ((x22 + 100), h2)))))
set_option maxRecDepth 20000 in
theorem cX10_telling_ok (l : Launch) (h : Zh) (a0 : Nat) (r1 : Option Nat) : Zc l yX10_telling mX10_telling 0 h [(.ref a0, 10), (va_rf r1, 9)] ((gX10_telling h a0 r1).map zoI) := by
  refine zc_of2 (ls := [some (.ref a0, 10), some (va_rf r1, 9)]) (j := 0) (by decide +kernel) rfl rfl (zEn_ca (zEn_cr rfl)) (Nat.le_of_ble_eq_true rfl) rfl ?_
  unfold gX10_telling
  refine zr_aload_n (r := r1) (eX10_telling 0 rfl) rfl rfl ?_
  refine zr_iconst (eX10_telling 1 rfl) zk_iconst_2 ?_
  refine v_nn (fun a21 ea21 => ?_)
  subst ea21
  refine zr_invV_V (as := [(.int 2, 0)]) (cX9_leave_ok l h a21 2) rfl rfl ⟨by decide, by decide, by decide⟩ zcd_X9_leave rfl ⟨zw_1011, zw_1005, zw_1006, zw_61⟩ ⟨Nat.le_of_ble_eq_true rfl, Nat.le_of_ble_eq_true rfl⟩ rfl (Nat.le_of_ble_eq_true rfl) (eX10_telling 2 rfl) (fun h1 => ?_)
  refine zr_aload_n (r := (some a0)) (eX10_telling 3 rfl) rfl rfl ?_
  refine zr_aload_n (r := (some a21)) (eX10_telling 4 rfl) rfl rfl ?_
  refine zr_cast2 [(.ref a21, 9), (.ref a0, 4)] rfl (fun t => (zTo_cons t.hd (zTo_cons (zTok_s zSub_10_4 t.tl.hd) t.tl.tl))) ?_
  refine zr_invSU_I (as := [(.ref a21, 9)]) (by decide) (cX4_telling_ok l h1 a0 (some a21)) rfl zcd_X4_telling (by decide) ⟨zw_1012, zw_1000, zw_561, zw_998, zw_68⟩ ⟨Nat.le_of_ble_eq_true rfl, Nat.le_of_ble_eq_true rfl⟩ rfl (Nat.le_of_ble_eq_true rfl) (eX10_telling 5 rfl) (fun x22 h2 => ?_)
  refine zr_bipush (eX10_telling 6 rfl) zk_bipush_100 ?_
  refine zr_iadd (eX10_telling 7 rfl) ?_
  exact zr_iret rfl rfl (eX10_telling 8 rfl)
def gX7_telling_J1 (x22 : Int32) : Int32 → Zh → Option (Int32 × Zh) :=
  fun (x23 : Int32) (h3 : Zh) => (some ((x22 + x23), h3))
def gX7_telling (h : Zh) (a0 : Nat) (r1 : Option Nat) : Option (Int32 × Zh) :=
  Option.bind r1 (fun a21 => zbV (gX9_leave h a21 3) (fun h1 => zbI (gX10_telling h1 a0 (some a21)) (fun x22 h2 => zjn (gX7_telling_J1 x22) (fun (k24 : Int32 → Zh → Option (Int32 × Zh)) =>
  zdp h2 a0 none none (zbI (gX4_plainTelling h2 a0 (some a21)) (fun b hb => k24 b hb))))))
set_option maxRecDepth 20000 in
theorem cX7_telling_ok (l : Launch) (h : Zh) (a0 : Nat) (r1 : Option Nat) : Zc l yX7_telling mX7_telling 0 h [(.ref a0, 7), (va_rf r1, 9)] ((gX7_telling h a0 r1).map zoI) := by
  refine zc_of2 (ls := [some (.ref a0, 7), some (va_rf r1, 9), none]) (j := 1) (by decide +kernel) rfl rfl (zEn_ca (zEn_cr rfl)) (Nat.le_of_ble_eq_true rfl) rfl ?_
  unfold gX7_telling
  refine zr_aload_n (r := r1) (eX7_telling 0 rfl) rfl rfl ?_
  refine zr_iconst (eX7_telling 1 rfl) zk_iconst_3 ?_
  refine v_nn (fun a21 ea21 => ?_)
  subst ea21
  refine zr_invV_V (as := [(.int 3, 0)]) (cX9_leave_ok l h a21 3) rfl rfl ⟨by decide, by decide, by decide⟩ zcd_X9_leave rfl ⟨zw_1004, zw_1005, zw_1006, zw_61⟩ ⟨Nat.le_of_ble_eq_true rfl, Nat.le_of_ble_eq_true rfl⟩ rfl (Nat.le_of_ble_eq_true rfl) (eX7_telling 2 rfl) (fun h1 => ?_)
  refine zr_aload_n (r := (some a0)) (eX7_telling 3 rfl) rfl rfl ?_
  refine zr_aload_n (r := (some a21)) (eX7_telling 4 rfl) rfl rfl ?_
  refine zr_cast2 [(.ref a21, 9), (.ref a0, 10)] rfl (fun t => (zTo_cons t.hd (zTo_cons (zTok_s zSub_7_10 t.tl.hd) t.tl.tl))) ?_
  refine zr_invSU_I (as := [(.ref a21, 9)]) (by decide) (cX10_telling_ok l h1 a0 (some a21)) rfl zcd_X10_telling (by decide) ⟨zw_1008, zw_1605, zw_572, zw_1009, zw_69⟩ ⟨Nat.le_of_ble_eq_true rfl, Nat.le_of_ble_eq_true rfl⟩ rfl (Nat.le_of_ble_eq_true rfl) (eX7_telling 5 rfl) (fun x22 h2 => ?_)
  refine zr_istore_n (ls2 := [some (.ref a0, 7), some (.ref a21, 9), some (.int x22, 0)]) (eX7_telling 6 rfl) rfl (Nat.le_of_ble_eq_true rfl) rfl ?_
  refine zr_iload_n (eX7_telling 7 rfl) rfl rfl ?_
  refine zr_aload_n (r := (some a0)) (eX7_telling 8 rfl) rfl rfl ?_
  refine zr_aload_n (r := (some a21)) (eX7_telling 9 rfl) rfl rfl ?_
  refine v_jn (fun (k24 : Int32 → Zh → Option (Int32 × Zh)) => ∀ (x23 : Int32) (h3 : Zh), V l mX7_telling (zN h) (zS h) 0 zoI 17 [some (.ref a0, 7), some (.ref a21, 9), some (.int x22, 0)] [(.int x23, 0), (.int x22, 0)] h3 (k24 x23 h3)) ?_ ?_
  · intro x23 h3
    unfold gX7_telling_J1
    refine zr_iadd (eX7_telling 11 rfl) ?_
    exact zr_iret rfl rfl (eX7_telling 12 rfl)
  intro k24 hk24
  refine zr_dsp (fun qk => ?_) (fun qk => ?_) (fun qk => ?_)
  · exact v_none
  · exact v_none
  · refine zr_cast2 [(.ref a21, 9), (.ref a0, 4), (.int x22, 0)] rfl (fun t => (zTo_cons t.hd (zTo_cons (zTok_k qk (by decide) t.tl.hd) t.tl.tl))) ?_
    exact zr_invU_I (x := ⟨"MagnetRows$Signed", "plainTelling", "(LMagnetRows$Trail;)I"⟩) (owner := RX4) (n := 1) (as := [(.ref a21, 9)]) qk (cX4_plainTelling_ok l h2 a0 (some a21)) rfl rfl (by decide) zw_1018 ⟨by decide, by decide, by decide +kernel⟩ ⟨zw_1013, zw_1014, zw_1017, zw_1016, zw_1017, zw_68⟩ zw_1018 ⟨Nat.le_of_ble_eq_true rfl, Nat.le_of_ble_eq_true rfl⟩ rfl (Nat.le_of_ble_eq_true rfl) (eX7_telling 10 rfl) (fun b hb => hk24 b hb)
def gX7_naming (h : Zh) (a0 : Nat) (r1 : Option Nat) : Option (Int32 × Zh) :=
  Option.bind r1 (fun a21 => zbV (gX9_leave h a21 5) (fun h1 => (some (60, h1))))
set_option maxRecDepth 20000 in
theorem cX7_naming_ok (l : Launch) (h : Zh) (a0 : Nat) (r1 : Option Nat) : Zc l yX7_naming mX7_naming 0 h [(.ref a0, 7), (va_rf r1, 9)] ((gX7_naming h a0 r1).map zoI) := by
  refine zc_of2 (ls := [some (.ref a0, 7), some (va_rf r1, 9)]) (j := 0) (by decide +kernel) rfl rfl (zEn_ca (zEn_cr rfl)) (Nat.le_of_ble_eq_true rfl) rfl ?_
  unfold gX7_naming
  refine zr_aload_n (r := r1) (eX7_naming 0 rfl) rfl rfl ?_
  refine zr_iconst (eX7_naming 1 rfl) zk_iconst_5 ?_
  refine v_nn (fun a21 ea21 => ?_)
  subst ea21
  refine zr_invV_V (as := [(.int 5, 0)]) (cX9_leave_ok l h a21 5) rfl rfl ⟨by decide, by decide, by decide⟩ zcd_X9_leave rfl ⟨zw_1004, zw_1005, zw_1006, zw_61⟩ ⟨Nat.le_of_ble_eq_true rfl, Nat.le_of_ble_eq_true rfl⟩ rfl (Nat.le_of_ble_eq_true rfl) (eX7_naming 2 rfl) (fun h1 => ?_)
  refine zr_bipush (eX7_naming 3 rfl) zk_bipush_60 ?_
  exact zr_iret rfl rfl (eX7_naming 4 rfl)
