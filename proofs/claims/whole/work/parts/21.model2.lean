def gX12_entry_J1 (a0 : Nat) (x3 : Int32) (x4 : Int32) (h1 : Zh) : Int32 → Option (Int64 × Zh) :=
  fun (x22 : Int32) => (if (x22 : Int32) = 0 then zlt (zR h1 a0 10) (fun r23 => Option.bind r23 (fun a24 => zg (zin ((10 * x3) + x4) (zL h1 a24)) ((some ((zJ h1 a24 (zx ((10 * x3) + x4))), h1)))))
  else zbj (gX12_lost ) (fun x25 => (some (x25, h1))))
def gX12_entry_J2 (k26 : Int32 → Option (Int64 × Zh)) : Option (Int64 × Zh) :=
  k26 1
def gX12_entry (h : Zh) (a0 : Nat) (x1 : Int32) (x2 : Int32) (x3 : Int32) (x4 : Int32) : Option (Int64 × Zh) :=
  zbI (gX12_laySector h a0 x1 x2) (fun x21 h1 => zjn (gX12_entry_J1 a0 x3 x4 h1) (fun (k26 : Int32 → Option (Int64 × Zh)) =>
  zjn (gX12_entry_J2 k26) (fun (k27 : Option (Int64 × Zh)) =>
  (if (x21 : Int32) < 0 then k27
  else zbi (gX12_in ((x3 : Int32).toInt64) 0 ((((zI h1 a0 5) : Int32).toInt64) - 1)) (fun x28 => (if (x28 : Int32) = 0 then k27
  else zbi (gX12_in ((x4 : Int32).toInt64) 0 ((((zI h1 a0 5) : Int32).toInt64) - 1)) (fun x29 => (if (x29 : Int32) = 0 then k27
  else k26 0))))))))
set_option maxRecDepth 20000 in
theorem cX12_entry_ok (l : Launch) (h : Zh) (a0 : Nat) (x1 : Int32) (x2 : Int32) (x3 : Int32) (x4 : Int32) : Zc l yX12_entry mX12_entry 0 h [(.ref a0, 12), (.int x1, 0), (.int x2, 0), (.int x3, 0), (.int x4, 0)] ((gX12_entry h a0 x1 x2 x3 x4).map zoJ) := by
  refine zc_of2 (ls := [some (.ref a0, 12), some (.int x1, 0), some (.int x2, 0), some (.int x3, 0), some (.int x4, 0), none]) (j := 1) (by decide +kernel) rfl rfl (zEn_ca (zEn_ci (zEn_ci (zEn_ci (zEn_ci rfl))))) (Nat.le_of_ble_eq_true rfl) rfl ?_
  unfold gX12_entry
  refine zr_aload_n (r := (some a0)) (eX12_entry 0 rfl) rfl rfl ?_
  refine zr_iload_n (eX12_entry 1 rfl) rfl rfl ?_
  refine zr_iload_n (eX12_entry 2 rfl) rfl rfl ?_
  refine zr_invV_I (as := [(.int x1, 0), (.int x2, 0)]) (cX12_laySector_ok l h a0 x1 x2) rfl rfl ⟨by decide, by decide, by decide⟩ zcd_X12_laySector rfl ⟨zw_1274, zw_1276, zw_20, zw_62⟩ ⟨Nat.le_of_ble_eq_true rfl, Nat.le_of_ble_eq_true rfl⟩ rfl (Nat.le_of_ble_eq_true rfl) (eX12_entry 3 rfl) (fun x21 h1 => ?_)
  refine v_jn (fun (k26 : Int32 → Option (Int64 × Zh)) => ∀ (x22 : Int32), V l mX12_entry (zN h) (zS h) 0 zoJ 47 [some (.ref a0, 12), none, none, some (.int x3, 0), some (.int x4, 0), none] [(.int x22, 0)] h1 (k26 x22)) ?_ ?_
  · intro x22
    unfold gX12_entry_J1
    refine zr_istore (ls2 := [some (.ref a0, 12), none, none, some (.int x3, 0), some (.int x4, 0), some (.int x22, 0)]) (eX12_entry 28 rfl) (Nat.le_of_ble_eq_true rfl) rfl ?_
    refine zr_iload (eX12_entry 29 rfl) rfl ?_
    refine zr_if_eq (eX12_entry 30 rfl) (t := 60) (by decide) ?_ ?_
    · refine zr_aload_n (r := (some a0)) (eX12_entry 33 rfl) rfl rfl ?_
      refine zr_getR2 zf_RX12_22 (τ2 := 21) rfl (eX12_entry 34 rfl) ?_
      refine v_letr (fun r23 => ?_)
      refine zr_bipush (eX12_entry 35 rfl) zk_bipush_10 ?_
      refine zr_iload_n (eX12_entry 36 rfl) rfl rfl ?_
      refine zr_imul (eX12_entry 37 rfl) ?_
      refine zr_iload (eX12_entry 38 rfl) rfl ?_
      refine zr_iadd (eX12_entry 39 rfl) ?_
      refine v_nn (fun a24 ea24 => ?_)
      subst ea24
      refine zr_lald (eX12_entry 40 rfl) ?_
      exact zr_lret rfl rfl (eX12_entry 41 rfl)
    · refine zr_invS_j (as := []) (cX12_lost_ok l h1 ) rfl zcd_X12_lost ⟨zw_1224, zw_1225, zw_62⟩ ⟨Nat.le_of_ble_eq_true rfl, Nat.le_of_ble_eq_true rfl⟩ rfl (Nat.le_of_ble_eq_true rfl) (eX12_entry 31 rfl) (fun x25 => ?_)
      refine zr_goto (eX12_entry 32 rfl) (t := 72) (by decide) ?_
      exact zr_lret rfl rfl (eX12_entry 41 rfl)
  intro k26 hk26
  refine v_jn (fun (k27 : Option (Int64 × Zh)) => V l mX12_entry (zN h) (zS h) 0 zoJ 42 [some (.ref a0, 12), none, none, some (.int x3, 0), some (.int x4, 0), none] [] h1 k27) ?_ ?_
  · skip
    unfold gX12_entry_J2
    refine zr_iconst (eX12_entry 25 rfl) zk_iconst_1 ?_
    refine zr_goto (eX12_entry 26 rfl) (t := 47) (by decide) ?_
    exact v_drop [true, false, false, true, true, false] rfl (hk26 1)
  intro k27 hk27
  refine zr_if_lt (eX12_entry 4 rfl) (t := 42) (by decide) ?_ ?_
  · exact v_drop [true, false, false, true, true, false] rfl (hk27)
  · refine zr_iload_n (eX12_entry 5 rfl) rfl rfl ?_
    refine zr_i2l (eX12_entry 6 rfl) ?_
    refine zr_lconst (eX12_entry 7 rfl) zk_lconst_0 ?_
    refine zr_aload_n (r := (some a0)) (eX12_entry 8 rfl) rfl rfl ?_
    refine zr_getI zf_RX12_183 ⟨by decide, by decide⟩ (eX12_entry 9 rfl) ?_
    refine zr_i2l (eX12_entry 10 rfl) ?_
    refine zr_lconst (eX12_entry 11 rfl) zk_lconst_1 ?_
    refine zr_lsub (eX12_entry 12 rfl) ?_
    refine zr_invS_i (as := [(.long ((x3 : Int32).toInt64), 0), (.long 0, 0), (.long ((((zI h1 a0 5) : Int32).toInt64) - 1), 0)]) (cX12_in_ok l h1 ((x3 : Int32).toInt64) 0 ((((zI h1 a0 5) : Int32).toInt64) - 1)) rfl zcd_X12_in ⟨zw_1203, zw_1204, zw_62⟩ ⟨Nat.le_of_ble_eq_true rfl, Nat.le_of_ble_eq_true rfl⟩ rfl (Nat.le_of_ble_eq_true rfl) (eX12_entry 13 rfl) (fun x28 => ?_)
    refine zr_if_eq (eX12_entry 14 rfl) (t := 42) (by decide) ?_ ?_
    · exact v_drop [true, false, false, true, true, false] rfl (hk27)
    · refine zr_iload (eX12_entry 15 rfl) rfl ?_
      refine zr_i2l (eX12_entry 16 rfl) ?_
      refine zr_lconst (eX12_entry 17 rfl) zk_lconst_0 ?_
      refine zr_aload_n (r := (some a0)) (eX12_entry 18 rfl) rfl rfl ?_
      refine zr_getI zf_RX12_183 ⟨by decide, by decide⟩ (eX12_entry 19 rfl) ?_
      refine zr_i2l (eX12_entry 20 rfl) ?_
      refine zr_lconst (eX12_entry 21 rfl) zk_lconst_1 ?_
      refine zr_lsub (eX12_entry 22 rfl) ?_
      refine zr_invS_i (as := [(.long ((x4 : Int32).toInt64), 0), (.long 0, 0), (.long ((((zI h1 a0 5) : Int32).toInt64) - 1), 0)]) (cX12_in_ok l h1 ((x4 : Int32).toInt64) 0 ((((zI h1 a0 5) : Int32).toInt64) - 1)) rfl zcd_X12_in ⟨zw_1203, zw_1204, zw_62⟩ ⟨Nat.le_of_ble_eq_true rfl, Nat.le_of_ble_eq_true rfl⟩ rfl (Nat.le_of_ble_eq_true rfl) (eX12_entry 23 rfl) (fun x29 => ?_)
      refine zr_if_ne (eX12_entry 24 rfl) (t := 46) (by decide) ?_ ?_
      · refine zr_iconst (eX12_entry 27 rfl) zk_iconst_0 ?_
        exact v_drop [true, false, false, true, true, false] rfl (hk26 0)
      · exact v_drop [true, false, false, true, true, false] rfl (hk27)
def gX12_poly_J1 (h1 : Zh) : Option (Int64 × Zh) :=
  zbj (gX12_lost ) (fun x22 => (some (x22, h1)))
def gX12_poly (h : Zh) (a0 : Nat) (x1 : Int32) (x2 : Int32) (x3 : Int32) : Option (Int64 × Zh) :=
  zbI (gX12_laySector h a0 x1 x2) (fun x21 h1 => zjn (gX12_poly_J1 h1) (fun (k23 : Option (Int64 × Zh)) =>
  (if (x21 : Int32) < 0 then k23
  else zbi (gX12_in ((x3 : Int32).toInt64) 0 (((zI h1 a0 5) : Int32).toInt64)) (fun x24 => (if (x24 : Int32) = 0 then k23
  else zbV (gX12_layPolynomial h1 a0) (fun h2 => zlt (zR h2 a0 11) (fun r25 => Option.bind r25 (fun a26 => zg (zin x3 (zL h2 a26)) ((some ((zJ h2 a26 (zx x3)), h2)))))))))))
set_option maxRecDepth 20000 in
theorem cX12_poly_ok (l : Launch) (h : Zh) (a0 : Nat) (x1 : Int32) (x2 : Int32) (x3 : Int32) : Zc l yX12_poly mX12_poly 0 h [(.ref a0, 12), (.int x1, 0), (.int x2, 0), (.int x3, 0)] ((gX12_poly h a0 x1 x2 x3).map zoJ) := by
  refine zc_of2 (ls := [some (.ref a0, 12), some (.int x1, 0), some (.int x2, 0), some (.int x3, 0)]) (j := 0) (by decide +kernel) rfl rfl (zEn_ca (zEn_ci (zEn_ci (zEn_ci rfl)))) (Nat.le_of_ble_eq_true rfl) rfl ?_
  unfold gX12_poly
  refine zr_aload_n (r := (some a0)) (eX12_poly 0 rfl) rfl rfl ?_
  refine zr_iload_n (eX12_poly 1 rfl) rfl rfl ?_
  refine zr_iload_n (eX12_poly 2 rfl) rfl rfl ?_
  refine zr_invV_I (as := [(.int x1, 0), (.int x2, 0)]) (cX12_laySector_ok l h a0 x1 x2) rfl rfl ⟨by decide, by decide, by decide⟩ zcd_X12_laySector rfl ⟨zw_1274, zw_1276, zw_20, zw_62⟩ ⟨Nat.le_of_ble_eq_true rfl, Nat.le_of_ble_eq_true rfl⟩ rfl (Nat.le_of_ble_eq_true rfl) (eX12_poly 3 rfl) (fun x21 h1 => ?_)
  refine v_jn (fun (k23 : Option (Int64 × Zh)) => V l mX12_poly (zN h) (zS h) 0 zoJ 23 [none, none, none, none] [] h1 k23) ?_ ?_
  · skip
    unfold gX12_poly_J1
    refine zr_invS_j (as := []) (cX12_lost_ok l h1 ) rfl zcd_X12_lost ⟨zw_1224, zw_1225, zw_62⟩ ⟨Nat.le_of_ble_eq_true rfl, Nat.le_of_ble_eq_true rfl⟩ rfl (Nat.le_of_ble_eq_true rfl) (eX12_poly 13 rfl) (fun x22 => ?_)
    exact zr_lret rfl rfl (eX12_poly 14 rfl)
  intro k23 hk23
  refine zr_if_lt (eX12_poly 4 rfl) (t := 23) (by decide) ?_ ?_
  · exact v_drop [false, false, false, false] rfl (hk23)
  · refine zr_iload_n (eX12_poly 5 rfl) rfl rfl ?_
    refine zr_i2l (eX12_poly 6 rfl) ?_
    refine zr_lconst (eX12_poly 7 rfl) zk_lconst_0 ?_
    refine zr_aload_n (r := (some a0)) (eX12_poly 8 rfl) rfl rfl ?_
    refine zr_getI zf_RX12_183 ⟨by decide, by decide⟩ (eX12_poly 9 rfl) ?_
    refine zr_i2l (eX12_poly 10 rfl) ?_
    refine zr_invS_i (as := [(.long ((x3 : Int32).toInt64), 0), (.long 0, 0), (.long (((zI h1 a0 5) : Int32).toInt64), 0)]) (cX12_in_ok l h1 ((x3 : Int32).toInt64) 0 (((zI h1 a0 5) : Int32).toInt64)) rfl zcd_X12_in ⟨zw_1203, zw_1204, zw_62⟩ ⟨Nat.le_of_ble_eq_true rfl, Nat.le_of_ble_eq_true rfl⟩ rfl (Nat.le_of_ble_eq_true rfl) (eX12_poly 11 rfl) (fun x24 => ?_)
    refine zr_if_ne (eX12_poly 12 rfl) (t := 27) (by decide) ?_ ?_
    · refine zr_aload_n (r := (some a0)) (eX12_poly 15 rfl) rfl rfl ?_
      refine zr_invV_V (as := []) (cX12_layPolynomial_ok l h1 a0) rfl rfl ⟨by decide, by decide, by decide⟩ zcd_X12_layPolynomial rfl ⟨zw_1286, zw_1288, zw_22, zw_62⟩ ⟨Nat.le_of_ble_eq_true rfl, Nat.le_of_ble_eq_true rfl⟩ rfl (Nat.le_of_ble_eq_true rfl) (eX12_poly 16 rfl) (fun h2 => ?_)
      refine zr_aload_n (r := (some a0)) (eX12_poly 17 rfl) rfl rfl ?_
      refine zr_getR2 zf_RX12_26 (τ2 := 21) rfl (eX12_poly 18 rfl) ?_
      refine v_letr (fun r25 => ?_)
      refine zr_iload_n (eX12_poly 19 rfl) rfl rfl ?_
      refine v_nn (fun a26 ea26 => ?_)
      subst ea26
      refine zr_lald (eX12_poly 20 rfl) ?_
      exact zr_lret rfl rfl (eX12_poly 21 rfl)
    · exact v_drop [false, false, false, false] rfl (hk23)
def gX12_shiftTo_J1 (x22 : Int32) (k23 : Int32 → Zh → Option (Zh)) : Zh → Option (Zh) :=
  fun (h4 : Zh) => k23 (x22 + 1) h4
def gX12_shiftTo_L2 (a0 : Nat) (x1 : Int32) (x22 : Int32) (k25 : Zh → Option (Zh)) : (Int32 → Zh → Option (Zh)) → Int32 → Zh → Option (Zh) :=
  fun (k27 : Int32 → Zh → Option (Zh)) (x26 : Int32) (h5 : Zh) => (if (x26 : Int32) < x22 then k25 h5
  else zlt (zR h5 a0 15) (fun r28 => Option.bind r28 (fun a29 => zg (zin x26 (zL h5 a29)) (zlt (zR h5 a0 15) (fun r30 => Option.bind r30 (fun a31 => zg (zin (x26 + 1) (zL h5 a31)) (zlt ((zJ h5 a29 (zx x26)) + (((x1 : Int32).toInt64) * (zJ h5 a31 (zx (x26 + 1))))) (fun x32 => (if (1099511627776 : Int64) = 0 then none else (if (1099511627776 : Int64) = 0 then none else zlt (((x32 - x32 / 1099511627776 * 1099511627776) + 1099511627776) - ((x32 - x32 / 1099511627776 * 1099511627776) + 1099511627776) / 1099511627776 * 1099511627776) (fun x33 => zlt (zR h5 a0 14) (fun r34 => Option.bind r34 (fun a35 => zg (zin x26 (zL h5 a35)) (zlt (zR h5 a0 14) (fun r36 => Option.bind r36 (fun a37 => zg (zin (x26 + 1) (zL h5 a37)) ((if (1099511627776 : Int64) = 0 then none else zg (zin x26 (zL h5 a35)) (zlt (zsJ h5 a35 (zx x26) ((zJ h5 a35 (zx x26)) + ((((x1 : Int32).toInt64) * (zJ h5 a37 (zx (x26 + 1)))) + ((x32 - x33) / 1099511627776)))) (fun (h6 : Zh) => zlt (zR h6 a0 15) (fun r38 => Option.bind r38 (fun a39 => zg (zin x26 (zL h6 a39)) (zlt (zsJ h6 a39 (zx x26) x33) (fun (h7 : Zh) => k27 (x26 + (-1)) h7))))))))))))))))))))))))
def gX12_shiftTo_L3 (a0 : Nat) (x1 : Int32) (x21 : Int32) : (Int32 → Zh → Option (Zh)) → Int32 → Zh → Option (Zh) :=
  fun (k23 : Int32 → Zh → Option (Zh)) (x22 : Int32) (h3 : Zh) => (if (x21 : Int32) ≤ x22 then some h3
  else zlt (x21 - 1) (fun x24 => zjn (gX12_shiftTo_J1 x22 k23) (fun (k25 : Zh → Option (Zh)) =>
  zlp (fun (_ : Int32) (_ : Zh) => (none : Option (Zh))) (gX12_shiftTo_L2 a0 x1 x22 k25) zFU x24 h3)))
def gX12_shiftTo_J4 (a0 : Nat) (x1 : Int32) (x21 : Int32) : Zh → Option (Zh) :=
  fun (h2 : Zh) => zlp (fun (_ : Int32) (_ : Zh) => (none : Option (Zh))) (gX12_shiftTo_L3 a0 x1 x21) zFU 0 h2
def gX12_shiftTo_L5 (a0 : Nat) (x21 : Int32) (k40 : Zh → Option (Zh)) : (Int32 → Zh → Option (Zh)) → Int32 → Zh → Option (Zh) :=
  fun (k42 : Int32 → Zh → Option (Zh)) (x41 : Int32) (h8 : Zh) => (if (x21 : Int32) < x41 then k40 h8
  else zlt (zR h8 a0 15) (fun r43 => zlt (zR h8 a0 11) (fun r44 => Option.bind r44 (fun a45 => zg (zin x41 (zL h8 a45)) ((if (1099511627776 : Int64) = 0 then none else (if (1099511627776 : Int64) = 0 then none else Option.bind r43 (fun a46 => zg (zin x41 (zL h8 a46)) (zlt (zsJ h8 a46 (zx x41) ((((zJ h8 a45 (zx x41)) - (zJ h8 a45 (zx x41)) / 1099511627776 * 1099511627776) + 1099511627776) - (((zJ h8 a45 (zx x41)) - (zJ h8 a45 (zx x41)) / 1099511627776 * 1099511627776) + 1099511627776) / 1099511627776 * 1099511627776)) (fun (h9 : Zh) => zlt (zR h9 a0 14) (fun r47 => zlt (zR h9 a0 11) (fun r48 => Option.bind r48 (fun a49 => zg (zin x41 (zL h9 a49)) (zlt (zR h9 a0 15) (fun r50 => Option.bind r50 (fun a51 => zg (zin x41 (zL h9 a51)) ((if (1099511627776 : Int64) = 0 then none else Option.bind r47 (fun a52 => zg (zin x41 (zL h9 a52)) (zlt (zsJ h9 a52 (zx x41) (((zJ h9 a49 (zx x41)) - (zJ h9 a51 (zx x41))) / 1099511627776)) (fun (h10 : Zh) => k42 (x41 + 1) h10)))))))))))))))))))))
def gX12_shiftTo (h : Zh) (a0 : Nat) (x1 : Int32) : Option (Zh) :=
  zbV (gX12_layPolynomial h a0) (fun h1 => zlt (zI h1 a0 5) (fun x21 => zjn (gX12_shiftTo_J4 a0 x1 x21) (fun (k40 : Zh → Option (Zh)) =>
  zlp (fun (_ : Int32) (_ : Zh) => (none : Option (Zh))) (gX12_shiftTo_L5 a0 x21 k40) zFU 0 h1)))
set_option maxRecDepth 20000 in
theorem cX12_shiftTo_ok (l : Launch) (h : Zh) (a0 : Nat) (x1 : Int32) : Zc l yX12_shiftTo mX12_shiftTo 0 h [(.ref a0, 12), (.int x1, 0)] ((gX12_shiftTo h a0 x1).map zoV) := by
  refine zc_of2 (ls := [some (.ref a0, 12), some (.int x1, 0), none, none, none, none, none, none, none]) (j := 7) (by decide +kernel) rfl rfl (zEn_ca (zEn_ci rfl)) (Nat.le_of_ble_eq_true rfl) rfl ?_
  unfold gX12_shiftTo
  refine zr_aload_n (r := (some a0)) (eX12_shiftTo 0 rfl) rfl rfl ?_
  refine zr_invV_V (as := []) (cX12_layPolynomial_ok l h a0) rfl rfl ⟨by decide, by decide, by decide⟩ zcd_X12_layPolynomial rfl ⟨zw_1286, zw_1288, zw_22, zw_62⟩ ⟨Nat.le_of_ble_eq_true rfl, Nat.le_of_ble_eq_true rfl⟩ rfl (Nat.le_of_ble_eq_true rfl) (eX12_shiftTo 1 rfl) (fun h1 => ?_)
  refine zr_aload_n (r := (some a0)) (eX12_shiftTo 2 rfl) rfl rfl ?_
  refine zr_getI zf_RX12_183 ⟨by decide, by decide⟩ (eX12_shiftTo 3 rfl) ?_
  refine v_leti (fun x21 => ?_)
  refine zr_istore_n (ls2 := [some (.ref a0, 12), some (.int x1, 0), some (.int x21, 0), none, none, none, none, none, none]) (eX12_shiftTo 4 rfl) rfl (Nat.le_of_ble_eq_true rfl) rfl ?_
  refine zr_iconst (eX12_shiftTo 5 rfl) zk_iconst_0 ?_
  refine zr_istore_n (ls2 := [some (.ref a0, 12), some (.int x1, 0), some (.int x21, 0), some (.int 0, 0), none, none, none, none, none]) (eX12_shiftTo 6 rfl) rfl (Nat.le_of_ble_eq_true rfl) rfl ?_
  refine v_jn (fun (k40 : Zh → Option (Zh)) => ∀ (h2 : Zh), V l mX12_shiftTo (zN h) (zS h) 0 zoV 69 [some (.ref a0, 12), some (.int x1, 0), some (.int x21, 0), none, none, none, none, none, none] [] h2 (k40 h2)) ?_ ?_
  · intro h2
    unfold gX12_shiftTo_J4
    refine zr_iconst (eX12_shiftTo 41 rfl) zk_iconst_0 ?_
    refine zr_istore_n (ls2 := [some (.ref a0, 12), some (.int x1, 0), some (.int x21, 0), some (.int 0, 0), none, none, none, none, none]) (eX12_shiftTo 42 rfl) rfl (Nat.le_of_ble_eq_true rfl) rfl ?_
    refine v_drop [true, true, true, true, false, false, false, false, false] rfl ?_
    refine zlp_ind (fun (k23 : Int32 → Zh → Option (Zh)) => ∀ (x22 : Int32) (h3 : Zh), V l mX12_shiftTo (zN h) (zS h) 0 zoV 71 [some (.ref a0, 12), some (.int x1, 0), some (.int x21, 0), some (.int x22, 0), none, none, none, none, none] [] h3 (k23 x22 h3)) ?_ ?_ 0 h2
    · exact fun _ _ => v_none
    intro k23 hk23 x22 h3
    unfold gX12_shiftTo_L3
    refine zr_iload_n (eX12_shiftTo 43 rfl) rfl rfl ?_
    refine zr_iload_n (eX12_shiftTo 44 rfl) rfl rfl ?_
    refine zr_icmp_ge (eX12_shiftTo 45 rfl) (t := 178) (by decide) ?_ ?_
    · exact zr_vret rfl rfl (eX12_shiftTo 107 rfl)
    · refine zr_iload_n (eX12_shiftTo 46 rfl) rfl rfl ?_
      refine zr_iconst (eX12_shiftTo 47 rfl) zk_iconst_1 ?_
      refine zr_isub (eX12_shiftTo 48 rfl) ?_
      refine v_leti (fun x24 => ?_)
      refine zr_istore (ls2 := [some (.ref a0, 12), some (.int x1, 0), some (.int x21, 0), some (.int x22, 0), some (.int x24, 0), none, none, none, none]) (eX12_shiftTo 49 rfl) (Nat.le_of_ble_eq_true rfl) rfl ?_
      refine v_jn (fun (k25 : Zh → Option (Zh)) => ∀ (h4 : Zh), V l mX12_shiftTo (zN h) (zS h) 0 zoV 172 [some (.ref a0, 12), some (.int x1, 0), some (.int x21, 0), some (.int x22, 0), none, none, none, none, none] [] h4 (k25 h4)) ?_ ?_
      · intro h4
        unfold gX12_shiftTo_J1
        refine zr_iinc (ls2 := [some (.ref a0, 12), some (.int x1, 0), some (.int x21, 0), some (.int (x22 + 1), 0), none, none, none, none, none]) (eX12_shiftTo 105 rfl) rfl (Nat.le_of_ble_eq_true rfl) zk_iconst_1 rfl ?_
        refine zr_goto (eX12_shiftTo 106 rfl) (t := 71) (by decide) ?_
        exact v_drop [true, true, true, true, false, false, false, false, false] rfl (hk23 (x22 + 1) h4)
      intro k25 hk25
      refine v_drop [true, true, true, true, true, false, false, false, false] rfl ?_
      refine zlp_ind (fun (k27 : Int32 → Zh → Option (Zh)) => ∀ (x26 : Int32) (h5 : Zh), V l mX12_shiftTo (zN h) (zS h) 0 zoV 81 [some (.ref a0, 12), some (.int x1, 0), some (.int x21, 0), some (.int x22, 0), some (.int x26, 0), none, none, none, none] [] h5 (k27 x26 h5)) ?_ ?_ x24 h3
      · exact fun _ _ => v_none
      intro k27 hk27 x26 h5
      unfold gX12_shiftTo_L2
      refine zr_iload (eX12_shiftTo 50 rfl) rfl ?_
      refine zr_iload_n (eX12_shiftTo 51 rfl) rfl rfl ?_
      refine zr_icmp_lt (eX12_shiftTo 52 rfl) (t := 172) (by decide) ?_ ?_
      · exact v_drop [true, true, true, true, false, false, false, false, false] rfl (hk25 h5)
      · refine zr_aload_n (r := (some a0)) (eX12_shiftTo 53 rfl) rfl rfl ?_
        refine zr_getR2 zf_RX12_38 (τ2 := 21) rfl (eX12_shiftTo 54 rfl) ?_
        refine v_letr (fun r28 => ?_)
        refine zr_iload (eX12_shiftTo 55 rfl) rfl ?_
        refine v_nn (fun a29 ea29 => ?_)
        subst ea29
        refine zr_lald (eX12_shiftTo 56 rfl) ?_
        refine zr_iload_n (eX12_shiftTo 57 rfl) rfl rfl ?_
        refine zr_i2l (eX12_shiftTo 58 rfl) ?_
        refine zr_aload_n (r := (some a0)) (eX12_shiftTo 59 rfl) rfl rfl ?_
        refine zr_getR2 zf_RX12_38 (τ2 := 21) rfl (eX12_shiftTo 60 rfl) ?_
        refine v_letr (fun r30 => ?_)
        refine zr_iload (eX12_shiftTo 61 rfl) rfl ?_
        refine zr_iconst (eX12_shiftTo 62 rfl) zk_iconst_1 ?_
        refine zr_iadd (eX12_shiftTo 63 rfl) ?_
        refine v_nn (fun a31 ea31 => ?_)
        subst ea31
        refine zr_lald (eX12_shiftTo 64 rfl) ?_
        refine zr_lmul (eX12_shiftTo 65 rfl) ?_
        refine zr_ladd (eX12_shiftTo 66 rfl) ?_
        refine v_letj (fun x32 => ?_)
        refine zr_lstore (ls2 := [some (.ref a0, 12), some (.int x1, 0), some (.int x21, 0), some (.int x22, 0), some (.int x26, 0), some (.long x32, 0), none, none, none]) (eX12_shiftTo 67 rfl) (Nat.le_of_ble_eq_true rfl) rfl ?_
        refine zr_lload (eX12_shiftTo 68 rfl) rfl ?_
        refine zr_ldc2 (eX12_shiftTo 69 rfl) zw_1312 ?_
        refine zr_lrem (eX12_shiftTo 70 rfl) ?_
        refine zr_ldc2 (eX12_shiftTo 71 rfl) zw_1312 ?_
        refine zr_ladd (eX12_shiftTo 72 rfl) ?_
        refine zr_ldc2 (eX12_shiftTo 73 rfl) zw_1312 ?_
        refine zr_lrem (eX12_shiftTo 74 rfl) ?_
        refine v_letj (fun x33 => ?_)
        refine zr_lstore (ls2 := [some (.ref a0, 12), some (.int x1, 0), some (.int x21, 0), some (.int x22, 0), some (.int x26, 0), some (.long x32, 0), none, some (.long x33, 0), none]) (eX12_shiftTo 75 rfl) (Nat.le_of_ble_eq_true rfl) rfl ?_
        refine zr_aload_n (r := (some a0)) (eX12_shiftTo 76 rfl) rfl rfl ?_
        refine zr_getR2 zf_RX12_35 (τ2 := 21) rfl (eX12_shiftTo 77 rfl) ?_
        refine v_letr (fun r34 => ?_)
        refine zr_iload (eX12_shiftTo 78 rfl) rfl ?_
        refine v_nn (fun a35 ea35 => ?_)
        subst ea35
        refine zr_dup2 (eX12_shiftTo 79 rfl) rfl rfl ?_
        refine zr_lald (eX12_shiftTo 80 rfl) ?_
        refine zr_iload_n (eX12_shiftTo 81 rfl) rfl rfl ?_
        refine zr_i2l (eX12_shiftTo 82 rfl) ?_
        refine zr_aload_n (r := (some a0)) (eX12_shiftTo 83 rfl) rfl rfl ?_
        refine zr_getR2 zf_RX12_35 (τ2 := 21) rfl (eX12_shiftTo 84 rfl) ?_
        refine v_letr (fun r36 => ?_)
        refine zr_iload (eX12_shiftTo 85 rfl) rfl ?_
        refine zr_iconst (eX12_shiftTo 86 rfl) zk_iconst_1 ?_
        refine zr_iadd (eX12_shiftTo 87 rfl) ?_
        refine v_nn (fun a37 ea37 => ?_)
        subst ea37
        refine zr_lald (eX12_shiftTo 88 rfl) ?_
        refine zr_lmul (eX12_shiftTo 89 rfl) ?_
        refine zr_lload (eX12_shiftTo 90 rfl) rfl ?_
        refine zr_lload (eX12_shiftTo 91 rfl) rfl ?_
        refine zr_lsub (eX12_shiftTo 92 rfl) ?_
        refine zr_ldc2 (eX12_shiftTo 93 rfl) zw_1312 ?_
        refine zr_ldiv (eX12_shiftTo 94 rfl) ?_
        refine zr_ladd (eX12_shiftTo 95 rfl) ?_
        refine zr_ladd (eX12_shiftTo 96 rfl) ?_
        refine zr_last (eX12_shiftTo 97 rfl) ?_
        refine v_leth (fun h6 => ?_)
        refine zr_aload_n (r := (some a0)) (eX12_shiftTo 98 rfl) rfl rfl ?_
        refine zr_getR2 zf_RX12_38 (τ2 := 21) rfl (eX12_shiftTo 99 rfl) ?_
        refine v_letr (fun r38 => ?_)
        refine zr_iload (eX12_shiftTo 100 rfl) rfl ?_
        refine zr_lload (eX12_shiftTo 101 rfl) rfl ?_
        refine v_nn (fun a39 ea39 => ?_)
        subst ea39
        refine zr_last (eX12_shiftTo 102 rfl) ?_
        refine v_leth (fun h7 => ?_)
        refine zr_iinc (ls2 := [some (.ref a0, 12), some (.int x1, 0), some (.int x21, 0), some (.int x22, 0), some (.int (x26 + (-1)), 0), some (.long x32, 0), none, some (.long x33, 0), none]) (eX12_shiftTo 103 rfl) rfl (Nat.le_of_ble_eq_true rfl) zk_iconst_m1 rfl ?_
        refine zr_goto (eX12_shiftTo 104 rfl) (t := 81) (by decide) ?_
        exact v_drop [true, true, true, true, true, false, false, false, false] rfl (hk27 (x26 + (-1)) h7)
  intro k40 hk40
  refine v_drop [true, true, true, true, false, false, false, false, false] rfl ?_
  refine zlp_ind (fun (k42 : Int32 → Zh → Option (Zh)) => ∀ (x41 : Int32) (h8 : Zh), V l mX12_shiftTo (zN h) (zS h) 0 zoV 11 [some (.ref a0, 12), some (.int x1, 0), some (.int x21, 0), some (.int x41, 0), none, none, none, none, none] [] h8 (k42 x41 h8)) ?_ ?_ 0 h1
  · exact fun _ _ => v_none
  intro k42 hk42 x41 h8
  unfold gX12_shiftTo_L5
  refine zr_iload_n (eX12_shiftTo 7 rfl) rfl rfl ?_
  refine zr_iload_n (eX12_shiftTo 8 rfl) rfl rfl ?_
  refine zr_icmp_gt (eX12_shiftTo 9 rfl) (t := 69) (by decide) ?_ ?_
  · exact v_drop [true, true, true, false, false, false, false, false, false] rfl (hk40 h8)
  · refine zr_aload_n (r := (some a0)) (eX12_shiftTo 10 rfl) rfl rfl ?_
    refine zr_getR2 zf_RX12_38 (τ2 := 21) rfl (eX12_shiftTo 11 rfl) ?_
    refine v_letr (fun r43 => ?_)
    refine zr_iload_n (eX12_shiftTo 12 rfl) rfl rfl ?_
    refine zr_aload_n (r := (some a0)) (eX12_shiftTo 13 rfl) rfl rfl ?_
    refine zr_getR2 zf_RX12_26 (τ2 := 21) rfl (eX12_shiftTo 14 rfl) ?_
    refine v_letr (fun r44 => ?_)
    refine zr_iload_n (eX12_shiftTo 15 rfl) rfl rfl ?_
    refine v_nn (fun a45 ea45 => ?_)
    subst ea45
    refine zr_lald (eX12_shiftTo 16 rfl) ?_
    refine zr_ldc2 (eX12_shiftTo 17 rfl) zw_1312 ?_
    refine zr_lrem (eX12_shiftTo 18 rfl) ?_
    refine zr_ldc2 (eX12_shiftTo 19 rfl) zw_1312 ?_
    refine zr_ladd (eX12_shiftTo 20 rfl) ?_
    refine zr_ldc2 (eX12_shiftTo 21 rfl) zw_1312 ?_
    refine zr_lrem (eX12_shiftTo 22 rfl) ?_
    refine v_nn (fun a46 ea46 => ?_)
    subst ea46
    refine zr_last (eX12_shiftTo 23 rfl) ?_
    refine v_leth (fun h9 => ?_)
    refine zr_aload_n (r := (some a0)) (eX12_shiftTo 24 rfl) rfl rfl ?_
    refine zr_getR2 zf_RX12_35 (τ2 := 21) rfl (eX12_shiftTo 25 rfl) ?_
    refine v_letr (fun r47 => ?_)
    refine zr_iload_n (eX12_shiftTo 26 rfl) rfl rfl ?_
    refine zr_aload_n (r := (some a0)) (eX12_shiftTo 27 rfl) rfl rfl ?_
    refine zr_getR2 zf_RX12_26 (τ2 := 21) rfl (eX12_shiftTo 28 rfl) ?_
    refine v_letr (fun r48 => ?_)
    refine zr_iload_n (eX12_shiftTo 29 rfl) rfl rfl ?_
    refine v_nn (fun a49 ea49 => ?_)
    subst ea49
    refine zr_lald (eX12_shiftTo 30 rfl) ?_
    refine zr_aload_n (r := (some a0)) (eX12_shiftTo 31 rfl) rfl rfl ?_
    refine zr_getR2 zf_RX12_38 (τ2 := 21) rfl (eX12_shiftTo 32 rfl) ?_
    refine v_letr (fun r50 => ?_)
    refine zr_iload_n (eX12_shiftTo 33 rfl) rfl rfl ?_
    refine v_nn (fun a51 ea51 => ?_)
    subst ea51
    refine zr_lald (eX12_shiftTo 34 rfl) ?_
    refine zr_lsub (eX12_shiftTo 35 rfl) ?_
    refine zr_ldc2 (eX12_shiftTo 36 rfl) zw_1312 ?_
    refine zr_ldiv (eX12_shiftTo 37 rfl) ?_
    refine v_nn (fun a52 ea52 => ?_)
    subst ea52
    refine zr_last (eX12_shiftTo 38 rfl) ?_
    refine v_leth (fun h10 => ?_)
    refine zr_iinc (ls2 := [some (.ref a0, 12), some (.int x1, 0), some (.int x21, 0), some (.int (x41 + 1), 0), none, none, none, none, none]) (eX12_shiftTo 39 rfl) rfl (Nat.le_of_ble_eq_true rfl) zk_iconst_1 rfl ?_
    refine zr_goto (eX12_shiftTo 40 rfl) (t := 11) (by decide) ?_
    exact v_drop [true, true, true, true, false, false, false, false, false] rfl (hk42 (x41 + 1) h10)
def gX12_signAt_J1 : Option (Int32) :=
  (some 1)
def gX12_signAt (h : Zh) (a0 : Nat) (x1 : Int32) : Option (Int32) :=
  zlt (zR h a0 14) (fun r21 => Option.bind r21 (fun a22 => zg (zin x1 (zL h a22)) ((if (0 : Int32) ≤ (lg_cmp (zJ h a22 (zx x1)) 0) then zlt (zR h a0 14) (fun r23 => Option.bind r23 (fun a24 => zg (zin x1 (zL h a24)) (zjn gX12_signAt_J1 (fun (k25 : Option (Int32)) =>
  (if (0 : Int32) < (lg_cmp (zJ h a24 (zx x1)) 0) then k25
  else zlt (zR h a0 15) (fun r26 => Option.bind r26 (fun a27 => zg (zin x1 (zL h a27)) ((if ((lg_cmp (zJ h a27 (zx x1)) 0) : Int32) ≤ 0 then (some 0)
  else k25)))))))))
  else (some (-1))))))
set_option maxRecDepth 20000 in
theorem cX12_signAt_ok (l : Launch) (h : Zh) (a0 : Nat) (x1 : Int32) : Zc l yX12_signAt mX12_signAt 0 h [(.ref a0, 12), (.int x1, 0)] ((gX12_signAt h a0 x1).map (zoi h)) := by
  refine zc_of2 (ls := [some (.ref a0, 12), some (.int x1, 0)]) (j := 0) (by decide +kernel) rfl rfl (zEn_ca (zEn_ci rfl)) (Nat.le_of_ble_eq_true rfl) rfl ?_
  unfold gX12_signAt
  refine zr_aload_n (r := (some a0)) (eX12_signAt 0 rfl) rfl rfl ?_
  refine zr_getR2 zf_RX12_35 (τ2 := 21) rfl (eX12_signAt 1 rfl) ?_
  refine v_letr (fun r21 => ?_)
  refine zr_iload_n (eX12_signAt 2 rfl) rfl rfl ?_
  refine v_nn (fun a22 ea22 => ?_)
  subst ea22
  refine zr_lald (eX12_signAt 3 rfl) ?_
  refine zr_lconst (eX12_signAt 4 rfl) zk_lconst_0 ?_
  refine zr_lcmp (eX12_signAt 5 rfl) ?_
  refine zr_if_ge (eX12_signAt 6 rfl) (t := 15) (by decide) ?_ ?_
  · refine zr_aload_n (r := (some a0)) (eX12_signAt 9 rfl) rfl rfl ?_
    refine zr_getR2 zf_RX12_35 (τ2 := 21) rfl (eX12_signAt 10 rfl) ?_
    refine v_letr (fun r23 => ?_)
    refine zr_iload_n (eX12_signAt 11 rfl) rfl rfl ?_
    refine v_nn (fun a24 ea24 => ?_)
    subst ea24
    refine zr_lald (eX12_signAt 12 rfl) ?_
    refine zr_lconst (eX12_signAt 13 rfl) zk_lconst_0 ?_
    refine zr_lcmp (eX12_signAt 14 rfl) ?_
    refine v_jn (fun (k25 : Option (Int32)) => V l mX12_signAt (zN h) (zS h) 0 (zoi h) 37 [none, none] [] h k25) ?_ ?_
    · skip
      unfold gX12_signAt_J1
      refine zr_iconst (eX12_signAt 23 rfl) zk_iconst_1 ?_
      refine zr_goto (eX12_signAt 24 rfl) (t := 42) (by decide) ?_
      exact zr_iret rfl rfl (eX12_signAt 26 rfl)
    intro k25 hk25
    refine zr_if_gt (eX12_signAt 15 rfl) (t := 37) (by decide) ?_ ?_
    · exact v_drop [false, false] rfl (hk25)
    · refine zr_aload_n (r := (some a0)) (eX12_signAt 16 rfl) rfl rfl ?_
      refine zr_getR2 zf_RX12_38 (τ2 := 21) rfl (eX12_signAt 17 rfl) ?_
      refine v_letr (fun r26 => ?_)
      refine zr_iload_n (eX12_signAt 18 rfl) rfl rfl ?_
      refine v_nn (fun a27 ea27 => ?_)
      subst ea27
      refine zr_lald (eX12_signAt 19 rfl) ?_
      refine zr_lconst (eX12_signAt 20 rfl) zk_lconst_0 ?_
      refine zr_lcmp (eX12_signAt 21 rfl) ?_
      refine zr_if_le (eX12_signAt 22 rfl) (t := 41) (by decide) ?_ ?_
      · refine zr_iconst (eX12_signAt 25 rfl) zk_iconst_0 ?_
        exact zr_iret rfl rfl (eX12_signAt 26 rfl)
      · exact v_drop [false, false] rfl (hk25)
  · refine zr_iconst (eX12_signAt 7 rfl) zk_iconst_m1 ?_
    refine zr_goto (eX12_signAt 8 rfl) (t := 42) (by decide) ?_
    exact zr_iret rfl rfl (eX12_signAt 26 rfl)
def gX12_zeros_L1 (h : Zh) (a0 : Nat) : (Int32 → Option (Int32)) → Int32 → Option (Int32) :=
  fun (k22 : Int32 → Option (Int32)) (x21 : Int32) => zbi (gX12_signAt h a0 x21) (fun x23 => (if (x23 : Int32) = 0 then k22 (x21 + 1)
  else (some x21)))
def gX12_zeros (h : Zh) (a0 : Nat) : Option (Int32) :=
  zlp (fun (_ : Int32) => (none : Option (Int32))) (gX12_zeros_L1 h a0) zFU 0
set_option maxRecDepth 20000 in
theorem cX12_zeros_ok (l : Launch) (h : Zh) (a0 : Nat) : Zc l yX12_zeros mX12_zeros 0 h [(.ref a0, 12)] ((gX12_zeros h a0).map (zoi h)) := by
  refine zc_of2 (ls := [some (.ref a0, 12), none]) (j := 1) (by decide +kernel) rfl rfl (zEn_ca rfl) (Nat.le_of_ble_eq_true rfl) rfl ?_
  unfold gX12_zeros
  refine zr_iconst (eX12_zeros 0 rfl) zk_iconst_0 ?_
  refine zr_istore_n (ls2 := [some (.ref a0, 12), some (.int 0, 0)]) (eX12_zeros 1 rfl) rfl (Nat.le_of_ble_eq_true rfl) rfl ?_
  refine v_drop [true, true] rfl ?_
  refine zlp_ind (fun (k22 : Int32 → Option (Int32)) => ∀ (x21 : Int32), V l mX12_zeros (zN h) (zS h) 0 (zoi h) 2 [some (.ref a0, 12), some (.int x21, 0)] [] h (k22 x21)) ?_ ?_ 0
  · exact fun _ => v_none
  intro k22 hk22 x21
  unfold gX12_zeros_L1
  refine zr_aload_n (r := (some a0)) (eX12_zeros 2 rfl) rfl rfl ?_
  refine zr_iload_n (eX12_zeros 3 rfl) rfl rfl ?_
  refine zr_invV_i (as := [(.int x21, 0)]) (cX12_signAt_ok l h a0 x21) rfl rfl ⟨by decide, by decide, by decide⟩ zcd_X12_signAt rfl ⟨zw_1313, zw_1315, zw_27, zw_62⟩ ⟨Nat.le_of_ble_eq_true rfl, Nat.le_of_ble_eq_true rfl⟩ rfl (Nat.le_of_ble_eq_true rfl) (eX12_zeros 4 rfl) (fun x23 => ?_)
  refine zr_if_ne (eX12_zeros 5 rfl) (t := 16) (by decide) ?_ ?_
  · refine zr_iload_n (eX12_zeros 8 rfl) rfl rfl ?_
    exact zr_iret rfl rfl (eX12_zeros 9 rfl)
  · refine zr_iinc (ls2 := [some (.ref a0, 12), some (.int (x21 + 1), 0)]) (eX12_zeros 6 rfl) rfl (Nat.le_of_ble_eq_true rfl) zk_iconst_1 rfl ?_
    refine zr_goto (eX12_zeros 7 rfl) (t := 2) (by decide) ?_
    exact v_drop [true, true] rfl (hk22 (x21 + 1))
def gX12_above_J1 (x27 : Int32) (k28 : Int32 → Int32 → Int32 → Option (Int32 × Zh)) (x31 : Int32) : Int32 → Option (Int32 × Zh) :=
  fun (x32 : Int32) => k28 x31 x32 (x27 + (-1))
def gX12_above_J2 (x25 : Int32) (x26 : Int32) (x27 : Int32) (k28 : Int32 → Int32 → Int32 → Option (Int32 × Zh)) (x29 : Int32) : Int32 → Option (Int32 × Zh) :=
  fun (x30 : Int32) => zlt (x25 + x30) (fun x31 => zjn (gX12_above_J1 x27 k28 x31) (fun (k33 : Int32 → Option (Int32 × Zh)) =>
  (if (x29 : Int32) = 0 then k33 x26
  else k33 x29)))
def gX12_above_J3 (k34 : Int32 → Option (Int32 × Zh)) : Option (Int32 × Zh) :=
  k34 0
def gX12_above_L4 (a0 : Nat) (h2 : Zh) : (Int32 → Int32 → Int32 → Option (Int32 × Zh)) → Int32 → Int32 → Int32 → Option (Int32 × Zh) :=
  fun (k28 : Int32 → Int32 → Int32 → Option (Int32 × Zh)) (x25 : Int32) (x26 : Int32) (x27 : Int32) => (if (x27 : Int32) < 0 then (some (x25, h2))
  else zbi (gX12_signAt h2 a0 x27) (fun x29 => zjn (gX12_above_J2 x25 x26 x27 k28 x29) (fun (k34 : Int32 → Option (Int32 × Zh)) =>
  zjn (gX12_above_J3 k34) (fun (k35 : Option (Int32 × Zh)) =>
  (if (x29 : Int32) = 0 then k35
  else (if (x29 : Int32) = x26 then k35
  else k34 1))))))
def gX12_above (h : Zh) (a0 : Nat) (x1 : Int32) (x2 : Int32) (x3 : Int32) : Option (Int32 × Zh) :=
  zbi (gX12_noSector h a0 x1 x2) (fun x21 => (if (x21 : Int32) = 0 then zbi (gX12_in ((x3 : Int32).toInt64) (-50) 50) (fun x22 => (if (x22 : Int32) = 0 then (some ((-2), h))
  else zbI (gX12_laySector h a0 x1 x2) (fun x23 h1 => (if (0 : Int32) ≤ x23 then zbV (gX12_shiftTo h1 a0 x3) (fun h2 => zlt (zI h2 a0 5) (fun x24 => zlp (fun (_ : Int32) (_ : Int32) (_ : Int32) => (none : Option (Int32 × Zh))) (gX12_above_L4 a0 h2) zFU 0 1 x24))
  else (some ((-6), h1))))))
  else (some ((-2), h))))
set_option maxRecDepth 20000 in
theorem cX12_above_ok (l : Launch) (h : Zh) (a0 : Nat) (x1 : Int32) (x2 : Int32) (x3 : Int32) : Zc l yX12_above mX12_above 0 h [(.ref a0, 12), (.int x1, 0), (.int x2, 0), (.int x3, 0)] ((gX12_above h a0 x1 x2 x3).map zoI) := by
  refine zc_of2 (ls := [some (.ref a0, 12), some (.int x1, 0), some (.int x2, 0), some (.int x3, 0), none, none, none, none]) (j := 4) (by decide +kernel) rfl rfl (zEn_ca (zEn_ci (zEn_ci (zEn_ci rfl)))) (Nat.le_of_ble_eq_true rfl) rfl ?_
  unfold gX12_above
  refine zr_aload_n (r := (some a0)) (eX12_above 0 rfl) rfl rfl ?_
  refine zr_iload_n (eX12_above 1 rfl) rfl rfl ?_
  refine zr_iload_n (eX12_above 2 rfl) rfl rfl ?_
  refine zr_invV_i (as := [(.int x1, 0), (.int x2, 0)]) (cX12_noSector_ok l h a0 x1 x2) rfl rfl ⟨by decide, by decide, by decide⟩ zcd_X12_noSector rfl ⟨zw_1255, zw_1257, zw_18, zw_62⟩ ⟨Nat.le_of_ble_eq_true rfl, Nat.le_of_ble_eq_true rfl⟩ rfl (Nat.le_of_ble_eq_true rfl) (eX12_above 3 rfl) (fun x21 => ?_)
  refine zr_if_ne (eX12_above 4 rfl) (t := 23) (by decide) ?_ ?_
  · refine zr_bipush (eX12_above 11 rfl) zk_bipush_m2 ?_
    exact zr_iret rfl rfl (eX12_above 12 rfl)
  · refine zr_iload_n (eX12_above 5 rfl) rfl rfl ?_
    refine zr_i2l (eX12_above 6 rfl) ?_
    refine zr_ldc2 (eX12_above 7 rfl) zw_1306 ?_
    refine zr_ldc2 (eX12_above 8 rfl) zw_1307 ?_
    refine zr_invS_i (as := [(.long ((x3 : Int32).toInt64), 0), (.long (-50), 0), (.long 50, 0)]) (cX12_in_ok l h ((x3 : Int32).toInt64) (-50) 50) rfl zcd_X12_in ⟨zw_1203, zw_1204, zw_62⟩ ⟨Nat.le_of_ble_eq_true rfl, Nat.le_of_ble_eq_true rfl⟩ rfl (Nat.le_of_ble_eq_true rfl) (eX12_above 9 rfl) (fun x22 => ?_)
    refine zr_if_ne (eX12_above 10 rfl) (t := 26) (by decide) ?_ ?_
    · refine zr_aload_n (r := (some a0)) (eX12_above 13 rfl) rfl rfl ?_
      refine zr_iload_n (eX12_above 14 rfl) rfl rfl ?_
      refine zr_iload_n (eX12_above 15 rfl) rfl rfl ?_
      refine zr_invV_I (as := [(.int x1, 0), (.int x2, 0)]) (cX12_laySector_ok l h a0 x1 x2) rfl rfl ⟨by decide, by decide, by decide⟩ zcd_X12_laySector rfl ⟨zw_1274, zw_1276, zw_20, zw_62⟩ ⟨Nat.le_of_ble_eq_true rfl, Nat.le_of_ble_eq_true rfl⟩ rfl (Nat.le_of_ble_eq_true rfl) (eX12_above 16 rfl) (fun x23 h1 => ?_)
      refine zr_if_ge (eX12_above 17 rfl) (t := 38) (by decide) ?_ ?_
      · refine zr_aload_n (r := (some a0)) (eX12_above 20 rfl) rfl rfl ?_
        refine zr_iload_n (eX12_above 21 rfl) rfl rfl ?_
        refine zr_invV_V (as := [(.int x3, 0)]) (cX12_shiftTo_ok l h1 a0 x3) rfl rfl ⟨by decide, by decide, by decide⟩ zcd_X12_shiftTo rfl ⟨zw_1308, zw_1310, zw_26, zw_62⟩ ⟨Nat.le_of_ble_eq_true rfl, Nat.le_of_ble_eq_true rfl⟩ rfl (Nat.le_of_ble_eq_true rfl) (eX12_above 22 rfl) (fun h2 => ?_)
        refine zr_iconst (eX12_above 23 rfl) zk_iconst_0 ?_
        refine zr_istore (ls2 := [some (.ref a0, 12), some (.int x1, 0), some (.int x2, 0), some (.int x3, 0), some (.int 0, 0), none, none, none]) (eX12_above 24 rfl) (Nat.le_of_ble_eq_true rfl) rfl ?_
        refine zr_iconst (eX12_above 25 rfl) zk_iconst_1 ?_
        refine zr_istore (ls2 := [some (.ref a0, 12), some (.int x1, 0), some (.int x2, 0), some (.int x3, 0), some (.int 0, 0), some (.int 1, 0), none, none]) (eX12_above 26 rfl) (Nat.le_of_ble_eq_true rfl) rfl ?_
        refine zr_aload_n (r := (some a0)) (eX12_above 27 rfl) rfl rfl ?_
        refine zr_getI zf_RX12_183 ⟨by decide, by decide⟩ (eX12_above 28 rfl) ?_
        refine v_leti (fun x24 => ?_)
        refine zr_istore (ls2 := [some (.ref a0, 12), some (.int x1, 0), some (.int x2, 0), some (.int x3, 0), some (.int 0, 0), some (.int 1, 0), some (.int x24, 0), none]) (eX12_above 29 rfl) (Nat.le_of_ble_eq_true rfl) rfl ?_
        refine v_drop [true, false, false, false, true, true, true, false] rfl ?_
        refine zlp_ind (fun (k28 : Int32 → Int32 → Int32 → Option (Int32 × Zh)) => ∀ (x25 : Int32) (x26 : Int32) (x27 : Int32), V l mX12_above (zN h) (zS h) 0 zoI 55 [some (.ref a0, 12), none, none, none, some (.int x25, 0), some (.int x26, 0), some (.int x27, 0), none] [] h2 (k28 x25 x26 x27)) ?_ ?_ 0 1 x24
        · exact fun _ _ _ => v_none
        intro k28 hk28 x25 x26 x27
        unfold gX12_above_L4
        refine zr_iload (eX12_above 30 rfl) rfl ?_
        refine zr_if_lt (eX12_above 31 rfl) (t := 110) (by decide) ?_ ?_
        · refine zr_iload (eX12_above 55 rfl) rfl ?_
          exact zr_iret rfl rfl (eX12_above 56 rfl)
        · refine zr_aload_n (r := (some a0)) (eX12_above 32 rfl) rfl rfl ?_
          refine zr_iload (eX12_above 33 rfl) rfl ?_
          refine zr_invV_i (as := [(.int x27, 0)]) (cX12_signAt_ok l h2 a0 x27) rfl rfl ⟨by decide, by decide, by decide⟩ zcd_X12_signAt rfl ⟨zw_1313, zw_1315, zw_27, zw_62⟩ ⟨Nat.le_of_ble_eq_true rfl, Nat.le_of_ble_eq_true rfl⟩ rfl (Nat.le_of_ble_eq_true rfl) (eX12_above 34 rfl) (fun x29 => ?_)
          refine zr_istore (ls2 := [some (.ref a0, 12), none, none, none, some (.int x25, 0), some (.int x26, 0), some (.int x27, 0), some (.int x29, 0)]) (eX12_above 35 rfl) (Nat.le_of_ble_eq_true rfl) rfl ?_
          refine zr_iload (eX12_above 36 rfl) rfl ?_
          refine zr_iload (eX12_above 37 rfl) rfl ?_
          refine v_jn (fun (k34 : Int32 → Option (Int32 × Zh)) => ∀ (x30 : Int32), V l mX12_above (zN h) (zS h) 0 zoI 87 [some (.ref a0, 12), none, none, none, none, some (.int x26, 0), some (.int x27, 0), some (.int x29, 0)] [(.int x30, 0), (.int x25, 0)] h2 (k34 x30)) ?_ ?_
          · intro x30
            unfold gX12_above_J2
            refine zr_iadd (eX12_above 45 rfl) ?_
            refine v_leti (fun x31 => ?_)
            refine zr_istore (ls2 := [some (.ref a0, 12), none, none, none, some (.int x31, 0), some (.int x26, 0), some (.int x27, 0), some (.int x29, 0)]) (eX12_above 46 rfl) (Nat.le_of_ble_eq_true rfl) rfl ?_
            refine zr_iload (eX12_above 47 rfl) rfl ?_
            refine v_jn (fun (k33 : Int32 → Option (Int32 × Zh)) => ∀ (x32 : Int32), V l mX12_above (zN h) (zS h) 0 zoI 102 [some (.ref a0, 12), none, none, none, some (.int x31, 0), none, some (.int x27, 0), none] [(.int x32, 0)] h2 (k33 x32)) ?_ ?_
            · intro x32
              unfold gX12_above_J1
              refine zr_istore (ls2 := [some (.ref a0, 12), none, none, none, some (.int x31, 0), some (.int x32, 0), some (.int x27, 0), none]) (eX12_above 52 rfl) (Nat.le_of_ble_eq_true rfl) rfl ?_
              refine zr_iinc (ls2 := [some (.ref a0, 12), none, none, none, some (.int x31, 0), some (.int x32, 0), some (.int (x27 + (-1)), 0), none]) (eX12_above 53 rfl) rfl (Nat.le_of_ble_eq_true rfl) zk_iconst_m1 rfl ?_
              refine zr_goto (eX12_above 54 rfl) (t := 55) (by decide) ?_
              exact v_drop [true, false, false, false, true, true, true, false] rfl (hk28 x31 x32 (x27 + (-1)))
            intro k33 hk33
            refine zr_if_eq (eX12_above 48 rfl) (t := 100) (by decide) ?_ ?_
            · refine zr_iload (eX12_above 51 rfl) rfl ?_
              exact v_drop [true, false, false, false, true, false, true, false] rfl (hk33 x26)
            · refine zr_iload (eX12_above 49 rfl) rfl ?_
              refine zr_goto (eX12_above 50 rfl) (t := 102) (by decide) ?_
              exact v_drop [true, false, false, false, true, false, true, false] rfl (hk33 x29)
          intro k34 hk34
          refine v_jn (fun (k35 : Option (Int32 × Zh)) => V l mX12_above (zN h) (zS h) 0 zoI 86 [some (.ref a0, 12), none, none, none, none, some (.int x26, 0), some (.int x27, 0), some (.int x29, 0)] [(.int x25, 0)] h2 k35) ?_ ?_
          · skip
            unfold gX12_above_J3
            refine zr_iconst (eX12_above 44 rfl) zk_iconst_0 ?_
            exact v_drop [true, false, false, false, false, true, true, true] rfl (hk34 0)
          intro k35 hk35
          refine zr_if_eq (eX12_above 38 rfl) (t := 86) (by decide) ?_ ?_
          · exact v_drop [true, false, false, false, false, true, true, true] rfl (hk35)
          · refine zr_iload (eX12_above 39 rfl) rfl ?_
            refine zr_iload (eX12_above 40 rfl) rfl ?_
            refine zr_icmp_eq (eX12_above 41 rfl) (t := 86) (by decide) ?_ ?_
            · exact v_drop [true, false, false, false, false, true, true, true] rfl (hk35)
            · refine zr_iconst (eX12_above 42 rfl) zk_iconst_1 ?_
              refine zr_goto (eX12_above 43 rfl) (t := 87) (by decide) ?_
              exact v_drop [true, false, false, false, false, true, true, true] rfl (hk34 1)
      · refine zr_bipush (eX12_above 18 rfl) zk_bipush_m6 ?_
        exact zr_iret rfl rfl (eX12_above 19 rfl)
    · refine zr_bipush (eX12_above 11 rfl) zk_bipush_m2 ?_
      exact zr_iret rfl rfl (eX12_above 12 rfl)
def gX12_often (h : Zh) (a0 : Nat) (x1 : Int32) (x2 : Int32) (x3 : Int32) : Option (Int32 × Zh) :=
  zbi (gX12_noSector h a0 x1 x2) (fun x21 => (if (x21 : Int32) = 0 then zbi (gX12_in ((x3 : Int32).toInt64) (-50) 50) (fun x22 => (if (x22 : Int32) = 0 then (some ((-2), h))
  else zbI (gX12_laySector h a0 x1 x2) (fun x23 h1 => (if (0 : Int32) ≤ x23 then zbV (gX12_shiftTo h1 a0 x3) (fun h2 => zbi (gX12_zeros h2 a0) (fun x24 => (some (x24, h2))))
  else (some ((-6), h1))))))
  else (some ((-2), h))))
set_option maxRecDepth 20000 in
theorem cX12_often_ok (l : Launch) (h : Zh) (a0 : Nat) (x1 : Int32) (x2 : Int32) (x3 : Int32) : Zc l yX12_often mX12_often 0 h [(.ref a0, 12), (.int x1, 0), (.int x2, 0), (.int x3, 0)] ((gX12_often h a0 x1 x2 x3).map zoI) := by
  refine zc_of2 (ls := [some (.ref a0, 12), some (.int x1, 0), some (.int x2, 0), some (.int x3, 0)]) (j := 0) (by decide +kernel) rfl rfl (zEn_ca (zEn_ci (zEn_ci (zEn_ci rfl)))) (Nat.le_of_ble_eq_true rfl) rfl ?_
  unfold gX12_often
  refine zr_aload_n (r := (some a0)) (eX12_often 0 rfl) rfl rfl ?_
  refine zr_iload_n (eX12_often 1 rfl) rfl rfl ?_
  refine zr_iload_n (eX12_often 2 rfl) rfl rfl ?_
  refine zr_invV_i (as := [(.int x1, 0), (.int x2, 0)]) (cX12_noSector_ok l h a0 x1 x2) rfl rfl ⟨by decide, by decide, by decide⟩ zcd_X12_noSector rfl ⟨zw_1255, zw_1257, zw_18, zw_62⟩ ⟨Nat.le_of_ble_eq_true rfl, Nat.le_of_ble_eq_true rfl⟩ rfl (Nat.le_of_ble_eq_true rfl) (eX12_often 3 rfl) (fun x21 => ?_)
  refine zr_if_ne (eX12_often 4 rfl) (t := 23) (by decide) ?_ ?_
  · refine zr_bipush (eX12_often 11 rfl) zk_bipush_m2 ?_
    exact zr_iret rfl rfl (eX12_often 12 rfl)
  · refine zr_iload_n (eX12_often 5 rfl) rfl rfl ?_
    refine zr_i2l (eX12_often 6 rfl) ?_
    refine zr_ldc2 (eX12_often 7 rfl) zw_1306 ?_
    refine zr_ldc2 (eX12_often 8 rfl) zw_1307 ?_
    refine zr_invS_i (as := [(.long ((x3 : Int32).toInt64), 0), (.long (-50), 0), (.long 50, 0)]) (cX12_in_ok l h ((x3 : Int32).toInt64) (-50) 50) rfl zcd_X12_in ⟨zw_1203, zw_1204, zw_62⟩ ⟨Nat.le_of_ble_eq_true rfl, Nat.le_of_ble_eq_true rfl⟩ rfl (Nat.le_of_ble_eq_true rfl) (eX12_often 9 rfl) (fun x22 => ?_)
    refine zr_if_ne (eX12_often 10 rfl) (t := 26) (by decide) ?_ ?_
    · refine zr_aload_n (r := (some a0)) (eX12_often 13 rfl) rfl rfl ?_
      refine zr_iload_n (eX12_often 14 rfl) rfl rfl ?_
      refine zr_iload_n (eX12_often 15 rfl) rfl rfl ?_
      refine zr_invV_I (as := [(.int x1, 0), (.int x2, 0)]) (cX12_laySector_ok l h a0 x1 x2) rfl rfl ⟨by decide, by decide, by decide⟩ zcd_X12_laySector rfl ⟨zw_1274, zw_1276, zw_20, zw_62⟩ ⟨Nat.le_of_ble_eq_true rfl, Nat.le_of_ble_eq_true rfl⟩ rfl (Nat.le_of_ble_eq_true rfl) (eX12_often 16 rfl) (fun x23 h1 => ?_)
      refine zr_if_ge (eX12_often 17 rfl) (t := 38) (by decide) ?_ ?_
      · refine zr_aload_n (r := (some a0)) (eX12_often 20 rfl) rfl rfl ?_
        refine zr_iload_n (eX12_often 21 rfl) rfl rfl ?_
        refine zr_invV_V (as := [(.int x3, 0)]) (cX12_shiftTo_ok l h1 a0 x3) rfl rfl ⟨by decide, by decide, by decide⟩ zcd_X12_shiftTo rfl ⟨zw_1308, zw_1310, zw_26, zw_62⟩ ⟨Nat.le_of_ble_eq_true rfl, Nat.le_of_ble_eq_true rfl⟩ rfl (Nat.le_of_ble_eq_true rfl) (eX12_often 22 rfl) (fun h2 => ?_)
        refine zr_aload_n (r := (some a0)) (eX12_often 23 rfl) rfl rfl ?_
        refine zr_invV_i (as := []) (cX12_zeros_ok l h2 a0) rfl rfl ⟨by decide, by decide, by decide⟩ zcd_X12_zeros rfl ⟨zw_1321, zw_1323, zw_28, zw_62⟩ ⟨Nat.le_of_ble_eq_true rfl, Nat.le_of_ble_eq_true rfl⟩ rfl (Nat.le_of_ble_eq_true rfl) (eX12_often 24 rfl) (fun x24 => ?_)
        exact zr_iret rfl rfl (eX12_often 25 rfl)
      · refine zr_bipush (eX12_often 18 rfl) zk_bipush_m6 ?_
        exact zr_iret rfl rfl (eX12_often 19 rfl)
    · refine zr_bipush (eX12_often 11 rfl) zk_bipush_m2 ?_
      exact zr_iret rfl rfl (eX12_often 12 rfl)
def gX12_whole_L1 (a0 : Nat) : (Int32 → Int32 → Zh → Option (Int32 × Zh)) → Int32 → Int32 → Zh → Option (Int32 × Zh) :=
  fun (k24 : Int32 → Int32 → Zh → Option (Int32 × Zh)) (x22 : Int32) (x23 : Int32) (h2 : Zh) => (if (50 : Int32) < x23 then (some (x22, h2))
  else zbV (gX12_shiftTo h2 a0 x23) (fun h3 => zbi (gX12_zeros h3 a0) (fun x25 => zlt (x22 + x25) (fun x26 => k24 x26 (x23 + 1) h3))))
def gX12_whole (h : Zh) (a0 : Nat) (x1 : Int32) (x2 : Int32) : Option (Int32 × Zh) :=
  zbI (gX12_laySector h a0 x1 x2) (fun x21 h1 => (if (0 : Int32) ≤ x21 then zlp (fun (_ : Int32) (_ : Int32) (_ : Zh) => (none : Option (Int32 × Zh))) (gX12_whole_L1 a0) zFU 0 (-50) h1
  else (some (x21, h1))))
set_option maxRecDepth 20000 in
theorem cX12_whole_ok (l : Launch) (h : Zh) (a0 : Nat) (x1 : Int32) (x2 : Int32) : Zc l yX12_whole mX12_whole 0 h [(.ref a0, 12), (.int x1, 0), (.int x2, 0)] ((gX12_whole h a0 x1 x2).map zoI) := by
  refine zc_of2 (ls := [some (.ref a0, 12), some (.int x1, 0), some (.int x2, 0), none, none, none]) (j := 3) (by decide +kernel) rfl rfl (zEn_ca (zEn_ci (zEn_ci rfl))) (Nat.le_of_ble_eq_true rfl) rfl ?_
  unfold gX12_whole
  refine zr_aload_n (r := (some a0)) (eX12_whole 0 rfl) rfl rfl ?_
  refine zr_iload_n (eX12_whole 1 rfl) rfl rfl ?_
  refine zr_iload_n (eX12_whole 2 rfl) rfl rfl ?_
  refine zr_invV_I (as := [(.int x1, 0), (.int x2, 0)]) (cX12_laySector_ok l h a0 x1 x2) rfl rfl ⟨by decide, by decide, by decide⟩ zcd_X12_laySector rfl ⟨zw_1274, zw_1276, zw_20, zw_62⟩ ⟨Nat.le_of_ble_eq_true rfl, Nat.le_of_ble_eq_true rfl⟩ rfl (Nat.le_of_ble_eq_true rfl) (eX12_whole 3 rfl) (fun x21 h1 => ?_)
  refine zr_istore_n (ls2 := [some (.ref a0, 12), some (.int x1, 0), some (.int x2, 0), some (.int x21, 0), none, none]) (eX12_whole 4 rfl) rfl (Nat.le_of_ble_eq_true rfl) rfl ?_
  refine zr_iload_n (eX12_whole 5 rfl) rfl rfl ?_
  refine zr_if_ge (eX12_whole 6 rfl) (t := 13) (by decide) ?_ ?_
  · refine zr_iconst (eX12_whole 9 rfl) zk_iconst_0 ?_
    refine zr_istore (ls2 := [some (.ref a0, 12), some (.int x1, 0), some (.int x2, 0), some (.int x21, 0), some (.int 0, 0), none]) (eX12_whole 10 rfl) (Nat.le_of_ble_eq_true rfl) rfl ?_
    refine zr_bipush (eX12_whole 11 rfl) zk_bipush_m50 ?_
    refine zr_istore (ls2 := [some (.ref a0, 12), some (.int x1, 0), some (.int x2, 0), some (.int x21, 0), some (.int 0, 0), some (.int (-50), 0)]) (eX12_whole 12 rfl) (Nat.le_of_ble_eq_true rfl) rfl ?_
    refine v_drop [true, false, false, false, true, true] rfl ?_
    refine zlp_ind (fun (k24 : Int32 → Int32 → Zh → Option (Int32 × Zh)) => ∀ (x22 : Int32) (x23 : Int32) (h2 : Zh), V l mX12_whole (zN h) (zS h) 0 zoI 20 [some (.ref a0, 12), none, none, none, some (.int x22, 0), some (.int x23, 0)] [] h2 (k24 x22 x23 h2)) ?_ ?_ 0 (-50) h1
    · exact fun _ _ _ => v_none
    intro k24 hk24 x22 x23 h2
    unfold gX12_whole_L1
    refine zr_iload (eX12_whole 13 rfl) rfl ?_
    refine zr_bipush (eX12_whole 14 rfl) zk_bipush_50 ?_
    refine zr_icmp_gt (eX12_whole 15 rfl) (t := 48) (by decide) ?_ ?_
    · refine zr_iload (eX12_whole 26 rfl) rfl ?_
      exact zr_iret rfl rfl (eX12_whole 27 rfl)
    · refine zr_aload_n (r := (some a0)) (eX12_whole 16 rfl) rfl rfl ?_
      refine zr_iload (eX12_whole 17 rfl) rfl ?_
      refine zr_invV_V (as := [(.int x23, 0)]) (cX12_shiftTo_ok l h2 a0 x23) rfl rfl ⟨by decide, by decide, by decide⟩ zcd_X12_shiftTo rfl ⟨zw_1308, zw_1310, zw_26, zw_62⟩ ⟨Nat.le_of_ble_eq_true rfl, Nat.le_of_ble_eq_true rfl⟩ rfl (Nat.le_of_ble_eq_true rfl) (eX12_whole 18 rfl) (fun h3 => ?_)
      refine zr_iload (eX12_whole 19 rfl) rfl ?_
      refine zr_aload_n (r := (some a0)) (eX12_whole 20 rfl) rfl rfl ?_
      refine zr_invV_i (as := []) (cX12_zeros_ok l h3 a0) rfl rfl ⟨by decide, by decide, by decide⟩ zcd_X12_zeros rfl ⟨zw_1321, zw_1323, zw_28, zw_62⟩ ⟨Nat.le_of_ble_eq_true rfl, Nat.le_of_ble_eq_true rfl⟩ rfl (Nat.le_of_ble_eq_true rfl) (eX12_whole 21 rfl) (fun x25 => ?_)
      refine zr_iadd (eX12_whole 22 rfl) ?_
      refine v_leti (fun x26 => ?_)
      refine zr_istore (ls2 := [some (.ref a0, 12), none, none, none, some (.int x26, 0), some (.int x23, 0)]) (eX12_whole 23 rfl) (Nat.le_of_ble_eq_true rfl) rfl ?_
      refine zr_iinc (ls2 := [some (.ref a0, 12), none, none, none, some (.int x26, 0), some (.int (x23 + 1), 0)]) (eX12_whole 24 rfl) rfl (Nat.le_of_ble_eq_true rfl) zk_iconst_1 rfl ?_
      refine zr_goto (eX12_whole 25 rfl) (t := 20) (by decide) ?_
      exact v_drop [true, false, false, false, true, true] rfl (hk24 x26 (x23 + 1) h3)
  · refine zr_iload_n (eX12_whole 7 rfl) rfl rfl ?_
    exact zr_iret rfl rfl (eX12_whole 8 rfl)
def gX12_power_J1 : Zh → Option (Int64 × Zh) :=
  fun (h1 : Zh) => zbj (gX12_lost ) (fun x22 => (some (x22, h1)))
def gX12_power_J2 (a0 : Nat) : Zh → Option (Int64 × Zh) :=
  fun (h4 : Zh) => zbj (gX12_sumOfPower h4 a0) (fun x25 => (some (x25, h4)))
def gX12_power_L3 (a0 : Nat) (x3 : Int32) (k26 : Zh → Option (Int64 × Zh)) : (Int32 → Zh → Option (Int64 × Zh)) → Int32 → Zh → Option (Int64 × Zh) :=
  fun (k28 : Int32 → Zh → Option (Int64 × Zh)) (x27 : Int32) (h5 : Zh) => (if (x3 : Int32) ≤ x27 then k26 h5
  else zbV (gX12_timesTable h5 a0) (fun h6 => k28 (x27 + 1) h6))
def gX12_power (h : Zh) (a0 : Nat) (x1 : Int32) (x2 : Int32) (x3 : Int32) : Option (Int64 × Zh) :=
  zbi (gX12_in ((x3 : Int32).toInt64) 1 4) (fun x21 => zjn gX12_power_J1 (fun (k23 : Zh → Option (Int64 × Zh)) =>
  (if (x21 : Int32) = 0 then k23 h
  else zbI (gX12_laySector h a0 x1 x2) (fun x24 h2 => (if (0 : Int32) ≤ x24 then zbV (gX12_unitPower h2 a0) (fun h3 => zjn (gX12_power_J2 a0) (fun (k26 : Zh → Option (Int64 × Zh)) =>
  zlp (fun (_ : Int32) (_ : Zh) => (none : Option (Int64 × Zh))) (gX12_power_L3 a0 x3 k26) zFU 0 h3))
  else k23 h2)))))
set_option maxRecDepth 20000 in
theorem cX12_power_ok (l : Launch) (h : Zh) (a0 : Nat) (x1 : Int32) (x2 : Int32) (x3 : Int32) : Zc l yX12_power mX12_power 0 h [(.ref a0, 12), (.int x1, 0), (.int x2, 0), (.int x3, 0)] ((gX12_power h a0 x1 x2 x3).map zoJ) := by
  refine zc_of2 (ls := [some (.ref a0, 12), some (.int x1, 0), some (.int x2, 0), some (.int x3, 0), none]) (j := 1) (by decide +kernel) rfl rfl (zEn_ca (zEn_ci (zEn_ci (zEn_ci rfl)))) (Nat.le_of_ble_eq_true rfl) rfl ?_
  unfold gX12_power
  refine zr_iload_n (eX12_power 0 rfl) rfl rfl ?_
  refine zr_i2l (eX12_power 1 rfl) ?_
  refine zr_lconst (eX12_power 2 rfl) zk_lconst_1 ?_
  refine zr_ldc2 (eX12_power 3 rfl) zw_1206 ?_
  refine zr_invS_i (as := [(.long ((x3 : Int32).toInt64), 0), (.long 1, 0), (.long 4, 0)]) (cX12_in_ok l h ((x3 : Int32).toInt64) 1 4) rfl zcd_X12_in ⟨zw_1203, zw_1204, zw_62⟩ ⟨Nat.le_of_ble_eq_true rfl, Nat.le_of_ble_eq_true rfl⟩ rfl (Nat.le_of_ble_eq_true rfl) (eX12_power 4 rfl) (fun x21 => ?_)
  refine v_jn (fun (k23 : Zh → Option (Int64 × Zh)) => ∀ (h1 : Zh), V l mX12_power (zN h) (zS h) 0 zoJ 21 [none, none, none, none, none] [] h1 (k23 h1)) ?_ ?_
  · intro h1
    unfold gX12_power_J1
    refine zr_invS_j (as := []) (cX12_lost_ok l h1 ) rfl zcd_X12_lost ⟨zw_1224, zw_1225, zw_62⟩ ⟨Nat.le_of_ble_eq_true rfl, Nat.le_of_ble_eq_true rfl⟩ rfl (Nat.le_of_ble_eq_true rfl) (eX12_power 11 rfl) (fun x22 => ?_)
    exact zr_lret rfl rfl (eX12_power 12 rfl)
  intro k23 hk23
  refine zr_if_eq (eX12_power 5 rfl) (t := 21) (by decide) ?_ ?_
  · exact v_drop [false, false, false, false, false] rfl (hk23 h)
  · refine zr_aload_n (r := (some a0)) (eX12_power 6 rfl) rfl rfl ?_
    refine zr_iload_n (eX12_power 7 rfl) rfl rfl ?_
    refine zr_iload_n (eX12_power 8 rfl) rfl rfl ?_
    refine zr_invV_I (as := [(.int x1, 0), (.int x2, 0)]) (cX12_laySector_ok l h a0 x1 x2) rfl rfl ⟨by decide, by decide, by decide⟩ zcd_X12_laySector rfl ⟨zw_1274, zw_1276, zw_20, zw_62⟩ ⟨Nat.le_of_ble_eq_true rfl, Nat.le_of_ble_eq_true rfl⟩ rfl (Nat.le_of_ble_eq_true rfl) (eX12_power 9 rfl) (fun x24 h2 => ?_)
    refine zr_if_ge (eX12_power 10 rfl) (t := 25) (by decide) ?_ ?_
    · refine zr_aload_n (r := (some a0)) (eX12_power 13 rfl) rfl rfl ?_
      refine zr_invV_V (as := []) (cX12_unitPower_ok l h2 a0) rfl rfl ⟨by decide, by decide, by decide⟩ zcd_X12_unitPower rfl ⟨zw_1290, zw_1292, zw_23, zw_62⟩ ⟨Nat.le_of_ble_eq_true rfl, Nat.le_of_ble_eq_true rfl⟩ rfl (Nat.le_of_ble_eq_true rfl) (eX12_power 14 rfl) (fun h3 => ?_)
      refine zr_iconst (eX12_power 15 rfl) zk_iconst_0 ?_
      refine zr_istore (ls2 := [some (.ref a0, 12), some (.int x1, 0), some (.int x2, 0), some (.int x3, 0), some (.int 0, 0)]) (eX12_power 16 rfl) (Nat.le_of_ble_eq_true rfl) rfl ?_
      refine v_jn (fun (k26 : Zh → Option (Int64 × Zh)) => ∀ (h4 : Zh), V l mX12_power (zN h) (zS h) 0 zoJ 48 [some (.ref a0, 12), none, none, none, none] [] h4 (k26 h4)) ?_ ?_
      · intro h4
        unfold gX12_power_J2
        refine zr_aload_n (r := (some a0)) (eX12_power 24 rfl) rfl rfl ?_
        refine zr_invV_j (as := []) (cX12_sumOfPower_ok l h4 a0) rfl rfl ⟨by decide, by decide, by decide⟩ zcd_X12_sumOfPower rfl ⟨zw_1298, zw_1300, zw_25, zw_62⟩ ⟨Nat.le_of_ble_eq_true rfl, Nat.le_of_ble_eq_true rfl⟩ rfl (Nat.le_of_ble_eq_true rfl) (eX12_power 25 rfl) (fun x25 => ?_)
        exact zr_lret rfl rfl (eX12_power 26 rfl)
      intro k26 hk26
      refine v_drop [true, false, false, true, true] rfl ?_
      refine zlp_ind (fun (k28 : Int32 → Zh → Option (Int64 × Zh)) => ∀ (x27 : Int32) (h5 : Zh), V l mX12_power (zN h) (zS h) 0 zoJ 32 [some (.ref a0, 12), none, none, some (.int x3, 0), some (.int x27, 0)] [] h5 (k28 x27 h5)) ?_ ?_ 0 h3
      · exact fun _ _ => v_none
      intro k28 hk28 x27 h5
      unfold gX12_power_L3
      refine zr_iload (eX12_power 17 rfl) rfl ?_
      refine zr_iload_n (eX12_power 18 rfl) rfl rfl ?_
      refine zr_icmp_ge (eX12_power 19 rfl) (t := 48) (by decide) ?_ ?_
      · exact v_drop [true, false, false, false, false] rfl (hk26 h5)
      · refine zr_aload_n (r := (some a0)) (eX12_power 20 rfl) rfl rfl ?_
        refine zr_invV_V (as := []) (cX12_timesTable_ok l h5 a0) rfl rfl ⟨by decide, by decide, by decide⟩ zcd_X12_timesTable rfl ⟨zw_1294, zw_1296, zw_24, zw_62⟩ ⟨Nat.le_of_ble_eq_true rfl, Nat.le_of_ble_eq_true rfl⟩ rfl (Nat.le_of_ble_eq_true rfl) (eX12_power 21 rfl) (fun h6 => ?_)
        refine zr_iinc (ls2 := [some (.ref a0, 12), none, none, some (.int x3, 0), some (.int (x27 + 1), 0)]) (eX12_power 22 rfl) rfl (Nat.le_of_ble_eq_true rfl) zk_iconst_1 rfl ?_
        refine zr_goto (eX12_power 23 rfl) (t := 32) (by decide) ?_
        exact v_drop [true, false, false, true, true] rfl (hk28 (x27 + 1) h6)
    · exact v_drop [false, false, false, false, false] rfl (hk23 h2)
def gX12_actOnAll_L1 (a0 : Nat) : (Int32 → Zh → Option (Zh)) → Int32 → Zh → Option (Zh) :=
  fun (k22 : Int32 → Zh → Option (Zh)) (x21 : Int32) (h3 : Zh) => zbi (gX12_stateMany h3 a0) (fun x23 => (if (x23 : Int32) ≤ x21 then some h3
  else zlt (zR h3 a0 16) (fun r24 => zlt (zR h3 a0 17) (fun r25 => Option.bind r25 (fun a26 => zg (zin x21 (zL h3 a26)) (Option.bind r24 (fun a27 => zg (zin x21 (zL h3 a27)) (zlt (zsJ h3 a27 (zx x21) (zJ h3 a26 (zx x21))) (fun (h4 : Zh) => k22 (x21 + 1) h4)))))))))
def gX12_actOnAll_J2 (a0 : Nat) : Zh → Option (Zh) :=
  fun (h2 : Zh) => zlp (fun (_ : Int32) (_ : Zh) => (none : Option (Zh))) (gX12_actOnAll_L1 a0) zFU 0 h2
def gX12_actOnAll_J3 (x29 : Int32) (k30 : Int32 → Zh → Option (Zh)) : Zh → Option (Zh) :=
  fun (h6 : Zh) => k30 (x29 + 1) h6
def gX12_actOnAll_J4 (x33 : Int32) (k34 : Int32 → Zh → Option (Zh)) : Zh → Option (Zh) :=
  fun (h9 : Zh) => k34 (x33 + 1) h9
def gX12_actOnAll_J5 (a0 : Nat) (x29 : Int32) (x33 : Int32) (h7 : Zh) (k34 : Int32 → Zh → Option (Zh)) (x38 : Int32) (x39 : Int32) (a41 : Nat) : Int32 → Option (Zh) :=
  fun (x42 : Int32) => zlt (zR h7 a0 16) (fun r43 => Option.bind r43 (fun a44 => zg (zin x29 (zL h7 a44)) (zg (zin x29 (zL h7 a41)) (zlt (zsJ h7 a41 (zx x29) ((zJ h7 a41 (zx x29)) + (((x42 : Int32).toInt64) * (zJ h7 a44 (zx x29))))) (fun (h8 : Zh) => zjn (gX12_actOnAll_J4 x33 k34) (fun (k45 : Zh → Option (Zh)) =>
  (if (x39 : Int32) = 0 then zlt (zR h8 a0 17) (fun r46 => zlt ((x29 ^^^ ((1 : Int32) <<< (x33 &&& 31))) ^^^ ((1 : Int32) <<< (x38 &&& 31))) (fun x47 => Option.bind r46 (fun a48 => zg (zin x47 (zL h8 a48)) (zlt (zR h8 a0 16) (fun r49 => Option.bind r49 (fun a50 => zg (zin x29 (zL h8 a50)) (zg (zin x47 (zL h8 a48)) (zlt (zsJ h8 a48 (zx x47) ((zJ h8 a48 (zx x47)) + ((((zI h8 a0 3) : Int32).toInt64) * (zJ h8 a50 (zx x29))))) (fun (h10 : Zh) => k45 h10)))))))))
  else k45 h8)))))))
def gX12_actOnAll_L6 (a0 : Nat) (x29 : Int32) (k32 : Zh → Option (Zh)) : (Int32 → Zh → Option (Zh)) → Int32 → Zh → Option (Zh) :=
  fun (k34 : Int32 → Zh → Option (Zh)) (x33 : Int32) (h7 : Zh) => zbi (gX12_pairMany h7 a0) (fun x35 => (if (x35 : Int32) ≤ x33 then k32 h7
  else zlt (zR h7 a0 16) (fun r36 => Option.bind r36 (fun a37 => zg (zin x29 (zL h7 a37)) ((if ((lg_cmp (zJ h7 a37 (zx x29)) 0) : Int32) = 0 then k32 h7
  else (if ((zI h7 a0 1) : Int32) = 0 then none else zlt ((x33 + 1) - (x33 + 1) / (zI h7 a0 1) * (zI h7 a0 1)) (fun x38 => zbi (gX12_areAlike a0 x29 x33 x38) (fun x39 => zlt (zR h7 a0 17) (fun r40 => Option.bind r40 (fun a41 => zg (zin x29 (zL h7 a41)) (zjn (gX12_actOnAll_J5 a0 x29 x33 h7 k34 x38 x39 a41) (fun (k51 : Int32 → Option (Zh)) =>
  (if (x39 : Int32) = 0 then k51 (-(zI h7 a0 4))
  else k51 (zI h7 a0 4)))))))))))))))
def gX12_actOnAll_L7 (a0 : Nat) (k28 : Zh → Option (Zh)) : (Int32 → Zh → Option (Zh)) → Int32 → Zh → Option (Zh) :=
  fun (k30 : Int32 → Zh → Option (Zh)) (x29 : Int32) (h5 : Zh) => zbi (gX12_stateMany h5 a0) (fun x31 => (if (x31 : Int32) ≤ x29 then k28 h5
  else zjn (gX12_actOnAll_J3 x29 k30) (fun (k32 : Zh → Option (Zh)) =>
  zlp (fun (_ : Int32) (_ : Zh) => (none : Option (Zh))) (gX12_actOnAll_L6 a0 x29 k32) zFU 0 h5)))
def gX12_actOnAll_J8 (a0 : Nat) : Zh → Option (Zh) :=
  fun (h1 : Zh) => zjn (gX12_actOnAll_J2 a0) (fun (k28 : Zh → Option (Zh)) =>
  zlp (fun (_ : Int32) (_ : Zh) => (none : Option (Zh))) (gX12_actOnAll_L7 a0 k28) zFU 0 h1)
def gX12_actOnAll_L9 (a0 : Nat) (k52 : Zh → Option (Zh)) : (Int32 → Zh → Option (Zh)) → Int32 → Zh → Option (Zh) :=
  fun (k54 : Int32 → Zh → Option (Zh)) (x53 : Int32) (h11 : Zh) => zbi (gX12_stateMany h11 a0) (fun x55 => (if (x55 : Int32) ≤ x53 then k52 h11
  else zlt (zR h11 a0 17) (fun r56 => Option.bind r56 (fun a57 => zg (zin x53 (zL h11 a57)) (zlt (zsJ h11 a57 (zx x53) 0) (fun (h12 : Zh) => k54 (x53 + 1) h12))))))
def gX12_actOnAll (h : Zh) (a0 : Nat) : Option (Zh) :=
  zjn (gX12_actOnAll_J8 a0) (fun (k52 : Zh → Option (Zh)) =>
  zlp (fun (_ : Int32) (_ : Zh) => (none : Option (Zh))) (gX12_actOnAll_L9 a0 k52) zFU 0 h)
set_option maxRecDepth 20000 in
theorem cX12_actOnAll_ok (l : Launch) (h : Zh) (a0 : Nat) : Zc l yX12_actOnAll mX12_actOnAll 0 h [(.ref a0, 12)] ((gX12_actOnAll h a0).map zoV) := by
  refine zc_of2 (ls := [some (.ref a0, 12), none, none, none, none]) (j := 4) (by decide +kernel) rfl rfl (zEn_ca rfl) (Nat.le_of_ble_eq_true rfl) rfl ?_
  unfold gX12_actOnAll
  refine zr_iconst (eX12_actOnAll 0 rfl) zk_iconst_0 ?_
  refine zr_istore_n (ls2 := [some (.ref a0, 12), some (.int 0, 0), none, none, none]) (eX12_actOnAll 1 rfl) rfl (Nat.le_of_ble_eq_true rfl) rfl ?_
  refine v_jn (fun (k52 : Zh → Option (Zh)) => ∀ (h1 : Zh), V l mX12_actOnAll (zN h) (zS h) 0 zoV 23 [some (.ref a0, 12), none, none, none, none] [] h1 (k52 h1)) ?_ ?_
  · intro h1
    unfold gX12_actOnAll_J8
    refine zr_iconst (eX12_actOnAll 13 rfl) zk_iconst_0 ?_
    refine zr_istore_n (ls2 := [some (.ref a0, 12), some (.int 0, 0), none, none, none]) (eX12_actOnAll 14 rfl) rfl (Nat.le_of_ble_eq_true rfl) rfl ?_
    refine v_jn (fun (k28 : Zh → Option (Zh)) => ∀ (h2 : Zh), V l mX12_actOnAll (zN h) (zS h) 0 zoV 152 [some (.ref a0, 12), none, none, none, none] [] h2 (k28 h2)) ?_ ?_
    · intro h2
      unfold gX12_actOnAll_J2
      refine zr_iconst (eX12_actOnAll 95 rfl) zk_iconst_0 ?_
      refine zr_istore_n (ls2 := [some (.ref a0, 12), some (.int 0, 0), none, none, none]) (eX12_actOnAll 96 rfl) rfl (Nat.le_of_ble_eq_true rfl) rfl ?_
      refine v_drop [true, true, false, false, false] rfl ?_
      refine zlp_ind (fun (k22 : Int32 → Zh → Option (Zh)) => ∀ (x21 : Int32) (h3 : Zh), V l mX12_actOnAll (zN h) (zS h) 0 zoV 154 [some (.ref a0, 12), some (.int x21, 0), none, none, none] [] h3 (k22 x21 h3)) ?_ ?_ 0 h2
      · exact fun _ _ => v_none
      intro k22 hk22 x21 h3
      unfold gX12_actOnAll_L1
      refine zr_iload_n (eX12_actOnAll 97 rfl) rfl rfl ?_
      refine zr_aload_n (r := (some a0)) (eX12_actOnAll 98 rfl) rfl rfl ?_
      refine zr_invV_i (as := []) (cX12_stateMany_ok l h3 a0) rfl rfl ⟨by decide, by decide, by decide⟩ zcd_X12_stateMany rfl ⟨zw_1212, zw_1214, zw_12, zw_62⟩ ⟨Nat.le_of_ble_eq_true rfl, Nat.le_of_ble_eq_true rfl⟩ rfl (Nat.le_of_ble_eq_true rfl) (eX12_actOnAll 99 rfl) (fun x23 => ?_)
      refine zr_icmp_ge (eX12_actOnAll 100 rfl) (t := 180) (by decide) ?_ ?_
      · exact zr_vret rfl rfl (eX12_actOnAll 111 rfl)
      · refine zr_aload_n (r := (some a0)) (eX12_actOnAll 101 rfl) rfl rfl ?_
        refine zr_getR2 zf_RX12_41 (τ2 := 21) rfl (eX12_actOnAll 102 rfl) ?_
        refine v_letr (fun r24 => ?_)
        refine zr_iload_n (eX12_actOnAll 103 rfl) rfl rfl ?_
        refine zr_aload_n (r := (some a0)) (eX12_actOnAll 104 rfl) rfl rfl ?_
        refine zr_getR2 zf_RX12_44 (τ2 := 21) rfl (eX12_actOnAll 105 rfl) ?_
        refine v_letr (fun r25 => ?_)
        refine zr_iload_n (eX12_actOnAll 106 rfl) rfl rfl ?_
        refine v_nn (fun a26 ea26 => ?_)
        subst ea26
        refine zr_lald (eX12_actOnAll 107 rfl) ?_
        refine v_nn (fun a27 ea27 => ?_)
        subst ea27
        refine zr_last (eX12_actOnAll 108 rfl) ?_
        refine v_leth (fun h4 => ?_)
        refine zr_iinc (ls2 := [some (.ref a0, 12), some (.int (x21 + 1), 0), none, none, none]) (eX12_actOnAll 109 rfl) rfl (Nat.le_of_ble_eq_true rfl) zk_iconst_1 rfl ?_
        refine zr_goto (eX12_actOnAll 110 rfl) (t := 154) (by decide) ?_
        exact v_drop [true, true, false, false, false] rfl (hk22 (x21 + 1) h4)
    intro k28 hk28
    refine v_drop [true, true, false, false, false] rfl ?_
    refine zlp_ind (fun (k30 : Int32 → Zh → Option (Zh)) => ∀ (x29 : Int32) (h5 : Zh), V l mX12_actOnAll (zN h) (zS h) 0 zoV 25 [some (.ref a0, 12), some (.int x29, 0), none, none, none] [] h5 (k30 x29 h5)) ?_ ?_ 0 h1
    · exact fun _ _ => v_none
    intro k30 hk30 x29 h5
    unfold gX12_actOnAll_L7
    refine zr_iload_n (eX12_actOnAll 15 rfl) rfl rfl ?_
    refine zr_aload_n (r := (some a0)) (eX12_actOnAll 16 rfl) rfl rfl ?_
    refine zr_invV_i (as := []) (cX12_stateMany_ok l h5 a0) rfl rfl ⟨by decide, by decide, by decide⟩ zcd_X12_stateMany rfl ⟨zw_1212, zw_1214, zw_12, zw_62⟩ ⟨Nat.le_of_ble_eq_true rfl, Nat.le_of_ble_eq_true rfl⟩ rfl (Nat.le_of_ble_eq_true rfl) (eX12_actOnAll 17 rfl) (fun x31 => ?_)
    refine zr_icmp_ge (eX12_actOnAll 18 rfl) (t := 152) (by decide) ?_ ?_
    · exact v_drop [true, false, false, false, false] rfl (hk28 h5)
    · refine zr_iconst (eX12_actOnAll 19 rfl) zk_iconst_0 ?_
      refine zr_istore_n (ls2 := [some (.ref a0, 12), some (.int x29, 0), some (.int 0, 0), none, none]) (eX12_actOnAll 20 rfl) rfl (Nat.le_of_ble_eq_true rfl) rfl ?_
      refine v_jn (fun (k32 : Zh → Option (Zh)) => ∀ (h6 : Zh), V l mX12_actOnAll (zN h) (zS h) 0 zoV 146 [some (.ref a0, 12), some (.int x29, 0), none, none, none] [] h6 (k32 h6)) ?_ ?_
      · intro h6
        unfold gX12_actOnAll_J3
        refine zr_iinc (ls2 := [some (.ref a0, 12), some (.int (x29 + 1), 0), none, none, none]) (eX12_actOnAll 93 rfl) rfl (Nat.le_of_ble_eq_true rfl) zk_iconst_1 rfl ?_
        refine zr_goto (eX12_actOnAll 94 rfl) (t := 25) (by decide) ?_
        exact v_drop [true, true, false, false, false] rfl (hk30 (x29 + 1) h6)
      intro k32 hk32
      refine v_drop [true, true, true, false, false] rfl ?_
      refine zlp_ind (fun (k34 : Int32 → Zh → Option (Zh)) => ∀ (x33 : Int32) (h7 : Zh), V l mX12_actOnAll (zN h) (zS h) 0 zoV 35 [some (.ref a0, 12), some (.int x29, 0), some (.int x33, 0), none, none] [] h7 (k34 x33 h7)) ?_ ?_ 0 h5
      · exact fun _ _ => v_none
      intro k34 hk34 x33 h7
      unfold gX12_actOnAll_L6
      refine zr_iload_n (eX12_actOnAll 21 rfl) rfl rfl ?_
      refine zr_aload_n (r := (some a0)) (eX12_actOnAll 22 rfl) rfl rfl ?_
      refine zr_invV_i (as := []) (cX12_pairMany_ok l h7 a0) rfl rfl ⟨by decide, by decide, by decide⟩ zcd_X12_pairMany rfl ⟨zw_1232, zw_1234, zw_15, zw_62⟩ ⟨Nat.le_of_ble_eq_true rfl, Nat.le_of_ble_eq_true rfl⟩ rfl (Nat.le_of_ble_eq_true rfl) (eX12_actOnAll 23 rfl) (fun x35 => ?_)
      refine zr_icmp_ge (eX12_actOnAll 24 rfl) (t := 146) (by decide) ?_ ?_
      · exact v_drop [true, true, false, false, false] rfl (hk32 h7)
      · refine zr_aload_n (r := (some a0)) (eX12_actOnAll 25 rfl) rfl rfl ?_
        refine zr_getR2 zf_RX12_41 (τ2 := 21) rfl (eX12_actOnAll 26 rfl) ?_
        refine v_letr (fun r36 => ?_)
        refine zr_iload_n (eX12_actOnAll 27 rfl) rfl rfl ?_
        refine v_nn (fun a37 ea37 => ?_)
        subst ea37
        refine zr_lald (eX12_actOnAll 28 rfl) ?_
        refine zr_lconst (eX12_actOnAll 29 rfl) zk_lconst_0 ?_
        refine zr_lcmp (eX12_actOnAll 30 rfl) ?_
        refine zr_if_eq (eX12_actOnAll 31 rfl) (t := 146) (by decide) ?_ ?_
        · exact v_drop [true, true, false, false, false] rfl (hk32 h7)
        · refine zr_iload_n (eX12_actOnAll 32 rfl) rfl rfl ?_
          refine zr_iconst (eX12_actOnAll 33 rfl) zk_iconst_1 ?_
          refine zr_iadd (eX12_actOnAll 34 rfl) ?_
          refine zr_aload_n (r := (some a0)) (eX12_actOnAll 35 rfl) rfl rfl ?_
          refine zr_getI zf_RX12_111 ⟨by decide, by decide⟩ (eX12_actOnAll 36 rfl) ?_
          refine zr_irem (eX12_actOnAll 37 rfl) ?_
          refine v_leti (fun x38 => ?_)
          refine zr_istore_n (ls2 := [some (.ref a0, 12), some (.int x29, 0), some (.int x33, 0), some (.int x38, 0), none]) (eX12_actOnAll 38 rfl) rfl (Nat.le_of_ble_eq_true rfl) rfl ?_
          refine zr_aload_n (r := (some a0)) (eX12_actOnAll 39 rfl) rfl rfl ?_
          refine zr_iload_n (eX12_actOnAll 40 rfl) rfl rfl ?_
          refine zr_iload_n (eX12_actOnAll 41 rfl) rfl rfl ?_
          refine zr_iload_n (eX12_actOnAll 42 rfl) rfl rfl ?_
          refine zr_invV_i (as := [(.int x29, 0), (.int x33, 0), (.int x38, 0)]) (cX12_areAlike_ok l h7 a0 x29 x33 x38) rfl rfl ⟨by decide, by decide, by decide⟩ zcd_X12_areAlike rfl ⟨zw_1236, zw_1238, zw_16, zw_62⟩ ⟨Nat.le_of_ble_eq_true rfl, Nat.le_of_ble_eq_true rfl⟩ rfl (Nat.le_of_ble_eq_true rfl) (eX12_actOnAll 43 rfl) (fun x39 => ?_)
          refine zr_istore (ls2 := [some (.ref a0, 12), some (.int x29, 0), some (.int x33, 0), some (.int x38, 0), some (.int x39, 0)]) (eX12_actOnAll 44 rfl) (Nat.le_of_ble_eq_true rfl) rfl ?_
          refine zr_aload_n (r := (some a0)) (eX12_actOnAll 45 rfl) rfl rfl ?_
          refine zr_getR2 zf_RX12_44 (τ2 := 21) rfl (eX12_actOnAll 46 rfl) ?_
          refine v_letr (fun r40 => ?_)
          refine zr_iload_n (eX12_actOnAll 47 rfl) rfl rfl ?_
          refine v_nn (fun a41 ea41 => ?_)
          subst ea41
          refine zr_dup2 (eX12_actOnAll 48 rfl) rfl rfl ?_
          refine zr_lald (eX12_actOnAll 49 rfl) ?_
          refine zr_iload (eX12_actOnAll 50 rfl) rfl ?_
          refine v_jn (fun (k51 : Int32 → Option (Zh)) => ∀ (x42 : Int32), V l mX12_actOnAll (zN h) (zS h) 0 zoV 96 [some (.ref a0, 12), some (.int x29, 0), some (.int x33, 0), some (.int x38, 0), some (.int x39, 0)] [(.int x42, 0), (.long (zJ h7 a41 (zx x29)), 0), (.int x29, 0), (.ref a41, 21)] h7 (k51 x42)) ?_ ?_
          · intro x42
            unfold gX12_actOnAll_J5
            refine zr_i2l (eX12_actOnAll 58 rfl) ?_
            refine zr_aload_n (r := (some a0)) (eX12_actOnAll 59 rfl) rfl rfl ?_
            refine zr_getR2 zf_RX12_41 (τ2 := 21) rfl (eX12_actOnAll 60 rfl) ?_
            refine v_letr (fun r43 => ?_)
            refine zr_iload_n (eX12_actOnAll 61 rfl) rfl rfl ?_
            refine v_nn (fun a44 ea44 => ?_)
            subst ea44
            refine zr_lald (eX12_actOnAll 62 rfl) ?_
            refine zr_lmul (eX12_actOnAll 63 rfl) ?_
            refine zr_ladd (eX12_actOnAll 64 rfl) ?_
            refine zr_last (eX12_actOnAll 65 rfl) ?_
            refine v_leth (fun h8 => ?_)
            refine zr_iload (eX12_actOnAll 66 rfl) rfl ?_
            refine v_jn (fun (k45 : Zh → Option (Zh)) => ∀ (h9 : Zh), V l mX12_actOnAll (zN h) (zS h) 0 zoV 140 [some (.ref a0, 12), some (.int x29, 0), some (.int x33, 0), none, none] [] h9 (k45 h9)) ?_ ?_
            · intro h9
              unfold gX12_actOnAll_J4
              refine zr_iinc (ls2 := [some (.ref a0, 12), some (.int x29, 0), some (.int (x33 + 1), 0), none, none]) (eX12_actOnAll 91 rfl) rfl (Nat.le_of_ble_eq_true rfl) zk_iconst_1 rfl ?_
              refine zr_goto (eX12_actOnAll 92 rfl) (t := 35) (by decide) ?_
              exact v_drop [true, true, true, false, false] rfl (hk34 (x33 + 1) h9)
            intro k45 hk45
            refine zr_if_ne (eX12_actOnAll 67 rfl) (t := 140) (by decide) ?_ ?_
            · exact v_drop [true, true, true, false, false] rfl (hk45 h8)
            · refine zr_aload_n (r := (some a0)) (eX12_actOnAll 68 rfl) rfl rfl ?_
              refine zr_getR2 zf_RX12_44 (τ2 := 21) rfl (eX12_actOnAll 69 rfl) ?_
              refine v_letr (fun r46 => ?_)
              refine zr_iload_n (eX12_actOnAll 70 rfl) rfl rfl ?_
              refine zr_iconst (eX12_actOnAll 71 rfl) zk_iconst_1 ?_
              refine zr_iload_n (eX12_actOnAll 72 rfl) rfl rfl ?_
              refine zr_ishl (eX12_actOnAll 73 rfl) ?_
              refine zr_ixor (eX12_actOnAll 74 rfl) ?_
              refine zr_iconst (eX12_actOnAll 75 rfl) zk_iconst_1 ?_
              refine zr_iload_n (eX12_actOnAll 76 rfl) rfl rfl ?_
              refine zr_ishl (eX12_actOnAll 77 rfl) ?_
              refine zr_ixor (eX12_actOnAll 78 rfl) ?_
              refine v_leti (fun x47 => ?_)
              refine v_nn (fun a48 ea48 => ?_)
              subst ea48
              refine zr_dup2 (eX12_actOnAll 79 rfl) rfl rfl ?_
              refine zr_lald (eX12_actOnAll 80 rfl) ?_
              refine zr_aload_n (r := (some a0)) (eX12_actOnAll 81 rfl) rfl rfl ?_
              refine zr_getI zf_RX12_119 ⟨by decide, by decide⟩ (eX12_actOnAll 82 rfl) ?_
              refine zr_i2l (eX12_actOnAll 83 rfl) ?_
              refine zr_aload_n (r := (some a0)) (eX12_actOnAll 84 rfl) rfl rfl ?_
              refine zr_getR2 zf_RX12_41 (τ2 := 21) rfl (eX12_actOnAll 85 rfl) ?_
              refine v_letr (fun r49 => ?_)
              refine zr_iload_n (eX12_actOnAll 86 rfl) rfl rfl ?_
              refine v_nn (fun a50 ea50 => ?_)
              subst ea50
              refine zr_lald (eX12_actOnAll 87 rfl) ?_
              refine zr_lmul (eX12_actOnAll 88 rfl) ?_
              refine zr_ladd (eX12_actOnAll 89 rfl) ?_
              refine zr_last (eX12_actOnAll 90 rfl) ?_
              refine v_leth (fun h10 => ?_)
              exact v_drop [true, true, true, false, false] rfl (hk45 h10)
          intro k51 hk51
          refine zr_if_eq (eX12_actOnAll 51 rfl) (t := 91) (by decide) ?_ ?_
          · refine zr_aload_n (r := (some a0)) (eX12_actOnAll 55 rfl) rfl rfl ?_
            refine zr_getI zf_RX12_122 ⟨by decide, by decide⟩ (eX12_actOnAll 56 rfl) ?_
            refine zr_ineg (eX12_actOnAll 57 rfl) ?_
            exact v_drop [true, true, true, true, true] rfl (hk51 (-(zI h7 a0 4)))
          · refine zr_aload_n (r := (some a0)) (eX12_actOnAll 52 rfl) rfl rfl ?_
            refine zr_getI zf_RX12_122 ⟨by decide, by decide⟩ (eX12_actOnAll 53 rfl) ?_
            refine zr_goto (eX12_actOnAll 54 rfl) (t := 96) (by decide) ?_
            exact v_drop [true, true, true, true, true] rfl (hk51 (zI h7 a0 4))
  intro k52 hk52
  refine v_drop [true, true, false, false, false] rfl ?_
  refine zlp_ind (fun (k54 : Int32 → Zh → Option (Zh)) => ∀ (x53 : Int32) (h11 : Zh), V l mX12_actOnAll (zN h) (zS h) 0 zoV 2 [some (.ref a0, 12), some (.int x53, 0), none, none, none] [] h11 (k54 x53 h11)) ?_ ?_ 0 h
  · exact fun _ _ => v_none
  intro k54 hk54 x53 h11
  unfold gX12_actOnAll_L9
  refine zr_iload_n (eX12_actOnAll 2 rfl) rfl rfl ?_
  refine zr_aload_n (r := (some a0)) (eX12_actOnAll 3 rfl) rfl rfl ?_
  refine zr_invV_i (as := []) (cX12_stateMany_ok l h11 a0) rfl rfl ⟨by decide, by decide, by decide⟩ zcd_X12_stateMany rfl ⟨zw_1212, zw_1214, zw_12, zw_62⟩ ⟨Nat.le_of_ble_eq_true rfl, Nat.le_of_ble_eq_true rfl⟩ rfl (Nat.le_of_ble_eq_true rfl) (eX12_actOnAll 4 rfl) (fun x55 => ?_)
  refine zr_icmp_ge (eX12_actOnAll 5 rfl) (t := 23) (by decide) ?_ ?_
  · exact v_drop [true, false, false, false, false] rfl (hk52 h11)
  · refine zr_aload_n (r := (some a0)) (eX12_actOnAll 6 rfl) rfl rfl ?_
    refine zr_getR2 zf_RX12_44 (τ2 := 21) rfl (eX12_actOnAll 7 rfl) ?_
    refine v_letr (fun r56 => ?_)
    refine zr_iload_n (eX12_actOnAll 8 rfl) rfl rfl ?_
    refine zr_lconst (eX12_actOnAll 9 rfl) zk_lconst_0 ?_
    refine v_nn (fun a57 ea57 => ?_)
    subst ea57
    refine zr_last (eX12_actOnAll 10 rfl) ?_
    refine v_leth (fun h12 => ?_)
    refine zr_iinc (ls2 := [some (.ref a0, 12), some (.int (x53 + 1), 0), none, none, none]) (eX12_actOnAll 11 rfl) rfl (Nat.le_of_ble_eq_true rfl) zk_iconst_1 rfl ?_
    refine zr_goto (eX12_actOnAll 12 rfl) (t := 2) (by decide) ?_
    exact v_drop [true, true, false, false, false] rfl (hk54 (x53 + 1) h12)
def gX12_powerOf_J1 (h : Zh) : Option (Int64 × Zh) :=
  zbj (gX12_lost ) (fun x22 => (some (x22, h)))
def gX12_powerOf_J2 (x26 : Int32) (k27 : Int64 → Int32 → Zh → Option (Int64 × Zh)) : Int64 → Zh → Option (Int64 × Zh) :=
  fun (x30 : Int64) (h2 : Zh) => k27 x30 (x26 + 1) h2
def gX12_powerOf_J3 (a0 : Nat) (x25 : Int64) (x26 : Int32) (k31 : Int64 → Zh → Option (Int64 × Zh)) : Zh → Option (Int64 × Zh) :=
  fun (h4 : Zh) => zlt (zR h4 a0 16) (fun r32 => Option.bind r32 (fun a33 => zg (zin x26 (zL h4 a33)) (zlt (x25 + (zJ h4 a33 (zx x26))) (fun x34 => k31 x34 h4))))
def gX12_powerOf_L4 (a0 : Nat) (x2 : Int32) (k35 : Zh → Option (Int64 × Zh)) : (Int32 → Zh → Option (Int64 × Zh)) → Int32 → Zh → Option (Int64 × Zh) :=
  fun (k37 : Int32 → Zh → Option (Int64 × Zh)) (x36 : Int32) (h5 : Zh) => (if (x2 : Int32) ≤ x36 then k35 h5
  else zbV (gX12_actOnAll h5 a0) (fun h6 => k37 (x36 + 1) h6))
def gX12_powerOf_J5 (a0 : Nat) (x2 : Int32) (x25 : Int64) (x26 : Int32) (k31 : Int64 → Zh → Option (Int64 × Zh)) : Zh → Option (Int64 × Zh) :=
  fun (h3 : Zh) => zjn (gX12_powerOf_J3 a0 x25 x26 k31) (fun (k35 : Zh → Option (Int64 × Zh)) =>
  zlp (fun (_ : Int32) (_ : Zh) => (none : Option (Int64 × Zh))) (gX12_powerOf_L4 a0 x2 k35) zFU 0 h3)
def gX12_powerOf_J6 (x39 : Int32) (h7 : Zh) (k40 : Int32 → Zh → Option (Int64 × Zh)) (r42 : Option Nat) : Int64 → Option (Int64 × Zh) :=
  fun (x43 : Int64) => Option.bind r42 (fun a44 => zg (zin x39 (zL h7 a44)) (zlt (zsJ h7 a44 (zx x39) x43) (fun (h8 : Zh) => k40 (x39 + 1) h8)))
def gX12_powerOf_L7 (a0 : Nat) (x26 : Int32) (k38 : Zh → Option (Int64 × Zh)) : (Int32 → Zh → Option (Int64 × Zh)) → Int32 → Zh → Option (Int64 × Zh) :=
  fun (k40 : Int32 → Zh → Option (Int64 × Zh)) (x39 : Int32) (h7 : Zh) => zbi (gX12_stateMany h7 a0) (fun x41 => (if (x41 : Int32) ≤ x39 then k38 h7
  else zlt (zR h7 a0 16) (fun r42 => zjn (gX12_powerOf_J6 x39 h7 k40 r42) (fun (k45 : Int64 → Option (Int64 × Zh)) =>
  (if (x39 : Int32) = x26 then k45 1
  else k45 0)))))
def gX12_powerOf_L8 (a0 : Nat) (x1 : Int32) (x2 : Int32) : (Int64 → Int32 → Zh → Option (Int64 × Zh)) → Int64 → Int32 → Zh → Option (Int64 × Zh) :=
  fun (k27 : Int64 → Int32 → Zh → Option (Int64 × Zh)) (x25 : Int64) (x26 : Int32) (h1 : Zh) => zbi (gX12_stateMany h1 a0) (fun x28 => (if (x28 : Int32) ≤ x26 then (some (x25, h1))
  else zbi (gX12_count x26) (fun x29 => zjn (gX12_powerOf_J2 x26 k27) (fun (k31 : Int64 → Zh → Option (Int64 × Zh)) =>
  (if (x29 : Int32) = x1 then zjn (gX12_powerOf_J5 a0 x2 x25 x26 k31) (fun (k38 : Zh → Option (Int64 × Zh)) =>
  zlp (fun (_ : Int32) (_ : Zh) => (none : Option (Int64 × Zh))) (gX12_powerOf_L7 a0 x26 k38) zFU 0 h1)
  else k31 x25 h1)))))
def gX12_powerOf (h : Zh) (a0 : Nat) (x1 : Int32) (x2 : Int32) : Option (Int64 × Zh) :=
  zbi (gX12_in ((x1 : Int32).toInt64) 0 (((zI h a0 1) : Int32).toInt64)) (fun x21 => zjn (gX12_powerOf_J1 h) (fun (k23 : Option (Int64 × Zh)) =>
  (if (x21 : Int32) = 0 then k23
  else zbi (gX12_in ((x2 : Int32).toInt64) 1 4) (fun x24 => (if (x24 : Int32) = 0 then k23
  else zlp (fun (_ : Int64) (_ : Int32) (_ : Zh) => (none : Option (Int64 × Zh))) (gX12_powerOf_L8 a0 x1 x2) zFU 0 0 h)))))
set_option maxRecDepth 20000 in
theorem cX12_powerOf_ok (l : Launch) (h : Zh) (a0 : Nat) (x1 : Int32) (x2 : Int32) : Zc l yX12_powerOf mX12_powerOf 0 h [(.ref a0, 12), (.int x1, 0), (.int x2, 0)] ((gX12_powerOf h a0 x1 x2).map zoJ) := by
  refine zc_of2 (ls := [some (.ref a0, 12), some (.int x1, 0), some (.int x2, 0), none, none, none, none]) (j := 4) (by decide +kernel) rfl rfl (zEn_ca (zEn_ci (zEn_ci rfl))) (Nat.le_of_ble_eq_true rfl) rfl ?_
  unfold gX12_powerOf
  refine zr_iload_n (eX12_powerOf 0 rfl) rfl rfl ?_
  refine zr_i2l (eX12_powerOf 1 rfl) ?_
  refine zr_lconst (eX12_powerOf 2 rfl) zk_lconst_0 ?_
  refine zr_aload_n (r := (some a0)) (eX12_powerOf 3 rfl) rfl rfl ?_
  refine zr_getI zf_RX12_111 ⟨by decide, by decide⟩ (eX12_powerOf 4 rfl) ?_
  refine zr_i2l (eX12_powerOf 5 rfl) ?_
  refine zr_invS_i (as := [(.long ((x1 : Int32).toInt64), 0), (.long 0, 0), (.long (((zI h a0 1) : Int32).toInt64), 0)]) (cX12_in_ok l h ((x1 : Int32).toInt64) 0 (((zI h a0 1) : Int32).toInt64)) rfl zcd_X12_in ⟨zw_1203, zw_1204, zw_62⟩ ⟨Nat.le_of_ble_eq_true rfl, Nat.le_of_ble_eq_true rfl⟩ rfl (Nat.le_of_ble_eq_true rfl) (eX12_powerOf 6 rfl) (fun x21 => ?_)
  refine v_jn (fun (k23 : Option (Int64 × Zh)) => V l mX12_powerOf (zN h) (zS h) 0 zoJ 26 [none, none, none, none, none, none, none] [] h k23) ?_ ?_
  · skip
    unfold gX12_powerOf_J1
    refine zr_invS_j (as := []) (cX12_lost_ok l h ) rfl zcd_X12_lost ⟨zw_1224, zw_1225, zw_62⟩ ⟨Nat.le_of_ble_eq_true rfl, Nat.le_of_ble_eq_true rfl⟩ rfl (Nat.le_of_ble_eq_true rfl) (eX12_powerOf 14 rfl) (fun x22 => ?_)
    exact zr_lret rfl rfl (eX12_powerOf 15 rfl)
  intro k23 hk23
  refine zr_if_eq (eX12_powerOf 7 rfl) (t := 26) (by decide) ?_ ?_
  · exact v_drop [false, false, false, false, false, false, false] rfl (hk23)
  · refine zr_iload_n (eX12_powerOf 8 rfl) rfl rfl ?_
    refine zr_i2l (eX12_powerOf 9 rfl) ?_
    refine zr_lconst (eX12_powerOf 10 rfl) zk_lconst_1 ?_
    refine zr_ldc2 (eX12_powerOf 11 rfl) zw_1206 ?_
    refine zr_invS_i (as := [(.long ((x2 : Int32).toInt64), 0), (.long 1, 0), (.long 4, 0)]) (cX12_in_ok l h ((x2 : Int32).toInt64) 1 4) rfl zcd_X12_in ⟨zw_1203, zw_1204, zw_62⟩ ⟨Nat.le_of_ble_eq_true rfl, Nat.le_of_ble_eq_true rfl⟩ rfl (Nat.le_of_ble_eq_true rfl) (eX12_powerOf 12 rfl) (fun x24 => ?_)
    refine zr_if_ne (eX12_powerOf 13 rfl) (t := 30) (by decide) ?_ ?_
    · refine zr_lconst (eX12_powerOf 16 rfl) zk_lconst_0 ?_
      refine zr_lstore_n (ls2 := [some (.ref a0, 12), some (.int x1, 0), some (.int x2, 0), some (.long 0, 0), none, none, none]) (eX12_powerOf 17 rfl) rfl (Nat.le_of_ble_eq_true rfl) rfl ?_
      refine zr_iconst (eX12_powerOf 18 rfl) zk_iconst_0 ?_
      refine zr_istore (ls2 := [some (.ref a0, 12), some (.int x1, 0), some (.int x2, 0), some (.long 0, 0), none, some (.int 0, 0), none]) (eX12_powerOf 19 rfl) (Nat.le_of_ble_eq_true rfl) rfl ?_
      refine v_drop [true, true, true, true, false, true, false] rfl ?_
      refine zlp_ind (fun (k27 : Int64 → Int32 → Zh → Option (Int64 × Zh)) => ∀ (x25 : Int64) (x26 : Int32) (h1 : Zh), V l mX12_powerOf (zN h) (zS h) 0 zoJ 35 [some (.ref a0, 12), some (.int x1, 0), some (.int x2, 0), some (.long x25, 0), none, some (.int x26, 0), none] [] h1 (k27 x25 x26 h1)) ?_ ?_ 0 0 h
      · exact fun _ _ _ => v_none
      intro k27 hk27 x25 x26 h1
      unfold gX12_powerOf_L8
      refine zr_iload (eX12_powerOf 20 rfl) rfl ?_
      refine zr_aload_n (r := (some a0)) (eX12_powerOf 21 rfl) rfl rfl ?_
      refine zr_invV_i (as := []) (cX12_stateMany_ok l h1 a0) rfl rfl ⟨by decide, by decide, by decide⟩ zcd_X12_stateMany rfl ⟨zw_1212, zw_1214, zw_12, zw_62⟩ ⟨Nat.le_of_ble_eq_true rfl, Nat.le_of_ble_eq_true rfl⟩ rfl (Nat.le_of_ble_eq_true rfl) (eX12_powerOf 22 rfl) (fun x28 => ?_)
      refine zr_icmp_ge (eX12_powerOf 23 rfl) (t := 125) (by decide) ?_ ?_
      · refine zr_lload_n (eX12_powerOf 64 rfl) rfl rfl ?_
        exact zr_lret rfl rfl (eX12_powerOf 65 rfl)
      · refine zr_iload (eX12_powerOf 24 rfl) rfl ?_
        refine zr_invS_i (as := [(.int x26, 0)]) (cX12_count_ok l h1 x26) rfl zcd_X12_count ⟨zw_1263, zw_1264, zw_62⟩ ⟨Nat.le_of_ble_eq_true rfl, Nat.le_of_ble_eq_true rfl⟩ rfl (Nat.le_of_ble_eq_true rfl) (eX12_powerOf 25 rfl) (fun x29 => ?_)
        refine zr_iload_n (eX12_powerOf 26 rfl) rfl rfl ?_
        refine v_jn (fun (k31 : Int64 → Zh → Option (Int64 × Zh)) => ∀ (x30 : Int64) (h2 : Zh), V l mX12_powerOf (zN h) (zS h) 0 zoJ 119 [some (.ref a0, 12), some (.int x1, 0), some (.int x2, 0), some (.long x30, 0), none, some (.int x26, 0), none] [] h2 (k31 x30 h2)) ?_ ?_
        · intro x30 h2
          unfold gX12_powerOf_J2
          refine zr_iinc (ls2 := [some (.ref a0, 12), some (.int x1, 0), some (.int x2, 0), some (.long x30, 0), none, some (.int (x26 + 1), 0), none]) (eX12_powerOf 62 rfl) rfl (Nat.le_of_ble_eq_true rfl) zk_iconst_1 rfl ?_
          refine zr_goto (eX12_powerOf 63 rfl) (t := 35) (by decide) ?_
          exact v_drop [true, true, true, true, false, true, false] rfl (hk27 x30 (x26 + 1) h2)
        intro k31 hk31
        refine zr_icmp_ne (eX12_powerOf 27 rfl) (t := 119) (by decide) ?_ ?_
        · exact v_drop [true, true, true, true, false, true, false] rfl (hk31 x25 h1)
        · refine zr_iconst (eX12_powerOf 28 rfl) zk_iconst_0 ?_
          refine zr_istore (ls2 := [some (.ref a0, 12), some (.int x1, 0), some (.int x2, 0), some (.long x25, 0), none, some (.int x26, 0), some (.int 0, 0)]) (eX12_powerOf 29 rfl) (Nat.le_of_ble_eq_true rfl) rfl ?_
          refine v_jn (fun (k38 : Zh → Option (Int64 × Zh)) => ∀ (h3 : Zh), V l mX12_powerOf (zN h) (zS h) 0 zoJ 90 [some (.ref a0, 12), some (.int x1, 0), some (.int x2, 0), some (.long x25, 0), none, some (.int x26, 0), none] [] h3 (k38 h3)) ?_ ?_
          · intro h3
            unfold gX12_powerOf_J5
            refine zr_iconst (eX12_powerOf 46 rfl) zk_iconst_0 ?_
            refine zr_istore (ls2 := [some (.ref a0, 12), some (.int x1, 0), some (.int x2, 0), some (.long x25, 0), none, some (.int x26, 0), some (.int 0, 0)]) (eX12_powerOf 47 rfl) (Nat.le_of_ble_eq_true rfl) rfl ?_
            refine v_jn (fun (k35 : Zh → Option (Int64 × Zh)) => ∀ (h4 : Zh), V l mX12_powerOf (zN h) (zS h) 0 zoJ 109 [some (.ref a0, 12), some (.int x1, 0), some (.int x2, 0), some (.long x25, 0), none, some (.int x26, 0), none] [] h4 (k35 h4)) ?_ ?_
            · intro h4
              unfold gX12_powerOf_J3
              refine zr_lload_n (eX12_powerOf 55 rfl) rfl rfl ?_
              refine zr_aload_n (r := (some a0)) (eX12_powerOf 56 rfl) rfl rfl ?_
              refine zr_getR2 zf_RX12_41 (τ2 := 21) rfl (eX12_powerOf 57 rfl) ?_
              refine v_letr (fun r32 => ?_)
              refine zr_iload (eX12_powerOf 58 rfl) rfl ?_
              refine v_nn (fun a33 ea33 => ?_)
              subst ea33
              refine zr_lald (eX12_powerOf 59 rfl) ?_
              refine zr_ladd (eX12_powerOf 60 rfl) ?_
              refine v_letj (fun x34 => ?_)
              refine zr_lstore_n (ls2 := [some (.ref a0, 12), some (.int x1, 0), some (.int x2, 0), some (.long x34, 0), none, some (.int x26, 0), none]) (eX12_powerOf 61 rfl) rfl (Nat.le_of_ble_eq_true rfl) rfl ?_
              exact v_drop [true, true, true, true, false, true, false] rfl (hk31 x34 h4)
            intro k35 hk35
            refine v_drop [true, true, true, true, false, true, true] rfl ?_
            refine zlp_ind (fun (k37 : Int32 → Zh → Option (Int64 × Zh)) => ∀ (x36 : Int32) (h5 : Zh), V l mX12_powerOf (zN h) (zS h) 0 zoJ 93 [some (.ref a0, 12), some (.int x1, 0), some (.int x2, 0), some (.long x25, 0), none, some (.int x26, 0), some (.int x36, 0)] [] h5 (k37 x36 h5)) ?_ ?_ 0 h3
            · exact fun _ _ => v_none
            intro k37 hk37 x36 h5
            unfold gX12_powerOf_L4
            refine zr_iload (eX12_powerOf 48 rfl) rfl ?_
            refine zr_iload_n (eX12_powerOf 49 rfl) rfl rfl ?_
            refine zr_icmp_ge (eX12_powerOf 50 rfl) (t := 109) (by decide) ?_ ?_
            · exact v_drop [true, true, true, true, false, true, false] rfl (hk35 h5)
            · refine zr_aload_n (r := (some a0)) (eX12_powerOf 51 rfl) rfl rfl ?_
              refine zr_invV_V (as := []) (cX12_actOnAll_ok l h5 a0) rfl rfl ⟨by decide, by decide, by decide⟩ zcd_X12_actOnAll rfl ⟨zw_1337, zw_1339, zw_29, zw_62⟩ ⟨Nat.le_of_ble_eq_true rfl, Nat.le_of_ble_eq_true rfl⟩ rfl (Nat.le_of_ble_eq_true rfl) (eX12_powerOf 52 rfl) (fun h6 => ?_)
              refine zr_iinc (ls2 := [some (.ref a0, 12), some (.int x1, 0), some (.int x2, 0), some (.long x25, 0), none, some (.int x26, 0), some (.int (x36 + 1), 0)]) (eX12_powerOf 53 rfl) rfl (Nat.le_of_ble_eq_true rfl) zk_iconst_1 rfl ?_
              refine zr_goto (eX12_powerOf 54 rfl) (t := 93) (by decide) ?_
              exact v_drop [true, true, true, true, false, true, true] rfl (hk37 (x36 + 1) h6)
          intro k38 hk38
          refine v_drop [true, true, true, true, false, true, true] rfl ?_
          refine zlp_ind (fun (k40 : Int32 → Zh → Option (Int64 × Zh)) => ∀ (x39 : Int32) (h7 : Zh), V l mX12_powerOf (zN h) (zS h) 0 zoJ 56 [some (.ref a0, 12), some (.int x1, 0), some (.int x2, 0), some (.long x25, 0), none, some (.int x26, 0), some (.int x39, 0)] [] h7 (k40 x39 h7)) ?_ ?_ 0 h1
          · exact fun _ _ => v_none
          intro k40 hk40 x39 h7
          unfold gX12_powerOf_L7
          refine zr_iload (eX12_powerOf 30 rfl) rfl ?_
          refine zr_aload_n (r := (some a0)) (eX12_powerOf 31 rfl) rfl rfl ?_
          refine zr_invV_i (as := []) (cX12_stateMany_ok l h7 a0) rfl rfl ⟨by decide, by decide, by decide⟩ zcd_X12_stateMany rfl ⟨zw_1212, zw_1214, zw_12, zw_62⟩ ⟨Nat.le_of_ble_eq_true rfl, Nat.le_of_ble_eq_true rfl⟩ rfl (Nat.le_of_ble_eq_true rfl) (eX12_powerOf 32 rfl) (fun x41 => ?_)
          refine zr_icmp_ge (eX12_powerOf 33 rfl) (t := 90) (by decide) ?_ ?_
          · exact v_drop [true, true, true, true, false, true, false] rfl (hk38 h7)
          · refine zr_aload_n (r := (some a0)) (eX12_powerOf 34 rfl) rfl rfl ?_
            refine zr_getR2 zf_RX12_41 (τ2 := 21) rfl (eX12_powerOf 35 rfl) ?_
            refine v_letr (fun r42 => ?_)
            refine zr_iload (eX12_powerOf 36 rfl) rfl ?_
            refine zr_iload (eX12_powerOf 37 rfl) rfl ?_
            refine zr_iload (eX12_powerOf 38 rfl) rfl ?_
            refine v_jn (fun (k45 : Int64 → Option (Int64 × Zh)) => ∀ (x43 : Int64), V l mX12_powerOf (zN h) (zS h) 0 zoJ 83 [some (.ref a0, 12), some (.int x1, 0), some (.int x2, 0), some (.long x25, 0), none, some (.int x26, 0), some (.int x39, 0)] [(.long x43, 0), (.int x39, 0), (va_rf r42, 21)] h7 (k45 x43)) ?_ ?_
            · intro x43
              unfold gX12_powerOf_J6
              refine v_nn (fun a44 ea44 => ?_)
              subst ea44
              refine zr_last (eX12_powerOf 43 rfl) ?_
              refine v_leth (fun h8 => ?_)
              refine zr_iinc (ls2 := [some (.ref a0, 12), some (.int x1, 0), some (.int x2, 0), some (.long x25, 0), none, some (.int x26, 0), some (.int (x39 + 1), 0)]) (eX12_powerOf 44 rfl) rfl (Nat.le_of_ble_eq_true rfl) zk_iconst_1 rfl ?_
              refine zr_goto (eX12_powerOf 45 rfl) (t := 56) (by decide) ?_
              exact v_drop [true, true, true, true, false, true, true] rfl (hk40 (x39 + 1) h8)
            intro k45 hk45
            refine zr_icmp_ne (eX12_powerOf 39 rfl) (t := 82) (by decide) ?_ ?_
            · refine zr_lconst (eX12_powerOf 42 rfl) zk_lconst_0 ?_
              exact v_drop [true, true, true, true, false, true, true] rfl (hk45 0)
            · refine zr_lconst (eX12_powerOf 40 rfl) zk_lconst_1 ?_
              refine zr_goto (eX12_powerOf 41 rfl) (t := 83) (by decide) ?_
              exact v_drop [true, true, true, true, false, true, true] rfl (hk45 1)
    · exact v_drop [false, false, false, false, false, false, false] rfl (hk23)
def gX12_layAdjoint_L1 (a0 : Nat) (x1 : Int32) (x21 : Int32) : (Int32 → Zh → Option (Zh)) → Int32 → Zh → Option (Zh) :=
  fun (k23 : Int32 → Zh → Option (Zh)) (x22 : Int32) (h4 : Zh) => (if (x21 : Int32) ≤ x22 then some h4
  else zlt (zR h4 a0 10) (fun r24 => zlt (11 * x22) (fun x25 => Option.bind r24 (fun a26 => zg (zin x25 (zL h4 a26)) (zg (zin x25 (zL h4 a26)) (zlt (zsJ h4 a26 (zx x25) ((zJ h4 a26 (zx x25)) + ((x1 : Int32).toInt64))) (fun (h5 : Zh) => k23 (x22 + 1) h5)))))))
def gX12_layAdjoint_J2 (a0 : Nat) (x1 : Int32) (x21 : Int32) : Zh → Option (Zh) :=
  fun (h3 : Zh) => zlp (fun (_ : Int32) (_ : Zh) => (none : Option (Zh))) (gX12_layAdjoint_L1 a0 x1 x21) zFU 0 h3
def gX12_layAdjoint_J3 (x28 : Int32) (k29 : Int32 → Zh → Option (Zh)) : Zh → Option (Zh) :=
  fun (h8 : Zh) => k29 (x28 + 1) h8
def gX12_layAdjoint_L4 (a0 : Nat) (x21 : Int32) (x34 : Int64) (k35 : Zh → Option (Zh)) : (Int32 → Zh → Option (Zh)) → Int32 → Zh → Option (Zh) :=
  fun (k37 : Int32 → Zh → Option (Zh)) (x36 : Int32) (h9 : Zh) => (if (x21 : Int32) ≤ x36 then k35 h9
  else zlt (zR h9 a0 12) (fun r38 => zlt (11 * x36) (fun x39 => Option.bind r38 (fun a40 => zg (zin x39 (zL h9 a40)) (zg (zin x39 (zL h9 a40)) (zlt (zsJ h9 a40 (zx x39) ((zJ h9 a40 (zx x39)) + x34)) (fun (h10 : Zh) => k37 (x36 + 1) h10)))))))
def gX12_layAdjoint_L5 (a0 : Nat) (x21 : Int32) (k27 : Zh → Option (Zh)) : (Int32 → Zh → Option (Zh)) → Int32 → Zh → Option (Zh) :=
  fun (k29 : Int32 → Zh → Option (Zh)) (x28 : Int32) (h6 : Zh) => (if (x21 : Int32) ≤ x28 then k27 h6
  else zbV (gX12_timesTable h6 a0) (fun h7 => zlt (zR h7 a0 14) (fun r30 => Option.bind r30 (fun a31 => zg (zin (x21 - x28) (zL h7 a31)) (zlt (zR h7 a0 15) (fun r32 => Option.bind r32 (fun a33 => zg (zin (x21 - x28) (zL h7 a33)) (zlt (((zJ h7 a31 (zx (x21 - x28))) * 1099511627776) + (zJ h7 a33 (zx (x21 - x28)))) (fun x34 => zjn (gX12_layAdjoint_J3 x28 k29) (fun (k35 : Zh → Option (Zh)) =>
  zlp (fun (_ : Int32) (_ : Zh) => (none : Option (Zh))) (gX12_layAdjoint_L4 a0 x21 x34 k35) zFU 0 h7))))))))))
def gX12_layAdjoint_J6 (a0 : Nat) (x1 : Int32) (x21 : Int32) : Zh → Option (Zh) :=
  fun (h1 : Zh) => zbV (gX12_unitPower h1 a0) (fun h2 => zjn (gX12_layAdjoint_J2 a0 x1 x21) (fun (k27 : Zh → Option (Zh)) =>
  zlp (fun (_ : Int32) (_ : Zh) => (none : Option (Zh))) (gX12_layAdjoint_L5 a0 x21 k27) zFU 1 h2))
def gX12_layAdjoint_L7 (a0 : Nat) (x1 : Int32) (x21 : Int32) (k41 : Zh → Option (Zh)) : (Int32 → Zh → Option (Zh)) → Int32 → Zh → Option (Zh) :=
  fun (k43 : Int32 → Zh → Option (Zh)) (x42 : Int32) (h11 : Zh) => (if (x21 : Int32) ≤ x42 then k41 h11
  else zlt (zR h11 a0 10) (fun r44 => zlt (11 * x42) (fun x45 => Option.bind r44 (fun a46 => zg (zin x45 (zL h11 a46)) (zg (zin x45 (zL h11 a46)) (zlt (zsJ h11 a46 (zx x45) ((zJ h11 a46 (zx x45)) - ((x1 : Int32).toInt64))) (fun (h12 : Zh) => k43 (x42 + 1) h12)))))))
def gX12_layAdjoint (h : Zh) (a0 : Nat) (x1 : Int32) : Option (Zh) :=
  zlt (zI h a0 5) (fun x21 => zjn (gX12_layAdjoint_J6 a0 x1 x21) (fun (k41 : Zh → Option (Zh)) =>
  zlp (fun (_ : Int32) (_ : Zh) => (none : Option (Zh))) (gX12_layAdjoint_L7 a0 x1 x21 k41) zFU 0 h))
set_option maxRecDepth 20000 in
theorem cX12_layAdjoint_ok (l : Launch) (h : Zh) (a0 : Nat) (x1 : Int32) : Zc l yX12_layAdjoint mX12_layAdjoint 0 h [(.ref a0, 12), (.int x1, 0)] ((gX12_layAdjoint h a0 x1).map zoV) := by
  refine zc_of2 (ls := [some (.ref a0, 12), some (.int x1, 0), none, none, none, none, none]) (j := 5) (by decide +kernel) rfl rfl (zEn_ca (zEn_ci rfl)) (Nat.le_of_ble_eq_true rfl) rfl ?_
  unfold gX12_layAdjoint
  refine zr_aload_n (r := (some a0)) (eX12_layAdjoint 0 rfl) rfl rfl ?_
  refine zr_getI zf_RX12_183 ⟨by decide, by decide⟩ (eX12_layAdjoint 1 rfl) ?_
  refine v_leti (fun x21 => ?_)
  refine zr_istore_n (ls2 := [some (.ref a0, 12), some (.int x1, 0), some (.int x21, 0), none, none, none, none]) (eX12_layAdjoint 2 rfl) rfl (Nat.le_of_ble_eq_true rfl) rfl ?_
  refine zr_iconst (eX12_layAdjoint 3 rfl) zk_iconst_0 ?_
  refine zr_istore_n (ls2 := [some (.ref a0, 12), some (.int x1, 0), some (.int x21, 0), some (.int 0, 0), none, none, none]) (eX12_layAdjoint 4 rfl) rfl (Nat.le_of_ble_eq_true rfl) rfl ?_
  refine v_jn (fun (k41 : Zh → Option (Zh)) => ∀ (h1 : Zh), V l mX12_layAdjoint (zN h) (zS h) 0 zoV 32 [some (.ref a0, 12), some (.int x1, 0), some (.int x21, 0), none, none, none, none] [] h1 (k41 h1)) ?_ ?_
  · intro h1
    unfold gX12_layAdjoint_J6
    refine zr_aload_n (r := (some a0)) (eX12_layAdjoint 21 rfl) rfl rfl ?_
    refine zr_invV_V (as := []) (cX12_unitPower_ok l h1 a0) rfl rfl ⟨by decide, by decide, by decide⟩ zcd_X12_unitPower rfl ⟨zw_1290, zw_1292, zw_23, zw_62⟩ ⟨Nat.le_of_ble_eq_true rfl, Nat.le_of_ble_eq_true rfl⟩ rfl (Nat.le_of_ble_eq_true rfl) (eX12_layAdjoint 22 rfl) (fun h2 => ?_)
    refine zr_iconst (eX12_layAdjoint 23 rfl) zk_iconst_1 ?_
    refine zr_istore_n (ls2 := [some (.ref a0, 12), some (.int x1, 0), some (.int x21, 0), some (.int 1, 0), none, none, none]) (eX12_layAdjoint 24 rfl) rfl (Nat.le_of_ble_eq_true rfl) rfl ?_
    refine v_jn (fun (k27 : Zh → Option (Zh)) => ∀ (h3 : Zh), V l mX12_layAdjoint (zN h) (zS h) 0 zoV 106 [some (.ref a0, 12), some (.int x1, 0), some (.int x21, 0), none, none, none, none] [] h3 (k27 h3)) ?_ ?_
    · intro h3
      unfold gX12_layAdjoint_J2
      refine zr_iconst (eX12_layAdjoint 65 rfl) zk_iconst_0 ?_
      refine zr_istore_n (ls2 := [some (.ref a0, 12), some (.int x1, 0), some (.int x21, 0), some (.int 0, 0), none, none, none]) (eX12_layAdjoint 66 rfl) rfl (Nat.le_of_ble_eq_true rfl) rfl ?_
      refine v_drop [true, true, true, true, false, false, false] rfl ?_
      refine zlp_ind (fun (k23 : Int32 → Zh → Option (Zh)) => ∀ (x22 : Int32) (h4 : Zh), V l mX12_layAdjoint (zN h) (zS h) 0 zoV 108 [some (.ref a0, 12), some (.int x1, 0), some (.int x21, 0), some (.int x22, 0), none, none, none] [] h4 (k23 x22 h4)) ?_ ?_ 0 h3
      · exact fun _ _ => v_none
      intro k23 hk23 x22 h4
      unfold gX12_layAdjoint_L1
      refine zr_iload_n (eX12_layAdjoint 67 rfl) rfl rfl ?_
      refine zr_iload_n (eX12_layAdjoint 68 rfl) rfl rfl ?_
      refine zr_icmp_ge (eX12_layAdjoint 69 rfl) (t := 133) (by decide) ?_ ?_
      · exact zr_vret rfl rfl (eX12_layAdjoint 83 rfl)
      · refine zr_aload_n (r := (some a0)) (eX12_layAdjoint 70 rfl) rfl rfl ?_
        refine zr_getR2 zf_RX12_22 (τ2 := 21) rfl (eX12_layAdjoint 71 rfl) ?_
        refine v_letr (fun r24 => ?_)
        refine zr_bipush (eX12_layAdjoint 72 rfl) zk_bipush_11 ?_
        refine zr_iload_n (eX12_layAdjoint 73 rfl) rfl rfl ?_
        refine zr_imul (eX12_layAdjoint 74 rfl) ?_
        refine v_leti (fun x25 => ?_)
        refine v_nn (fun a26 ea26 => ?_)
        subst ea26
        refine zr_dup2 (eX12_layAdjoint 75 rfl) rfl rfl ?_
        refine zr_lald (eX12_layAdjoint 76 rfl) ?_
        refine zr_iload_n (eX12_layAdjoint 77 rfl) rfl rfl ?_
        refine zr_i2l (eX12_layAdjoint 78 rfl) ?_
        refine zr_ladd (eX12_layAdjoint 79 rfl) ?_
        refine zr_last (eX12_layAdjoint 80 rfl) ?_
        refine v_leth (fun h5 => ?_)
        refine zr_iinc (ls2 := [some (.ref a0, 12), some (.int x1, 0), some (.int x21, 0), some (.int (x22 + 1), 0), none, none, none]) (eX12_layAdjoint 81 rfl) rfl (Nat.le_of_ble_eq_true rfl) zk_iconst_1 rfl ?_
        refine zr_goto (eX12_layAdjoint 82 rfl) (t := 108) (by decide) ?_
        exact v_drop [true, true, true, true, false, false, false] rfl (hk23 (x22 + 1) h5)
    intro k27 hk27
    refine v_drop [true, true, true, true, false, false, false] rfl ?_
    refine zlp_ind (fun (k29 : Int32 → Zh → Option (Zh)) => ∀ (x28 : Int32) (h6 : Zh), V l mX12_layAdjoint (zN h) (zS h) 0 zoV 38 [some (.ref a0, 12), some (.int x1, 0), some (.int x21, 0), some (.int x28, 0), none, none, none] [] h6 (k29 x28 h6)) ?_ ?_ 1 h2
    · exact fun _ _ => v_none
    intro k29 hk29 x28 h6
    unfold gX12_layAdjoint_L5
    refine zr_iload_n (eX12_layAdjoint 25 rfl) rfl rfl ?_
    refine zr_iload_n (eX12_layAdjoint 26 rfl) rfl rfl ?_
    refine zr_icmp_ge (eX12_layAdjoint 27 rfl) (t := 106) (by decide) ?_ ?_
    · exact v_drop [true, true, true, false, false, false, false] rfl (hk27 h6)
    · refine zr_aload_n (r := (some a0)) (eX12_layAdjoint 28 rfl) rfl rfl ?_
      refine zr_invV_V (as := []) (cX12_timesTable_ok l h6 a0) rfl rfl ⟨by decide, by decide, by decide⟩ zcd_X12_timesTable rfl ⟨zw_1294, zw_1296, zw_24, zw_62⟩ ⟨Nat.le_of_ble_eq_true rfl, Nat.le_of_ble_eq_true rfl⟩ rfl (Nat.le_of_ble_eq_true rfl) (eX12_layAdjoint 29 rfl) (fun h7 => ?_)
      refine zr_aload_n (r := (some a0)) (eX12_layAdjoint 30 rfl) rfl rfl ?_
      refine zr_getR2 zf_RX12_35 (τ2 := 21) rfl (eX12_layAdjoint 31 rfl) ?_
      refine v_letr (fun r30 => ?_)
      refine zr_iload_n (eX12_layAdjoint 32 rfl) rfl rfl ?_
      refine zr_iload_n (eX12_layAdjoint 33 rfl) rfl rfl ?_
      refine zr_isub (eX12_layAdjoint 34 rfl) ?_
      refine v_nn (fun a31 ea31 => ?_)
      subst ea31
      refine zr_lald (eX12_layAdjoint 35 rfl) ?_
      refine zr_ldc2 (eX12_layAdjoint 36 rfl) zw_1312 ?_
      refine zr_lmul (eX12_layAdjoint 37 rfl) ?_
      refine zr_aload_n (r := (some a0)) (eX12_layAdjoint 38 rfl) rfl rfl ?_
      refine zr_getR2 zf_RX12_38 (τ2 := 21) rfl (eX12_layAdjoint 39 rfl) ?_
      refine v_letr (fun r32 => ?_)
      refine zr_iload_n (eX12_layAdjoint 40 rfl) rfl rfl ?_
      refine zr_iload_n (eX12_layAdjoint 41 rfl) rfl rfl ?_
      refine zr_isub (eX12_layAdjoint 42 rfl) ?_
      refine v_nn (fun a33 ea33 => ?_)
      subst ea33
      refine zr_lald (eX12_layAdjoint 43 rfl) ?_
      refine zr_ladd (eX12_layAdjoint 44 rfl) ?_
      refine v_letj (fun x34 => ?_)
      refine zr_lstore (ls2 := [some (.ref a0, 12), some (.int x1, 0), some (.int x21, 0), some (.int x28, 0), some (.long x34, 0), none, none]) (eX12_layAdjoint 45 rfl) (Nat.le_of_ble_eq_true rfl) rfl ?_
      refine zr_iconst (eX12_layAdjoint 46 rfl) zk_iconst_0 ?_
      refine zr_istore (ls2 := [some (.ref a0, 12), some (.int x1, 0), some (.int x21, 0), some (.int x28, 0), some (.long x34, 0), none, some (.int 0, 0)]) (eX12_layAdjoint 47 rfl) (Nat.le_of_ble_eq_true rfl) rfl ?_
      refine v_jn (fun (k35 : Zh → Option (Zh)) => ∀ (h8 : Zh), V l mX12_layAdjoint (zN h) (zS h) 0 zoV 100 [some (.ref a0, 12), some (.int x1, 0), some (.int x21, 0), some (.int x28, 0), none, none, none] [] h8 (k35 h8)) ?_ ?_
      · intro h8
        unfold gX12_layAdjoint_J3
        refine zr_iinc (ls2 := [some (.ref a0, 12), some (.int x1, 0), some (.int x21, 0), some (.int (x28 + 1), 0), none, none, none]) (eX12_layAdjoint 63 rfl) rfl (Nat.le_of_ble_eq_true rfl) zk_iconst_1 rfl ?_
        refine zr_goto (eX12_layAdjoint 64 rfl) (t := 38) (by decide) ?_
        exact v_drop [true, true, true, true, false, false, false] rfl (hk29 (x28 + 1) h8)
      intro k35 hk35
      refine v_drop [true, true, true, true, true, false, true] rfl ?_
      refine zlp_ind (fun (k37 : Int32 → Zh → Option (Zh)) => ∀ (x36 : Int32) (h9 : Zh), V l mX12_layAdjoint (zN h) (zS h) 0 zoV 73 [some (.ref a0, 12), some (.int x1, 0), some (.int x21, 0), some (.int x28, 0), some (.long x34, 0), none, some (.int x36, 0)] [] h9 (k37 x36 h9)) ?_ ?_ 0 h7
      · exact fun _ _ => v_none
      intro k37 hk37 x36 h9
      unfold gX12_layAdjoint_L4
      refine zr_iload (eX12_layAdjoint 48 rfl) rfl ?_
      refine zr_iload_n (eX12_layAdjoint 49 rfl) rfl rfl ?_
      refine zr_icmp_ge (eX12_layAdjoint 50 rfl) (t := 100) (by decide) ?_ ?_
      · exact v_drop [true, true, true, true, false, false, false] rfl (hk35 h9)
      · refine zr_aload_n (r := (some a0)) (eX12_layAdjoint 51 rfl) rfl rfl ?_
        refine zr_getR2 zf_RX12_29 (τ2 := 21) rfl (eX12_layAdjoint 52 rfl) ?_
        refine v_letr (fun r38 => ?_)
        refine zr_bipush (eX12_layAdjoint 53 rfl) zk_bipush_11 ?_
        refine zr_iload (eX12_layAdjoint 54 rfl) rfl ?_
        refine zr_imul (eX12_layAdjoint 55 rfl) ?_
        refine v_leti (fun x39 => ?_)
        refine v_nn (fun a40 ea40 => ?_)
        subst ea40
        refine zr_dup2 (eX12_layAdjoint 56 rfl) rfl rfl ?_
        refine zr_lald (eX12_layAdjoint 57 rfl) ?_
        refine zr_lload (eX12_layAdjoint 58 rfl) rfl ?_
        refine zr_ladd (eX12_layAdjoint 59 rfl) ?_
        refine zr_last (eX12_layAdjoint 60 rfl) ?_
        refine v_leth (fun h10 => ?_)
        refine zr_iinc (ls2 := [some (.ref a0, 12), some (.int x1, 0), some (.int x21, 0), some (.int x28, 0), some (.long x34, 0), none, some (.int (x36 + 1), 0)]) (eX12_layAdjoint 61 rfl) rfl (Nat.le_of_ble_eq_true rfl) zk_iconst_1 rfl ?_
        refine zr_goto (eX12_layAdjoint 62 rfl) (t := 73) (by decide) ?_
        exact v_drop [true, true, true, true, true, false, true] rfl (hk37 (x36 + 1) h10)
  intro k41 hk41
  refine v_drop [true, true, true, true, false, false, false] rfl ?_
  refine zlp_ind (fun (k43 : Int32 → Zh → Option (Zh)) => ∀ (x42 : Int32) (h11 : Zh), V l mX12_layAdjoint (zN h) (zS h) 0 zoV 7 [some (.ref a0, 12), some (.int x1, 0), some (.int x21, 0), some (.int x42, 0), none, none, none] [] h11 (k43 x42 h11)) ?_ ?_ 0 h
  · exact fun _ _ => v_none
  intro k43 hk43 x42 h11
  unfold gX12_layAdjoint_L7
  refine zr_iload_n (eX12_layAdjoint 5 rfl) rfl rfl ?_
  refine zr_iload_n (eX12_layAdjoint 6 rfl) rfl rfl ?_
  refine zr_icmp_ge (eX12_layAdjoint 7 rfl) (t := 32) (by decide) ?_ ?_
  · exact v_drop [true, true, true, false, false, false, false] rfl (hk41 h11)
  · refine zr_aload_n (r := (some a0)) (eX12_layAdjoint 8 rfl) rfl rfl ?_
    refine zr_getR2 zf_RX12_22 (τ2 := 21) rfl (eX12_layAdjoint 9 rfl) ?_
    refine v_letr (fun r44 => ?_)
    refine zr_bipush (eX12_layAdjoint 10 rfl) zk_bipush_11 ?_
    refine zr_iload_n (eX12_layAdjoint 11 rfl) rfl rfl ?_
    refine zr_imul (eX12_layAdjoint 12 rfl) ?_
    refine v_leti (fun x45 => ?_)
    refine v_nn (fun a46 ea46 => ?_)
    subst ea46
    refine zr_dup2 (eX12_layAdjoint 13 rfl) rfl rfl ?_
    refine zr_lald (eX12_layAdjoint 14 rfl) ?_
    refine zr_iload_n (eX12_layAdjoint 15 rfl) rfl rfl ?_
    refine zr_i2l (eX12_layAdjoint 16 rfl) ?_
    refine zr_lsub (eX12_layAdjoint 17 rfl) ?_
    refine zr_last (eX12_layAdjoint 18 rfl) ?_
    refine v_leth (fun h12 => ?_)
    refine zr_iinc (ls2 := [some (.ref a0, 12), some (.int x1, 0), some (.int x21, 0), some (.int (x42 + 1), 0), none, none, none]) (eX12_layAdjoint 19 rfl) rfl (Nat.le_of_ble_eq_true rfl) zk_iconst_1 rfl ?_
    refine zr_goto (eX12_layAdjoint 20 rfl) (t := 7) (by decide) ?_
    exact v_drop [true, true, true, true, false, false, false] rfl (hk43 (x42 + 1) h12)
def gX12_layRest_J1 (x29 : Int32) (k30 : Int32 → Int32 → Zh → Option (Int32 × Zh)) (h5 : Zh) : Int32 → Option (Int32 × Zh) :=
  fun (x35 : Int32) => k30 x35 (x29 + 1) h5
def gX12_layRest_J2 (k36 : Int32 → Option (Int32 × Zh)) : Option (Int32 × Zh) :=
  k36 0
def gX12_layRest_L3 (a0 : Nat) (x24 : Int32) (x27 : Int64) : (Int32 → Int32 → Zh → Option (Int32 × Zh)) → Int32 → Int32 → Zh → Option (Int32 × Zh) :=
  fun (k30 : Int32 → Int32 → Zh → Option (Int32 × Zh)) (x28 : Int32) (x29 : Int32) (h4 : Zh) => (if ((zI h4 a0 5) : Int32) ≤ x29 then (zg (zbl x28) (some (x28, h4)))
  else zlt (zR h4 a0 18) (fun r31 => zlt (zR h4 a0 12) (fun r32 => Option.bind r32 (fun a33 => zg (zin ((10 * x29) + x24) (zL h4 a33)) ((if (x27 : Int64) = 0 then none else Option.bind r31 (fun a34 => zg (zin x29 (zL h4 a34)) (zlt (zsJ h4 a34 (zx x29) ((zJ h4 a33 (zx ((10 * x29) + x24))) / x27)) (fun (h5 : Zh) => zjn (gX12_layRest_J1 x29 k30 h5) (fun (k36 : Int32 → Option (Int32 × Zh)) =>
  zjn (gX12_layRest_J2 k36) (fun (k37 : Option (Int32 × Zh)) =>
  (if (x28 : Int32) = 0 then k37
  else zlt (zR h5 a0 18) (fun r38 => Option.bind r38 (fun a39 => zg (zin x29 (zL h5 a39)) (zbj (gX12_sizeOf (zJ h5 a39 (zx x29))) (fun x40 => (if (0 : Int32) < (lg_cmp x40 1000000) then k37
  else k36 1)))))))))))))))))
def gX12_layRest_J4 (a0 : Nat) (h3 : Zh) (x24 : Int32) : Int64 → Option (Int32 × Zh) :=
  fun (x27 : Int64) => zlp (fun (_ : Int32) (_ : Int32) (_ : Zh) => (none : Option (Int32 × Zh))) (gX12_layRest_L3 a0 x24 x27) zFU 1 0 h3
def gX12_layRest_J5 (a0 : Nat) (h3 : Zh) (x24 : Int32) : Int64 → Int64 → Option (Int32 × Zh) :=
  fun (x25 : Int64) (x26 : Int64) => zjn (gX12_layRest_J4 a0 h3 x24) (fun (k41 : Int64 → Option (Int32 × Zh)) =>
  (if (0 : Int32) ≤ (lg_cmp x26 0) then k41 x25
  else k41 (-x25)))
def gX12_layRest_J6 (x45 : Int32) (k46 : Int64 → Int64 → Int32 → Option (Int32 × Zh)) (x49 : Int64) : Int64 → Option (Int32 × Zh) :=
  fun (x50 : Int64) => k46 x49 x50 (x45 + 1)
def gX12_layRest_L7 (a0 : Nat) (h3 : Zh) (x24 : Int32) (k42 : Int64 → Int64 → Option (Int32 × Zh)) : (Int64 → Int64 → Int32 → Option (Int32 × Zh)) → Int64 → Int64 → Int32 → Option (Int32 × Zh) :=
  fun (k46 : Int64 → Int64 → Int32 → Option (Int32 × Zh)) (x43 : Int64) (x44 : Int64) (x45 : Int32) => (if ((zI h3 a0 5) : Int32) ≤ x45 then k42 x43 x44
  else zlt (zR h3 a0 12) (fun r47 => Option.bind r47 (fun a48 => zg (zin ((10 * x45) + x24) (zL h3 a48)) (zbj (gX12_common x43 (zJ h3 a48 (zx ((10 * x45) + x24)))) (fun x49 => zjn (gX12_layRest_J6 x45 k46 x49) (fun (k51 : Int64 → Option (Int32 × Zh)) =>
  (if ((lg_cmp x44 0) : Int32) = 0 then zlt (zR h3 a0 12) (fun r52 => Option.bind r52 (fun a53 => zg (zin ((10 * x45) + x24) (zL h3 a53)) (k51 (zJ h3 a53 (zx ((10 * x45) + x24))))))
  else k51 x44)))))))
def gX12_layRest_J8 (a0 : Nat) (h3 : Zh) : Int32 → Option (Int32 × Zh) :=
  fun (x24 : Int32) => zjn (gX12_layRest_J5 a0 h3 x24) (fun (k42 : Int64 → Int64 → Option (Int32 × Zh)) =>
  zlp (fun (_ : Int64) (_ : Int64) (_ : Int32) => (none : Option (Int32 × Zh))) (gX12_layRest_L7 a0 h3 x24 k42) zFU 0 0 0)
def gX12_layRest_J9 (x55 : Int32) (k57 : Int32 → Int32 → Option (Int32 × Zh)) (x58 : Int32) : Int32 → Option (Int32 × Zh) :=
  fun (x59 : Int32) => zlt (x55 + x59) (fun x60 => k57 x60 x58)
def gX12_layRest_J10 (x55 : Int32) (k57 : Int32 → Int32 → Option (Int32 × Zh)) : Int32 → Option (Int32 × Zh) :=
  fun (x58 : Int32) => zjn (gX12_layRest_J9 x55 k57 x58) (fun (k61 : Int32 → Option (Int32 × Zh)) =>
  (if (x58 : Int32) = 0 then k61 1
  else k61 0))
def gX12_layRest_J11 (x64 : Int32) (k65 : Int32 → Int32 → Option (Int32 × Zh)) : Int32 → Option (Int32 × Zh) :=
  fun (x66 : Int32) => k65 x66 (x64 + 1)
def gX12_layRest_J12 (k67 : Int32 → Option (Int32 × Zh)) : Option (Int32 × Zh) :=
  k67 1
def gX12_layRest_L13 (a0 : Nat) (h3 : Zh) (x55 : Int32) (k62 : Int32 → Option (Int32 × Zh)) : (Int32 → Int32 → Option (Int32 × Zh)) → Int32 → Int32 → Option (Int32 × Zh) :=
  fun (k65 : Int32 → Int32 → Option (Int32 × Zh)) (x63 : Int32) (x64 : Int32) => (if ((zI h3 a0 5) : Int32) ≤ x64 then k62 x63
  else zjn (gX12_layRest_J11 x64 k65) (fun (k67 : Int32 → Option (Int32 × Zh)) =>
  zjn (gX12_layRest_J12 k67) (fun (k68 : Option (Int32 × Zh)) =>
  (if (x63 : Int32) = 0 then zlt (zR h3 a0 12) (fun r69 => Option.bind r69 (fun a70 => zg (zin ((10 * x64) + x55) (zL h3 a70)) ((if ((lg_cmp (zJ h3 a70 (zx ((10 * x64) + x55))) 0) : Int32) = 0 then k67 0
  else k68))))
  else k68))))
def gX12_layRest_L14 (a0 : Nat) (h3 : Zh) (k54 : Int32 → Option (Int32 × Zh)) : (Int32 → Int32 → Option (Int32 × Zh)) → Int32 → Int32 → Option (Int32 × Zh) :=
  fun (k57 : Int32 → Int32 → Option (Int32 × Zh)) (x55 : Int32) (x56 : Int32) => (if (x56 : Int32) = 0 then zjn (gX12_layRest_J10 x55 k57) (fun (k62 : Int32 → Option (Int32 × Zh)) =>
  zlp (fun (_ : Int32) (_ : Int32) => (none : Option (Int32 × Zh))) (gX12_layRest_L13 a0 h3 x55 k62) zFU x56 0)
  else k54 x55)
def gX12_layRest (h : Zh) (a0 : Nat) (x1 : Int32) (x2 : Int32) (x3 : Int32) : Option (Int32 × Zh) :=
  zbi (gX12_in ((x3 : Int32).toInt64) (-50) 50) (fun x21 => (if (x21 : Int32) = 0 then (some (0, h))
  else zbI (gX12_laySector h a0 x1 x2) (fun x22 h1 => (if (x22 : Int32) < 0 then (some (0, h1))
  else (if ((zI h1 a0 5) : Int32) = 0 then (some (0, h1))
  else zbV (gX12_shiftTo h1 a0 x3) (fun h2 => zbi (gX12_zeros h2 a0) (fun x23 => (if (x23 : Int32) = 1 then zbV (gX12_layAdjoint h2 a0 x3) (fun h3 => zjn (gX12_layRest_J8 a0 h3) (fun (k54 : Int32 → Option (Int32 × Zh)) =>
  zlp (fun (_ : Int32) (_ : Int32) => (none : Option (Int32 × Zh))) (gX12_layRest_L14 a0 h3 k54) zFU 0 0))
  else (some (0, h2))))))))))
set_option maxRecDepth 20000 in
theorem cX12_layRest_ok (l : Launch) (h : Zh) (a0 : Nat) (x1 : Int32) (x2 : Int32) (x3 : Int32) : Zc l yX12_layRest mX12_layRest 0 h [(.ref a0, 12), (.int x1, 0), (.int x2, 0), (.int x3, 0)] ((gX12_layRest h a0 x1 x2 x3).map zoI) := by
  refine zc_of2 (ls := [some (.ref a0, 12), some (.int x1, 0), some (.int x2, 0), some (.int x3, 0), none, none, none, none, none, none, none, none]) (j := 8) (by decide +kernel) rfl rfl (zEn_ca (zEn_ci (zEn_ci (zEn_ci rfl)))) (Nat.le_of_ble_eq_true rfl) rfl ?_
  unfold gX12_layRest
  refine zr_iload_n (eX12_layRest 0 rfl) rfl rfl ?_
  refine zr_i2l (eX12_layRest 1 rfl) ?_
  refine zr_ldc2 (eX12_layRest 2 rfl) zw_1306 ?_
  refine zr_ldc2 (eX12_layRest 3 rfl) zw_1307 ?_
  refine zr_invS_i (as := [(.long ((x3 : Int32).toInt64), 0), (.long (-50), 0), (.long 50, 0)]) (cX12_in_ok l h ((x3 : Int32).toInt64) (-50) 50) rfl zcd_X12_in ⟨zw_1203, zw_1204, zw_62⟩ ⟨Nat.le_of_ble_eq_true rfl, Nat.le_of_ble_eq_true rfl⟩ rfl (Nat.le_of_ble_eq_true rfl) (eX12_layRest 4 rfl) (fun x21 => ?_)
  refine zr_if_eq (eX12_layRest 5 rfl) (t := 30) (by decide) ?_ ?_
  · refine zr_iconst (eX12_layRest 14 rfl) zk_iconst_0 ?_
    exact zr_zret rfl (by decide) rfl (eX12_layRest 15 rfl)
  · refine zr_aload_n (r := (some a0)) (eX12_layRest 6 rfl) rfl rfl ?_
    refine zr_iload_n (eX12_layRest 7 rfl) rfl rfl ?_
    refine zr_iload_n (eX12_layRest 8 rfl) rfl rfl ?_
    refine zr_invV_I (as := [(.int x1, 0), (.int x2, 0)]) (cX12_laySector_ok l h a0 x1 x2) rfl rfl ⟨by decide, by decide, by decide⟩ zcd_X12_laySector rfl ⟨zw_1274, zw_1276, zw_20, zw_62⟩ ⟨Nat.le_of_ble_eq_true rfl, Nat.le_of_ble_eq_true rfl⟩ rfl (Nat.le_of_ble_eq_true rfl) (eX12_layRest 9 rfl) (fun x22 h1 => ?_)
    refine zr_if_lt (eX12_layRest 10 rfl) (t := 30) (by decide) ?_ ?_
    · refine zr_iconst (eX12_layRest 14 rfl) zk_iconst_0 ?_
      exact zr_zret rfl (by decide) rfl (eX12_layRest 15 rfl)
    · refine zr_aload_n (r := (some a0)) (eX12_layRest 11 rfl) rfl rfl ?_
      refine zr_getI zf_RX12_183 ⟨by decide, by decide⟩ (eX12_layRest 12 rfl) ?_
      refine zr_if_ne (eX12_layRest 13 rfl) (t := 32) (by decide) ?_ ?_
      · refine zr_aload_n (r := (some a0)) (eX12_layRest 16 rfl) rfl rfl ?_
        refine zr_iload_n (eX12_layRest 17 rfl) rfl rfl ?_
        refine zr_invV_V (as := [(.int x3, 0)]) (cX12_shiftTo_ok l h1 a0 x3) rfl rfl ⟨by decide, by decide, by decide⟩ zcd_X12_shiftTo rfl ⟨zw_1308, zw_1310, zw_26, zw_62⟩ ⟨Nat.le_of_ble_eq_true rfl, Nat.le_of_ble_eq_true rfl⟩ rfl (Nat.le_of_ble_eq_true rfl) (eX12_layRest 18 rfl) (fun h2 => ?_)
        refine zr_aload_n (r := (some a0)) (eX12_layRest 19 rfl) rfl rfl ?_
        refine zr_invV_i (as := []) (cX12_zeros_ok l h2 a0) rfl rfl ⟨by decide, by decide, by decide⟩ zcd_X12_zeros rfl ⟨zw_1321, zw_1323, zw_28, zw_62⟩ ⟨Nat.le_of_ble_eq_true rfl, Nat.le_of_ble_eq_true rfl⟩ rfl (Nat.le_of_ble_eq_true rfl) (eX12_layRest 20 rfl) (fun x23 => ?_)
        refine zr_iconst (eX12_layRest 21 rfl) zk_iconst_1 ?_
        refine zr_icmp_eq (eX12_layRest 22 rfl) (t := 47) (by decide) ?_ ?_
        · refine zr_aload_n (r := (some a0)) (eX12_layRest 25 rfl) rfl rfl ?_
          refine zr_iload_n (eX12_layRest 26 rfl) rfl rfl ?_
          refine zr_invV_V (as := [(.int x3, 0)]) (cX12_layAdjoint_ok l h2 a0 x3) rfl rfl ⟨by decide, by decide, by decide⟩ zcd_X12_layAdjoint rfl ⟨zw_1349, zw_1351, zw_31, zw_62⟩ ⟨Nat.le_of_ble_eq_true rfl, Nat.le_of_ble_eq_true rfl⟩ rfl (Nat.le_of_ble_eq_true rfl) (eX12_layRest 27 rfl) (fun h3 => ?_)
          refine zr_iconst (eX12_layRest 28 rfl) zk_iconst_0 ?_
          refine zr_istore (ls2 := [some (.ref a0, 12), some (.int x1, 0), some (.int x2, 0), some (.int x3, 0), some (.int 0, 0), none, none, none, none, none, none, none]) (eX12_layRest 29 rfl) (Nat.le_of_ble_eq_true rfl) rfl ?_
          refine zr_iconst (eX12_layRest 30 rfl) zk_iconst_0 ?_
          refine zr_istore (ls2 := [some (.ref a0, 12), some (.int x1, 0), some (.int x2, 0), some (.int x3, 0), some (.int 0, 0), some (.int 0, 0), none, none, none, none, none, none]) (eX12_layRest 31 rfl) (Nat.le_of_ble_eq_true rfl) rfl ?_
          refine v_jn (fun (k54 : Int32 → Option (Int32 × Zh)) => ∀ (x24 : Int32), V l mX12_layRest (zN h) (zS h) 0 zoI 129 [some (.ref a0, 12), none, none, none, some (.int x24, 0), none, none, none, none, none, none, none] [] h3 (k54 x24)) ?_ ?_
          · intro x24
            unfold gX12_layRest_J8
            refine zr_lconst (eX12_layRest 68 rfl) zk_lconst_0 ?_
            refine zr_lstore (ls2 := [some (.ref a0, 12), none, none, none, some (.int x24, 0), none, some (.long 0, 0), none, none, none, none, none]) (eX12_layRest 69 rfl) (Nat.le_of_ble_eq_true rfl) rfl ?_
            refine zr_lconst (eX12_layRest 70 rfl) zk_lconst_0 ?_
            refine zr_lstore (ls2 := [some (.ref a0, 12), none, none, none, some (.int x24, 0), none, some (.long 0, 0), none, some (.long 0, 0), none, none, none]) (eX12_layRest 71 rfl) (Nat.le_of_ble_eq_true rfl) rfl ?_
            refine zr_iconst (eX12_layRest 72 rfl) zk_iconst_0 ?_
            refine zr_istore (ls2 := [some (.ref a0, 12), none, none, none, some (.int x24, 0), none, some (.long 0, 0), none, some (.long 0, 0), none, some (.int 0, 0), none]) (eX12_layRest 73 rfl) (Nat.le_of_ble_eq_true rfl) rfl ?_
            refine v_jn (fun (k42 : Int64 → Int64 → Option (Int32 × Zh)) => ∀ (x25 : Int64) (x26 : Int64), V l mX12_layRest (zN h) (zS h) 0 zoI 200 [some (.ref a0, 12), none, none, none, some (.int x24, 0), none, some (.long x25, 0), none, some (.long x26, 0), none, none, none] [] h3 (k42 x25 x26)) ?_ ?_
            · intro x25 x26
              unfold gX12_layRest_J5
              refine zr_lload (eX12_layRest 106 rfl) rfl ?_
              refine zr_lconst (eX12_layRest 107 rfl) zk_lconst_0 ?_
              refine zr_lcmp (eX12_layRest 108 rfl) ?_
              refine v_jn (fun (k41 : Int64 → Option (Int32 × Zh)) => ∀ (x27 : Int64), V l mX12_layRest (zN h) (zS h) 0 zoI 215 [some (.ref a0, 12), none, none, none, some (.int x24, 0), none, none, none, none, none, none, none] [(.long x27, 0)] h3 (k41 x27)) ?_ ?_
              · intro x27
                unfold gX12_layRest_J4
                refine zr_lstore (ls2 := [some (.ref a0, 12), none, none, none, some (.int x24, 0), none, some (.long x27, 0), none, none, none, none, none]) (eX12_layRest 114 rfl) (Nat.le_of_ble_eq_true rfl) rfl ?_
                refine zr_iconst (eX12_layRest 115 rfl) zk_iconst_1 ?_
                refine zr_istore (ls2 := [some (.ref a0, 12), none, none, none, some (.int x24, 0), none, some (.long x27, 0), none, none, none, some (.int 1, 0), none]) (eX12_layRest 116 rfl) (Nat.le_of_ble_eq_true rfl) rfl ?_
                refine zr_iconst (eX12_layRest 117 rfl) zk_iconst_0 ?_
                refine zr_istore (ls2 := [some (.ref a0, 12), none, none, none, some (.int x24, 0), none, some (.long x27, 0), none, none, none, some (.int 1, 0), some (.int 0, 0)]) (eX12_layRest 118 rfl) (Nat.le_of_ble_eq_true rfl) rfl ?_
                refine v_drop [true, false, false, false, true, false, true, false, false, false, true, true] rfl ?_
                refine zlp_ind (fun (k30 : Int32 → Int32 → Zh → Option (Int32 × Zh)) => ∀ (x28 : Int32) (x29 : Int32) (h4 : Zh), V l mX12_layRest (zN h) (zS h) 0 zoI 223 [some (.ref a0, 12), none, none, none, some (.int x24, 0), none, some (.long x27, 0), none, none, none, some (.int x28, 0), some (.int x29, 0)] [] h4 (k30 x28 x29 h4)) ?_ ?_ 1 0 h3
                · exact fun _ _ _ => v_none
                intro k30 hk30 x28 x29 h4
                unfold gX12_layRest_L3
                refine zr_iload (eX12_layRest 119 rfl) rfl ?_
                refine zr_aload_n (r := (some a0)) (eX12_layRest 120 rfl) rfl rfl ?_
                refine zr_getI zf_RX12_183 ⟨by decide, by decide⟩ (eX12_layRest 121 rfl) ?_
                refine zr_icmp_ge (eX12_layRest 122 rfl) (t := 290) (by decide) ?_ ?_
                · refine zr_iload (eX12_layRest 153 rfl) rfl ?_
                  refine v_g (fun hb => ?_)
                  exact zr_zret rfl (zbl_of hb) rfl (eX12_layRest 154 rfl)
                · refine zr_aload_n (r := (some a0)) (eX12_layRest 123 rfl) rfl rfl ?_
                  refine zr_getR2 zf_RX12_47 (τ2 := 21) rfl (eX12_layRest 124 rfl) ?_
                  refine v_letr (fun r31 => ?_)
                  refine zr_iload (eX12_layRest 125 rfl) rfl ?_
                  refine zr_aload_n (r := (some a0)) (eX12_layRest 126 rfl) rfl rfl ?_
                  refine zr_getR2 zf_RX12_29 (τ2 := 21) rfl (eX12_layRest 127 rfl) ?_
                  refine v_letr (fun r32 => ?_)
                  refine zr_bipush (eX12_layRest 128 rfl) zk_bipush_10 ?_
                  refine zr_iload (eX12_layRest 129 rfl) rfl ?_
                  refine zr_imul (eX12_layRest 130 rfl) ?_
                  refine zr_iload (eX12_layRest 131 rfl) rfl ?_
                  refine zr_iadd (eX12_layRest 132 rfl) ?_
                  refine v_nn (fun a33 ea33 => ?_)
                  subst ea33
                  refine zr_lald (eX12_layRest 133 rfl) ?_
                  refine zr_lload (eX12_layRest 134 rfl) rfl ?_
                  refine zr_ldiv (eX12_layRest 135 rfl) ?_
                  refine v_nn (fun a34 ea34 => ?_)
                  subst ea34
                  refine zr_last (eX12_layRest 136 rfl) ?_
                  refine v_leth (fun h5 => ?_)
                  refine zr_iload (eX12_layRest 137 rfl) rfl ?_
                  refine v_jn (fun (k36 : Int32 → Option (Int32 × Zh)) => ∀ (x35 : Int32), V l mX12_layRest (zN h) (zS h) 0 zoI 282 [some (.ref a0, 12), none, none, none, some (.int x24, 0), none, some (.long x27, 0), none, none, none, none, some (.int x29, 0)] [(.int x35, 0)] h5 (k36 x35)) ?_ ?_
                  · intro x35
                    unfold gX12_layRest_J1
                    refine zr_istore (ls2 := [some (.ref a0, 12), none, none, none, some (.int x24, 0), none, some (.long x27, 0), none, none, none, some (.int x35, 0), some (.int x29, 0)]) (eX12_layRest 150 rfl) (Nat.le_of_ble_eq_true rfl) rfl ?_
                    refine zr_iinc (ls2 := [some (.ref a0, 12), none, none, none, some (.int x24, 0), none, some (.long x27, 0), none, none, none, some (.int x35, 0), some (.int (x29 + 1), 0)]) (eX12_layRest 151 rfl) rfl (Nat.le_of_ble_eq_true rfl) zk_iconst_1 rfl ?_
                    refine zr_goto (eX12_layRest 152 rfl) (t := 223) (by decide) ?_
                    exact v_drop [true, false, false, false, true, false, true, false, false, false, true, true] rfl (hk30 x35 (x29 + 1) h5)
                  intro k36 hk36
                  refine v_jn (fun (k37 : Option (Int32 × Zh)) => V l mX12_layRest (zN h) (zS h) 0 zoI 281 [some (.ref a0, 12), none, none, none, some (.int x24, 0), none, some (.long x27, 0), none, none, none, none, some (.int x29, 0)] [] h5 k37) ?_ ?_
                  · skip
                    unfold gX12_layRest_J2
                    refine zr_iconst (eX12_layRest 149 rfl) zk_iconst_0 ?_
                    exact v_drop [true, false, false, false, true, false, true, false, false, false, false, true] rfl (hk36 0)
                  intro k37 hk37
                  refine zr_if_eq (eX12_layRest 138 rfl) (t := 281) (by decide) ?_ ?_
                  · exact v_drop [true, false, false, false, true, false, true, false, false, false, false, true] rfl (hk37)
                  · refine zr_aload_n (r := (some a0)) (eX12_layRest 139 rfl) rfl rfl ?_
                    refine zr_getR2 zf_RX12_47 (τ2 := 21) rfl (eX12_layRest 140 rfl) ?_
                    refine v_letr (fun r38 => ?_)
                    refine zr_iload (eX12_layRest 141 rfl) rfl ?_
                    refine v_nn (fun a39 ea39 => ?_)
                    subst ea39
                    refine zr_lald (eX12_layRest 142 rfl) ?_
                    refine zr_invS_j (as := [(.long (zJ h5 a39 (zx x29)), 0)]) (cX12_sizeOf_ok l h5 (zJ h5 a39 (zx x29))) rfl zcd_X12_sizeOf ⟨zw_1356, zw_1357, zw_62⟩ ⟨Nat.le_of_ble_eq_true rfl, Nat.le_of_ble_eq_true rfl⟩ rfl (Nat.le_of_ble_eq_true rfl) (eX12_layRest 143 rfl) (fun x40 => ?_)
                    refine zr_ldc2 (eX12_layRest 144 rfl) zw_1359 ?_
                    refine zr_lcmp (eX12_layRest 145 rfl) ?_
                    refine zr_if_gt (eX12_layRest 146 rfl) (t := 281) (by decide) ?_ ?_
                    · exact v_drop [true, false, false, false, true, false, true, false, false, false, false, true] rfl (hk37)
                    · refine zr_iconst (eX12_layRest 147 rfl) zk_iconst_1 ?_
                      refine zr_goto (eX12_layRest 148 rfl) (t := 282) (by decide) ?_
                      exact v_drop [true, false, false, false, true, false, true, false, false, false, false, true] rfl (hk36 1)
              intro k41 hk41
              refine zr_if_ge (eX12_layRest 109 rfl) (t := 213) (by decide) ?_ ?_
              · refine zr_lload (eX12_layRest 113 rfl) rfl ?_
                exact v_drop [true, false, false, false, true, false, false, false, false, false, false, false] rfl (hk41 x25)
              · refine zr_lload (eX12_layRest 110 rfl) rfl ?_
                refine zr_lneg (eX12_layRest 111 rfl) ?_
                refine zr_goto (eX12_layRest 112 rfl) (t := 215) (by decide) ?_
                exact v_drop [true, false, false, false, true, false, false, false, false, false, false, false] rfl (hk41 (-x25))
            intro k42 hk42
            refine v_drop [true, false, false, false, true, false, true, false, true, false, true, false] rfl ?_
            refine zlp_ind (fun (k46 : Int64 → Int64 → Int32 → Option (Int32 × Zh)) => ∀ (x43 : Int64) (x44 : Int64) (x45 : Int32), V l mX12_layRest (zN h) (zS h) 0 zoI 138 [some (.ref a0, 12), none, none, none, some (.int x24, 0), none, some (.long x43, 0), none, some (.long x44, 0), none, some (.int x45, 0), none] [] h3 (k46 x43 x44 x45)) ?_ ?_ 0 0 0
            · exact fun _ _ _ => v_none
            intro k46 hk46 x43 x44 x45
            unfold gX12_layRest_L7
            refine zr_iload (eX12_layRest 74 rfl) rfl ?_
            refine zr_aload_n (r := (some a0)) (eX12_layRest 75 rfl) rfl rfl ?_
            refine zr_getI zf_RX12_183 ⟨by decide, by decide⟩ (eX12_layRest 76 rfl) ?_
            refine zr_icmp_ge (eX12_layRest 77 rfl) (t := 200) (by decide) ?_ ?_
            · exact v_drop [true, false, false, false, true, false, true, false, true, false, false, false] rfl (hk42 x43 x44)
            · refine zr_lload (eX12_layRest 78 rfl) rfl ?_
              refine zr_aload_n (r := (some a0)) (eX12_layRest 79 rfl) rfl rfl ?_
              refine zr_getR2 zf_RX12_29 (τ2 := 21) rfl (eX12_layRest 80 rfl) ?_
              refine v_letr (fun r47 => ?_)
              refine zr_bipush (eX12_layRest 81 rfl) zk_bipush_10 ?_
              refine zr_iload (eX12_layRest 82 rfl) rfl ?_
              refine zr_imul (eX12_layRest 83 rfl) ?_
              refine zr_iload (eX12_layRest 84 rfl) rfl ?_
              refine zr_iadd (eX12_layRest 85 rfl) ?_
              refine v_nn (fun a48 ea48 => ?_)
              subst ea48
              refine zr_lald (eX12_layRest 86 rfl) ?_
              refine zr_invS_j (as := [(.long x43, 0), (.long (zJ h3 a48 (zx ((10 * x45) + x24))), 0)]) (cX12_common_ok l h3 x43 (zJ h3 a48 (zx ((10 * x45) + x24)))) rfl zcd_X12_common ⟨zw_1353, zw_1354, zw_62⟩ ⟨Nat.le_of_ble_eq_true rfl, Nat.le_of_ble_eq_true rfl⟩ rfl (Nat.le_of_ble_eq_true rfl) (eX12_layRest 87 rfl) (fun x49 => ?_)
              refine zr_lstore (ls2 := [some (.ref a0, 12), none, none, none, some (.int x24, 0), none, some (.long x49, 0), none, some (.long x44, 0), none, some (.int x45, 0), none]) (eX12_layRest 88 rfl) (Nat.le_of_ble_eq_true rfl) rfl ?_
              refine zr_lload (eX12_layRest 89 rfl) rfl ?_
              refine zr_lconst (eX12_layRest 90 rfl) zk_lconst_0 ?_
              refine zr_lcmp (eX12_layRest 91 rfl) ?_
              refine v_jn (fun (k51 : Int64 → Option (Int32 × Zh)) => ∀ (x50 : Int64), V l mX12_layRest (zN h) (zS h) 0 zoI 192 [some (.ref a0, 12), none, none, none, some (.int x24, 0), none, some (.long x49, 0), none, none, none, some (.int x45, 0), none] [(.long x50, 0)] h3 (k51 x50)) ?_ ?_
              · intro x50
                unfold gX12_layRest_J6
                refine zr_lstore (ls2 := [some (.ref a0, 12), none, none, none, some (.int x24, 0), none, some (.long x49, 0), none, some (.long x50, 0), none, some (.int x45, 0), none]) (eX12_layRest 103 rfl) (Nat.le_of_ble_eq_true rfl) rfl ?_
                refine zr_iinc (ls2 := [some (.ref a0, 12), none, none, none, some (.int x24, 0), none, some (.long x49, 0), none, some (.long x50, 0), none, some (.int (x45 + 1), 0), none]) (eX12_layRest 104 rfl) rfl (Nat.le_of_ble_eq_true rfl) zk_iconst_1 rfl ?_
                refine zr_goto (eX12_layRest 105 rfl) (t := 138) (by decide) ?_
                exact v_drop [true, false, false, false, true, false, true, false, true, false, true, false] rfl (hk46 x49 x50 (x45 + 1))
              intro k51 hk51
              refine zr_if_eq (eX12_layRest 92 rfl) (t := 179) (by decide) ?_ ?_
              · refine zr_aload_n (r := (some a0)) (eX12_layRest 95 rfl) rfl rfl ?_
                refine zr_getR2 zf_RX12_29 (τ2 := 21) rfl (eX12_layRest 96 rfl) ?_
                refine v_letr (fun r52 => ?_)
                refine zr_bipush (eX12_layRest 97 rfl) zk_bipush_10 ?_
                refine zr_iload (eX12_layRest 98 rfl) rfl ?_
                refine zr_imul (eX12_layRest 99 rfl) ?_
                refine zr_iload (eX12_layRest 100 rfl) rfl ?_
                refine zr_iadd (eX12_layRest 101 rfl) ?_
                refine v_nn (fun a53 ea53 => ?_)
                subst ea53
                refine zr_lald (eX12_layRest 102 rfl) ?_
                exact v_drop [true, false, false, false, true, false, true, false, false, false, true, false] rfl (hk51 (zJ h3 a53 (zx ((10 * x45) + x24))))
              · refine zr_lload (eX12_layRest 93 rfl) rfl ?_
                refine zr_goto (eX12_layRest 94 rfl) (t := 192) (by decide) ?_
                exact v_drop [true, false, false, false, true, false, true, false, false, false, true, false] rfl (hk51 x44)
          intro k54 hk54
          refine v_drop [true, false, false, false, true, true, false, false, false, false, false, false] rfl ?_
          refine zlp_ind (fun (k57 : Int32 → Int32 → Option (Int32 × Zh)) => ∀ (x55 : Int32) (x56 : Int32), V l mX12_layRest (zN h) (zS h) 0 zoI 58 [some (.ref a0, 12), none, none, none, some (.int x55, 0), some (.int x56, 0), none, none, none, none, none, none] [] h3 (k57 x55 x56)) ?_ ?_ 0 0
          · exact fun _ _ => v_none
          intro k57 hk57 x55 x56
          unfold gX12_layRest_L14
          refine zr_iload (eX12_layRest 32 rfl) rfl ?_
          refine zr_if_ne (eX12_layRest 33 rfl) (t := 129) (by decide) ?_ ?_
          · exact v_drop [true, false, false, false, true, false, false, false, false, false, false, false] rfl (hk54 x55)
          · refine zr_iconst (eX12_layRest 34 rfl) zk_iconst_0 ?_
            refine zr_istore (ls2 := [some (.ref a0, 12), none, none, none, some (.int x55, 0), some (.int x56, 0), some (.int 0, 0), none, none, none, none, none]) (eX12_layRest 35 rfl) (Nat.le_of_ble_eq_true rfl) rfl ?_
            refine v_jn (fun (k62 : Int32 → Option (Int32 × Zh)) => ∀ (x58 : Int32), V l mX12_layRest (zN h) (zS h) 0 zoI 111 [some (.ref a0, 12), none, none, none, some (.int x55, 0), some (.int x58, 0), none, none, none, none, none, none] [] h3 (k62 x58)) ?_ ?_
            · intro x58
              unfold gX12_layRest_J10
              refine zr_iload (eX12_layRest 59 rfl) rfl ?_
              refine zr_iload (eX12_layRest 60 rfl) rfl ?_
              refine v_jn (fun (k61 : Int32 → Option (Int32 × Zh)) => ∀ (x59 : Int32), V l mX12_layRest (zN h) (zS h) 0 zoI 123 [some (.ref a0, 12), none, none, none, none, some (.int x58, 0), none, none, none, none, none, none] [(.int x59, 0), (.int x55, 0)] h3 (k61 x59)) ?_ ?_
              · intro x59
                unfold gX12_layRest_J9
                refine zr_iadd (eX12_layRest 65 rfl) ?_
                refine v_leti (fun x60 => ?_)
                refine zr_istore (ls2 := [some (.ref a0, 12), none, none, none, some (.int x60, 0), some (.int x58, 0), none, none, none, none, none, none]) (eX12_layRest 66 rfl) (Nat.le_of_ble_eq_true rfl) rfl ?_
                refine zr_goto (eX12_layRest 67 rfl) (t := 58) (by decide) ?_
                exact v_drop [true, false, false, false, true, true, false, false, false, false, false, false] rfl (hk57 x60 x58)
              intro k61 hk61
              refine zr_if_eq (eX12_layRest 61 rfl) (t := 122) (by decide) ?_ ?_
              · refine zr_iconst (eX12_layRest 64 rfl) zk_iconst_1 ?_
                exact v_drop [true, false, false, false, false, true, false, false, false, false, false, false] rfl (hk61 1)
              · refine zr_iconst (eX12_layRest 62 rfl) zk_iconst_0 ?_
                refine zr_goto (eX12_layRest 63 rfl) (t := 123) (by decide) ?_
                exact v_drop [true, false, false, false, false, true, false, false, false, false, false, false] rfl (hk61 0)
            intro k62 hk62
            refine v_drop [true, false, false, false, true, true, true, false, false, false, false, false] rfl ?_
            refine zlp_ind (fun (k65 : Int32 → Int32 → Option (Int32 × Zh)) => ∀ (x63 : Int32) (x64 : Int32), V l mX12_layRest (zN h) (zS h) 0 zoI 66 [some (.ref a0, 12), none, none, none, some (.int x55, 0), some (.int x63, 0), some (.int x64, 0), none, none, none, none, none] [] h3 (k65 x63 x64)) ?_ ?_ x56 0
            · exact fun _ _ => v_none
            intro k65 hk65 x63 x64
            unfold gX12_layRest_L13
            refine zr_iload (eX12_layRest 36 rfl) rfl ?_
            refine zr_aload_n (r := (some a0)) (eX12_layRest 37 rfl) rfl rfl ?_
            refine zr_getI zf_RX12_183 ⟨by decide, by decide⟩ (eX12_layRest 38 rfl) ?_
            refine zr_icmp_ge (eX12_layRest 39 rfl) (t := 111) (by decide) ?_ ?_
            · exact v_drop [true, false, false, false, true, true, false, false, false, false, false, false] rfl (hk62 x63)
            · refine zr_iload (eX12_layRest 40 rfl) rfl ?_
              refine v_jn (fun (k67 : Int32 → Option (Int32 × Zh)) => ∀ (x66 : Int32), V l mX12_layRest (zN h) (zS h) 0 zoI 103 [some (.ref a0, 12), none, none, none, some (.int x55, 0), none, some (.int x64, 0), none, none, none, none, none] [(.int x66, 0)] h3 (k67 x66)) ?_ ?_
              · intro x66
                unfold gX12_layRest_J11
                refine zr_istore (ls2 := [some (.ref a0, 12), none, none, none, some (.int x55, 0), some (.int x66, 0), some (.int x64, 0), none, none, none, none, none]) (eX12_layRest 56 rfl) (Nat.le_of_ble_eq_true rfl) rfl ?_
                refine zr_iinc (ls2 := [some (.ref a0, 12), none, none, none, some (.int x55, 0), some (.int x66, 0), some (.int (x64 + 1), 0), none, none, none, none, none]) (eX12_layRest 57 rfl) rfl (Nat.le_of_ble_eq_true rfl) zk_iconst_1 rfl ?_
                refine zr_goto (eX12_layRest 58 rfl) (t := 66) (by decide) ?_
                exact v_drop [true, false, false, false, true, true, true, false, false, false, false, false] rfl (hk65 x66 (x64 + 1))
              intro k67 hk67
              refine v_jn (fun (k68 : Option (Int32 × Zh)) => V l mX12_layRest (zN h) (zS h) 0 zoI 98 [some (.ref a0, 12), none, none, none, some (.int x55, 0), none, some (.int x64, 0), none, none, none, none, none] [] h3 k68) ?_ ?_
              · skip
                unfold gX12_layRest_J12
                refine zr_iconst (eX12_layRest 53 rfl) zk_iconst_1 ?_
                refine zr_goto (eX12_layRest 54 rfl) (t := 103) (by decide) ?_
                exact v_drop [true, false, false, false, true, false, true, false, false, false, false, false] rfl (hk67 1)
              intro k68 hk68
              refine zr_if_ne (eX12_layRest 41 rfl) (t := 98) (by decide) ?_ ?_
              · exact v_drop [true, false, false, false, true, false, true, false, false, false, false, false] rfl (hk68)
              · refine zr_aload_n (r := (some a0)) (eX12_layRest 42 rfl) rfl rfl ?_
                refine zr_getR2 zf_RX12_29 (τ2 := 21) rfl (eX12_layRest 43 rfl) ?_
                refine v_letr (fun r69 => ?_)
                refine zr_bipush (eX12_layRest 44 rfl) zk_bipush_10 ?_
                refine zr_iload (eX12_layRest 45 rfl) rfl ?_
                refine zr_imul (eX12_layRest 46 rfl) ?_
                refine zr_iload (eX12_layRest 47 rfl) rfl ?_
                refine zr_iadd (eX12_layRest 48 rfl) ?_
                refine v_nn (fun a70 ea70 => ?_)
                subst ea70
                refine zr_lald (eX12_layRest 49 rfl) ?_
                refine zr_lconst (eX12_layRest 50 rfl) zk_lconst_0 ?_
                refine zr_lcmp (eX12_layRest 51 rfl) ?_
                refine zr_if_eq (eX12_layRest 52 rfl) (t := 102) (by decide) ?_ ?_
                · refine zr_iconst (eX12_layRest 55 rfl) zk_iconst_0 ?_
                  exact v_drop [true, false, false, false, true, false, true, false, false, false, false, false] rfl (hk67 0)
                · exact v_drop [true, false, false, false, true, false, true, false, false, false, false, false] rfl (hk68)
        · refine zr_iconst (eX12_layRest 23 rfl) zk_iconst_0 ?_
          exact zr_zret rfl (by decide) rfl (eX12_layRest 24 rfl)
      · refine zr_iconst (eX12_layRest 14 rfl) zk_iconst_0 ?_
        exact zr_zret rfl (by decide) rfl (eX12_layRest 15 rfl)
def gX12_rest_J1 (h1 : Zh) : Option (Int64 × Zh) :=
  zbj (gX12_lost ) (fun x22 => (some (x22, h1)))
def gX12_rest (h : Zh) (a0 : Nat) (x1 : Int32) (x2 : Int32) (x3 : Int32) (x4 : Int32) : Option (Int64 × Zh) :=
  zbI (gX12_layRest h a0 x1 x2 x3) (fun x21 h1 => zjn (gX12_rest_J1 h1) (fun (k23 : Option (Int64 × Zh)) =>
  (if (x21 : Int32) = 0 then k23
  else zbi (gX12_in ((x4 : Int32).toInt64) 0 ((((zI h1 a0 5) : Int32).toInt64) - 1)) (fun x24 => (if (x24 : Int32) = 0 then k23
  else zlt (zR h1 a0 18) (fun r25 => Option.bind r25 (fun a26 => zg (zin x4 (zL h1 a26)) ((some ((zJ h1 a26 (zx x4)), h1))))))))))
set_option maxRecDepth 20000 in
theorem cX12_rest_ok (l : Launch) (h : Zh) (a0 : Nat) (x1 : Int32) (x2 : Int32) (x3 : Int32) (x4 : Int32) : Zc l yX12_rest mX12_rest 0 h [(.ref a0, 12), (.int x1, 0), (.int x2, 0), (.int x3, 0), (.int x4, 0)] ((gX12_rest h a0 x1 x2 x3 x4).map zoJ) := by
  refine zc_of2 (ls := [some (.ref a0, 12), some (.int x1, 0), some (.int x2, 0), some (.int x3, 0), some (.int x4, 0)]) (j := 0) (by decide +kernel) rfl rfl (zEn_ca (zEn_ci (zEn_ci (zEn_ci (zEn_ci rfl))))) (Nat.le_of_ble_eq_true rfl) rfl ?_
  unfold gX12_rest
  refine zr_aload_n (r := (some a0)) (eX12_rest 0 rfl) rfl rfl ?_
  refine zr_iload_n (eX12_rest 1 rfl) rfl rfl ?_
  refine zr_iload_n (eX12_rest 2 rfl) rfl rfl ?_
  refine zr_iload_n (eX12_rest 3 rfl) rfl rfl ?_
  refine zr_invV_I (as := [(.int x1, 0), (.int x2, 0), (.int x3, 0)]) (cX12_layRest_ok l h a0 x1 x2 x3) rfl rfl ⟨by decide, by decide, by decide⟩ zcd_X12_layRest rfl ⟨zw_1345, zw_1347, zw_30, zw_62⟩ ⟨Nat.le_of_ble_eq_true rfl, Nat.le_of_ble_eq_true rfl⟩ rfl (Nat.le_of_ble_eq_true rfl) (eX12_rest 4 rfl) (fun x21 h1 => ?_)
  refine v_jn (fun (k23 : Option (Int64 × Zh)) => V l mX12_rest (zN h) (zS h) 0 zoJ 37 [none, none, none, none, none] [] h1 k23) ?_ ?_
  · skip
    unfold gX12_rest_J1
    refine zr_invS_j (as := []) (cX12_lost_ok l h1 ) rfl zcd_X12_lost ⟨zw_1224, zw_1225, zw_62⟩ ⟨Nat.le_of_ble_eq_true rfl, Nat.le_of_ble_eq_true rfl⟩ rfl (Nat.le_of_ble_eq_true rfl) (eX12_rest 21 rfl) (fun x22 => ?_)
    exact zr_lret rfl rfl (eX12_rest 22 rfl)
  intro k23 hk23
  refine zr_if_eq (eX12_rest 5 rfl) (t := 37) (by decide) ?_ ?_
  · exact v_drop [false, false, false, false, false] rfl (hk23)
  · refine zr_iload (eX12_rest 6 rfl) rfl ?_
    refine zr_i2l (eX12_rest 7 rfl) ?_
    refine zr_lconst (eX12_rest 8 rfl) zk_lconst_0 ?_
    refine zr_aload_n (r := (some a0)) (eX12_rest 9 rfl) rfl rfl ?_
    refine zr_getI zf_RX12_183 ⟨by decide, by decide⟩ (eX12_rest 10 rfl) ?_
    refine zr_i2l (eX12_rest 11 rfl) ?_
    refine zr_lconst (eX12_rest 12 rfl) zk_lconst_1 ?_
    refine zr_lsub (eX12_rest 13 rfl) ?_
    refine zr_invS_i (as := [(.long ((x4 : Int32).toInt64), 0), (.long 0, 0), (.long ((((zI h1 a0 5) : Int32).toInt64) - 1), 0)]) (cX12_in_ok l h1 ((x4 : Int32).toInt64) 0 ((((zI h1 a0 5) : Int32).toInt64) - 1)) rfl zcd_X12_in ⟨zw_1203, zw_1204, zw_62⟩ ⟨Nat.le_of_ble_eq_true rfl, Nat.le_of_ble_eq_true rfl⟩ rfl (Nat.le_of_ble_eq_true rfl) (eX12_rest 14 rfl) (fun x24 => ?_)
    refine zr_if_eq (eX12_rest 15 rfl) (t := 37) (by decide) ?_ ?_
    · exact v_drop [false, false, false, false, false] rfl (hk23)
    · refine zr_aload_n (r := (some a0)) (eX12_rest 16 rfl) rfl rfl ?_
      refine zr_getR2 zf_RX12_47 (τ2 := 21) rfl (eX12_rest 17 rfl) ?_
      refine v_letr (fun r25 => ?_)
      refine zr_iload (eX12_rest 18 rfl) rfl ?_
      refine v_nn (fun a26 ea26 => ?_)
      subst ea26
      refine zr_lald (eX12_rest 19 rfl) ?_
      refine zr_goto (eX12_rest 20 rfl) (t := 40) (by decide) ?_
      exact zr_lret rfl rfl (eX12_rest 22 rfl)
def gX12_seen_J1 : Zh → Option (Int64 × Zh) :=
  fun (h1 : Zh) => zbj (gX12_lost ) (fun x23 => (some (x23, h1)))
def gX12_seen_J2 (h2 : Zh) (x26 : Int64) (x27 : Int64) : Int64 → Option (Int64 × Zh) :=
  fun (x28 : Int64) => zbj (gX12_common x26 x27) (fun x29 => (if (x29 : Int64) = 0 then none else (some ((x28 / x29), h2))))
def gX12_seen_J3 (x6 : Int32) (h2 : Zh) : Int64 → Int64 → Option (Int64 × Zh) :=
  fun (x26 : Int64) (x27 : Int64) => zjn (gX12_seen_J2 h2 x26 x27) (fun (k30 : Int64 → Option (Int64 × Zh)) =>
  (if (x6 : Int32) = 0 then k30 x26
  else k30 x27))
def gX12_seen_J4 (x34 : Int32) (k35 : Int64 → Int64 → Int32 → Option (Int64 × Zh)) : Int64 → Int64 → Option (Int64 × Zh) :=
  fun (x38 : Int64) (x39 : Int64) => k35 x38 x39 (x34 + 1)
def gX12_seen_J5 (x32 : Int64) (x33 : Int64) (k40 : Int64 → Int64 → Option (Int64 × Zh)) (x51 : Int64) : Int64 → Option (Int64 × Zh) :=
  fun (x53 : Int64) => zlt (x32 + x53) (fun x54 => zlt (x33 + x51) (fun x55 => k40 x54 x55))
def gX12_seen_L6 (a0 : Nat) (x1 : Int32) (x4 : Int32) (x5 : Int32) (h2 : Zh) (k31 : Int64 → Int64 → Option (Int64 × Zh)) : (Int64 → Int64 → Int32 → Option (Int64 × Zh)) → Int64 → Int64 → Int32 → Option (Int64 × Zh) :=
  fun (k35 : Int64 → Int64 → Int32 → Option (Int64 × Zh)) (x32 : Int64) (x33 : Int64) (x34 : Int32) => zbi (gX12_stateMany h2 a0) (fun x36 => (if (x36 : Int32) ≤ x34 then k31 x32 x33
  else zbi (gX12_count x34) (fun x37 => zjn (gX12_seen_J4 x34 k35) (fun (k40 : Int64 → Int64 → Option (Int64 × Zh)) =>
  (if (x37 : Int32) = x1 then zlt (zR h2 a0 7) (fun r41 => Option.bind r41 (fun a42 => zg (zin x34 (zL h2 a42)) ((if ((zI h2 a42 (zx x34)) : Int32) < 0 then k40 x32 x33
  else zlt (zR h2 a0 18) (fun r43 => zlt (zR h2 a0 7) (fun r44 => Option.bind r44 (fun a45 => zg (zin x34 (zL h2 a45)) (Option.bind r43 (fun a46 => zg (zin (zI h2 a45 (zx x34)) (zL h2 a46)) (zlt (zR h2 a0 18) (fun r47 => zlt (zR h2 a0 7) (fun r48 => Option.bind r48 (fun a49 => zg (zin x34 (zL h2 a49)) (Option.bind r47 (fun a50 => zg (zin (zI h2 a49 (zx x34)) (zL h2 a50)) (zlt ((zJ h2 a46 (zx (zI h2 a45 (zx x34)))) * (zJ h2 a50 (zx (zI h2 a49 (zx x34))))) (fun x51 => zbi (gX12_areAlike a0 x34 x4 x5) (fun x52 => zjn (gX12_seen_J5 x32 x33 k40 x51) (fun (k56 : Int64 → Option (Int64 × Zh)) =>
  (if (x52 : Int32) = 0 then k56 (-x51)
  else k56 x51))))))))))))))))))))
  else k40 x32 x33)))))
def gX12_seen_J7 (h : Zh) (a0 : Nat) (x1 : Int32) (x2 : Int32) (x3 : Int32) (x4 : Int32) (x5 : Int32) (x6 : Int32) : Int32 → Option (Int64 × Zh) :=
  fun (x22 : Int32) => zjn gX12_seen_J1 (fun (k24 : Zh → Option (Int64 × Zh)) =>
  (if (x22 : Int32) = 0 then k24 h
  else zbI (gX12_layRest h a0 x1 x2 x3) (fun x25 h2 => (if (x25 : Int32) = 0 then k24 h2
  else zjn (gX12_seen_J3 x6 h2) (fun (k31 : Int64 → Int64 → Option (Int64 × Zh)) =>
  zlp (fun (_ : Int64) (_ : Int64) (_ : Int32) => (none : Option (Int64 × Zh))) (gX12_seen_L6 a0 x1 x4 x5 h2 k31) zFU 0 0 0)))))
def gX12_seen_J8 (k57 : Int32 → Option (Int64 × Zh)) : Option (Int64 × Zh) :=
  k57 0
def gX12_seen (h : Zh) (a0 : Nat) (x1 : Int32) (x2 : Int32) (x3 : Int32) (x4 : Int32) (x5 : Int32) (x6 : Int32) : Option (Int64 × Zh) :=
  zbi (gX12_in ((x4 : Int32).toInt64) 0 ((((zI h a0 1) : Int32).toInt64) - 1)) (fun x21 => zjn (gX12_seen_J7 h a0 x1 x2 x3 x4 x5 x6) (fun (k57 : Int32 → Option (Int64 × Zh)) =>
  zjn (gX12_seen_J8 k57) (fun (k58 : Option (Int64 × Zh)) =>
  (if (x21 : Int32) = 0 then k58
  else zbi (gX12_in ((x5 : Int32).toInt64) 0 ((((zI h a0 1) : Int32).toInt64) - 1)) (fun x59 => (if (x59 : Int32) = 0 then k58
  else zbi (gX12_in ((x6 : Int32).toInt64) 0 1) (fun x60 => (if (x60 : Int32) = 0 then k58
  else k57 1))))))))
set_option maxRecDepth 20000 in
theorem cX12_seen_ok (l : Launch) (h : Zh) (a0 : Nat) (x1 : Int32) (x2 : Int32) (x3 : Int32) (x4 : Int32) (x5 : Int32) (x6 : Int32) : Zc l yX12_seen mX12_seen 0 h [(.ref a0, 12), (.int x1, 0), (.int x2, 0), (.int x3, 0), (.int x4, 0), (.int x5, 0), (.int x6, 0)] ((gX12_seen h a0 x1 x2 x3 x4 x5 x6).map zoJ) := by
  refine zc_of2 (ls := [some (.ref a0, 12), some (.int x1, 0), some (.int x2, 0), some (.int x3, 0), some (.int x4, 0), some (.int x5, 0), some (.int x6, 0), none, none, none, none, none, none, none, none]) (j := 8) (by decide +kernel) rfl rfl (zEn_ca (zEn_ci (zEn_ci (zEn_ci (zEn_ci (zEn_ci (zEn_ci rfl))))))) (Nat.le_of_ble_eq_true rfl) rfl ?_
  unfold gX12_seen
  refine zr_iload (eX12_seen 0 rfl) rfl ?_
  refine zr_i2l (eX12_seen 1 rfl) ?_
  refine zr_lconst (eX12_seen 2 rfl) zk_lconst_0 ?_
  refine zr_aload_n (r := (some a0)) (eX12_seen 3 rfl) rfl rfl ?_
  refine zr_getI zf_RX12_111 ⟨by decide, by decide⟩ (eX12_seen 4 rfl) ?_
  refine zr_i2l (eX12_seen 5 rfl) ?_
  refine zr_lconst (eX12_seen 6 rfl) zk_lconst_1 ?_
  refine zr_lsub (eX12_seen 7 rfl) ?_
  refine zr_invS_i (as := [(.long ((x4 : Int32).toInt64), 0), (.long 0, 0), (.long ((((zI h a0 1) : Int32).toInt64) - 1), 0)]) (cX12_in_ok l h ((x4 : Int32).toInt64) 0 ((((zI h a0 1) : Int32).toInt64) - 1)) rfl zcd_X12_in ⟨zw_1203, zw_1204, zw_62⟩ ⟨Nat.le_of_ble_eq_true rfl, Nat.le_of_ble_eq_true rfl⟩ rfl (Nat.le_of_ble_eq_true rfl) (eX12_seen 8 rfl) (fun x21 => ?_)
  refine v_jn (fun (k57 : Int32 → Option (Int64 × Zh)) => ∀ (x22 : Int32), V l mX12_seen (zN h) (zS h) 0 zoJ 50 [some (.ref a0, 12), some (.int x1, 0), some (.int x2, 0), some (.int x3, 0), some (.int x4, 0), some (.int x5, 0), some (.int x6, 0), none, none, none, none, none, none, none, none] [(.int x22, 0)] h (k57 x22)) ?_ ?_
  · intro x22
    unfold gX12_seen_J7
    refine zr_istore (ls2 := [some (.ref a0, 12), some (.int x1, 0), some (.int x2, 0), some (.int x3, 0), some (.int x4, 0), some (.int x5, 0), some (.int x6, 0), some (.int x22, 0), none, none, none, none, none, none, none]) (eX12_seen 29 rfl) (Nat.le_of_ble_eq_true rfl) rfl ?_
    refine zr_iload (eX12_seen 30 rfl) rfl ?_
    refine v_jn (fun (k24 : Zh → Option (Int64 × Zh)) => ∀ (h1 : Zh), V l mX12_seen (zN h) (zS h) 0 zoJ 67 [none, none, none, none, none, none, none, none, none, none, none, none, none, none, none] [] h1 (k24 h1)) ?_ ?_
    · intro h1
      unfold gX12_seen_J1
      refine zr_invS_j (as := []) (cX12_lost_ok l h1 ) rfl zcd_X12_lost ⟨zw_1224, zw_1225, zw_62⟩ ⟨Nat.le_of_ble_eq_true rfl, Nat.le_of_ble_eq_true rfl⟩ rfl (Nat.le_of_ble_eq_true rfl) (eX12_seen 38 rfl) (fun x23 => ?_)
      exact zr_lret rfl rfl (eX12_seen 39 rfl)
    intro k24 hk24
    refine zr_if_eq (eX12_seen 31 rfl) (t := 67) (by decide) ?_ ?_
    · exact v_drop [false, false, false, false, false, false, false, false, false, false, false, false, false, false, false] rfl (hk24 h)
    · refine zr_aload_n (r := (some a0)) (eX12_seen 32 rfl) rfl rfl ?_
      refine zr_iload_n (eX12_seen 33 rfl) rfl rfl ?_
      refine zr_iload_n (eX12_seen 34 rfl) rfl rfl ?_
      refine zr_iload_n (eX12_seen 35 rfl) rfl rfl ?_
      refine zr_invV_I (as := [(.int x1, 0), (.int x2, 0), (.int x3, 0)]) (cX12_layRest_ok l h a0 x1 x2 x3) rfl rfl ⟨by decide, by decide, by decide⟩ zcd_X12_layRest rfl ⟨zw_1345, zw_1347, zw_30, zw_62⟩ ⟨Nat.le_of_ble_eq_true rfl, Nat.le_of_ble_eq_true rfl⟩ rfl (Nat.le_of_ble_eq_true rfl) (eX12_seen 36 rfl) (fun x25 h2 => ?_)
      refine zr_if_ne (eX12_seen 37 rfl) (t := 71) (by decide) ?_ ?_
      · refine zr_lconst (eX12_seen 40 rfl) zk_lconst_0 ?_
        refine zr_lstore (ls2 := [some (.ref a0, 12), some (.int x1, 0), some (.int x2, 0), some (.int x3, 0), some (.int x4, 0), some (.int x5, 0), some (.int x6, 0), some (.int x22, 0), some (.long 0, 0), none, none, none, none, none, none]) (eX12_seen 41 rfl) (Nat.le_of_ble_eq_true rfl) rfl ?_
        refine zr_lconst (eX12_seen 42 rfl) zk_lconst_0 ?_
        refine zr_lstore (ls2 := [some (.ref a0, 12), some (.int x1, 0), some (.int x2, 0), some (.int x3, 0), some (.int x4, 0), some (.int x5, 0), some (.int x6, 0), some (.int x22, 0), some (.long 0, 0), none, some (.long 0, 0), none, none, none, none]) (eX12_seen 43 rfl) (Nat.le_of_ble_eq_true rfl) rfl ?_
        refine zr_iconst (eX12_seen 44 rfl) zk_iconst_0 ?_
        refine zr_istore (ls2 := [some (.ref a0, 12), some (.int x1, 0), some (.int x2, 0), some (.int x3, 0), some (.int x4, 0), some (.int x5, 0), some (.int x6, 0), some (.int x22, 0), some (.long 0, 0), none, some (.long 0, 0), none, some (.int 0, 0), none, none]) (eX12_seen 45 rfl) (Nat.le_of_ble_eq_true rfl) rfl ?_
        refine v_jn (fun (k31 : Int64 → Int64 → Option (Int64 × Zh)) => ∀ (x26 : Int64) (x27 : Int64), V l mX12_seen (zN h) (zS h) 0 zoJ 174 [none, none, none, none, none, none, some (.int x6, 0), none, some (.long x26, 0), none, some (.long x27, 0), none, none, none, none] [] h2 (k31 x26 x27)) ?_ ?_
        · intro x26 x27
          unfold gX12_seen_J3
          refine zr_iload (eX12_seen 94 rfl) rfl ?_
          refine v_jn (fun (k30 : Int64 → Option (Int64 × Zh)) => ∀ (x28 : Int64), V l mX12_seen (zN h) (zS h) 0 zoJ 186 [none, none, none, none, none, none, none, none, some (.long x26, 0), none, some (.long x27, 0), none, none, none, none] [(.long x28, 0)] h2 (k30 x28)) ?_ ?_
          · intro x28
            unfold gX12_seen_J2
            refine zr_lload (eX12_seen 99 rfl) rfl ?_
            refine zr_lload (eX12_seen 100 rfl) rfl ?_
            refine zr_invS_j (as := [(.long x26, 0), (.long x27, 0)]) (cX12_common_ok l h2 x26 x27) rfl zcd_X12_common ⟨zw_1353, zw_1354, zw_62⟩ ⟨Nat.le_of_ble_eq_true rfl, Nat.le_of_ble_eq_true rfl⟩ rfl (Nat.le_of_ble_eq_true rfl) (eX12_seen 101 rfl) (fun x29 => ?_)
            refine zr_ldiv (eX12_seen 102 rfl) ?_
            exact zr_lret rfl rfl (eX12_seen 103 rfl)
          intro k30 hk30
          refine zr_if_ne (eX12_seen 95 rfl) (t := 184) (by decide) ?_ ?_
          · refine zr_lload (eX12_seen 98 rfl) rfl ?_
            exact v_drop [false, false, false, false, false, false, false, false, true, false, true, false, false, false, false] rfl (hk30 x27)
          · refine zr_lload (eX12_seen 96 rfl) rfl ?_
            refine zr_goto (eX12_seen 97 rfl) (t := 186) (by decide) ?_
            exact v_drop [false, false, false, false, false, false, false, false, true, false, true, false, false, false, false] rfl (hk30 x26)
        intro k31 hk31
        refine v_drop [true, true, false, false, true, true, true, false, true, false, true, false, true, false, false] rfl ?_
        refine zlp_ind (fun (k35 : Int64 → Int64 → Int32 → Option (Int64 × Zh)) => ∀ (x32 : Int64) (x33 : Int64) (x34 : Int32), V l mX12_seen (zN h) (zS h) 0 zoJ 80 [some (.ref a0, 12), some (.int x1, 0), none, none, some (.int x4, 0), some (.int x5, 0), some (.int x6, 0), none, some (.long x32, 0), none, some (.long x33, 0), none, some (.int x34, 0), none, none] [] h2 (k35 x32 x33 x34)) ?_ ?_ 0 0 0
        · exact fun _ _ _ => v_none
        intro k35 hk35 x32 x33 x34
        unfold gX12_seen_L6
        refine zr_iload (eX12_seen 46 rfl) rfl ?_
        refine zr_aload_n (r := (some a0)) (eX12_seen 47 rfl) rfl rfl ?_
        refine zr_invV_i (as := []) (cX12_stateMany_ok l h2 a0) rfl rfl ⟨by decide, by decide, by decide⟩ zcd_X12_stateMany rfl ⟨zw_1212, zw_1214, zw_12, zw_62⟩ ⟨Nat.le_of_ble_eq_true rfl, Nat.le_of_ble_eq_true rfl⟩ rfl (Nat.le_of_ble_eq_true rfl) (eX12_seen 48 rfl) (fun x36 => ?_)
        refine zr_icmp_ge (eX12_seen 49 rfl) (t := 174) (by decide) ?_ ?_
        · exact v_drop [false, false, false, false, false, false, true, false, true, false, true, false, false, false, false] rfl (hk31 x32 x33)
        · refine zr_iload (eX12_seen 50 rfl) rfl ?_
          refine zr_invS_i (as := [(.int x34, 0)]) (cX12_count_ok l h2 x34) rfl zcd_X12_count ⟨zw_1263, zw_1264, zw_62⟩ ⟨Nat.le_of_ble_eq_true rfl, Nat.le_of_ble_eq_true rfl⟩ rfl (Nat.le_of_ble_eq_true rfl) (eX12_seen 51 rfl) (fun x37 => ?_)
          refine zr_iload_n (eX12_seen 52 rfl) rfl rfl ?_
          refine v_jn (fun (k40 : Int64 → Int64 → Option (Int64 × Zh)) => ∀ (x38 : Int64) (x39 : Int64), V l mX12_seen (zN h) (zS h) 0 zoJ 168 [some (.ref a0, 12), some (.int x1, 0), none, none, some (.int x4, 0), some (.int x5, 0), some (.int x6, 0), none, some (.long x38, 0), none, some (.long x39, 0), none, some (.int x34, 0), none, none] [] h2 (k40 x38 x39)) ?_ ?_
          · intro x38 x39
            unfold gX12_seen_J4
            refine zr_iinc (ls2 := [some (.ref a0, 12), some (.int x1, 0), none, none, some (.int x4, 0), some (.int x5, 0), some (.int x6, 0), none, some (.long x38, 0), none, some (.long x39, 0), none, some (.int (x34 + 1), 0), none, none]) (eX12_seen 92 rfl) rfl (Nat.le_of_ble_eq_true rfl) zk_iconst_1 rfl ?_
            refine zr_goto (eX12_seen 93 rfl) (t := 80) (by decide) ?_
            exact v_drop [true, true, false, false, true, true, true, false, true, false, true, false, true, false, false] rfl (hk35 x38 x39 (x34 + 1))
          intro k40 hk40
          refine zr_icmp_ne (eX12_seen 53 rfl) (t := 168) (by decide) ?_ ?_
          · exact v_drop [true, true, false, false, true, true, true, false, true, false, true, false, true, false, false] rfl (hk40 x32 x33)
          · refine zr_aload_n (r := (some a0)) (eX12_seen 54 rfl) rfl rfl ?_
            refine zr_getR2 zf_RX12_13 (τ2 := 20) rfl (eX12_seen 55 rfl) ?_
            refine v_letr (fun r41 => ?_)
            refine zr_iload (eX12_seen 56 rfl) rfl ?_
            refine v_nn (fun a42 ea42 => ?_)
            subst ea42
            refine zr_iald (eX12_seen 57 rfl) ?_
            refine zr_if_lt (eX12_seen 58 rfl) (t := 168) (by decide) ?_ ?_
            · exact v_drop [true, true, false, false, true, true, true, false, true, false, true, false, true, false, false] rfl (hk40 x32 x33)
            · refine zr_aload_n (r := (some a0)) (eX12_seen 59 rfl) rfl rfl ?_
              refine zr_getR2 zf_RX12_47 (τ2 := 21) rfl (eX12_seen 60 rfl) ?_
              refine v_letr (fun r43 => ?_)
              refine zr_aload_n (r := (some a0)) (eX12_seen 61 rfl) rfl rfl ?_
              refine zr_getR2 zf_RX12_13 (τ2 := 20) rfl (eX12_seen 62 rfl) ?_
              refine v_letr (fun r44 => ?_)
              refine zr_iload (eX12_seen 63 rfl) rfl ?_
              refine v_nn (fun a45 ea45 => ?_)
              subst ea45
              refine zr_iald (eX12_seen 64 rfl) ?_
              refine v_nn (fun a46 ea46 => ?_)
              subst ea46
              refine zr_lald (eX12_seen 65 rfl) ?_
              refine zr_aload_n (r := (some a0)) (eX12_seen 66 rfl) rfl rfl ?_
              refine zr_getR2 zf_RX12_47 (τ2 := 21) rfl (eX12_seen 67 rfl) ?_
              refine v_letr (fun r47 => ?_)
              refine zr_aload_n (r := (some a0)) (eX12_seen 68 rfl) rfl rfl ?_
              refine zr_getR2 zf_RX12_13 (τ2 := 20) rfl (eX12_seen 69 rfl) ?_
              refine v_letr (fun r48 => ?_)
              refine zr_iload (eX12_seen 70 rfl) rfl ?_
              refine v_nn (fun a49 ea49 => ?_)
              subst ea49
              refine zr_iald (eX12_seen 71 rfl) ?_
              refine v_nn (fun a50 ea50 => ?_)
              subst ea50
              refine zr_lald (eX12_seen 72 rfl) ?_
              refine zr_lmul (eX12_seen 73 rfl) ?_
              refine v_letj (fun x51 => ?_)
              refine zr_lstore (ls2 := [some (.ref a0, 12), some (.int x1, 0), none, none, some (.int x4, 0), some (.int x5, 0), some (.int x6, 0), none, some (.long x32, 0), none, some (.long x33, 0), none, some (.int x34, 0), some (.long x51, 0), none]) (eX12_seen 74 rfl) (Nat.le_of_ble_eq_true rfl) rfl ?_
              refine zr_lload (eX12_seen 75 rfl) rfl ?_
              refine zr_aload_n (r := (some a0)) (eX12_seen 76 rfl) rfl rfl ?_
              refine zr_iload (eX12_seen 77 rfl) rfl ?_
              refine zr_iload (eX12_seen 78 rfl) rfl ?_
              refine zr_iload (eX12_seen 79 rfl) rfl ?_
              refine zr_invV_i (as := [(.int x34, 0), (.int x4, 0), (.int x5, 0)]) (cX12_areAlike_ok l h2 a0 x34 x4 x5) rfl rfl ⟨by decide, by decide, by decide⟩ zcd_X12_areAlike rfl ⟨zw_1236, zw_1238, zw_16, zw_62⟩ ⟨Nat.le_of_ble_eq_true rfl, Nat.le_of_ble_eq_true rfl⟩ rfl (Nat.le_of_ble_eq_true rfl) (eX12_seen 80 rfl) (fun x52 => ?_)
              refine v_jn (fun (k56 : Int64 → Option (Int64 × Zh)) => ∀ (x53 : Int64), V l mX12_seen (zN h) (zS h) 0 zoJ 158 [some (.ref a0, 12), some (.int x1, 0), none, none, some (.int x4, 0), some (.int x5, 0), some (.int x6, 0), none, none, none, some (.long x33, 0), none, some (.int x34, 0), some (.long x51, 0), none] [(.long x53, 0), (.long x32, 0)] h2 (k56 x53)) ?_ ?_
              · intro x53
                unfold gX12_seen_J5
                refine zr_ladd (eX12_seen 86 rfl) ?_
                refine v_letj (fun x54 => ?_)
                refine zr_lstore (ls2 := [some (.ref a0, 12), some (.int x1, 0), none, none, some (.int x4, 0), some (.int x5, 0), some (.int x6, 0), none, some (.long x54, 0), none, some (.long x33, 0), none, some (.int x34, 0), some (.long x51, 0), none]) (eX12_seen 87 rfl) (Nat.le_of_ble_eq_true rfl) rfl ?_
                refine zr_lload (eX12_seen 88 rfl) rfl ?_
                refine zr_lload (eX12_seen 89 rfl) rfl ?_
                refine zr_ladd (eX12_seen 90 rfl) ?_
                refine v_letj (fun x55 => ?_)
                refine zr_lstore (ls2 := [some (.ref a0, 12), some (.int x1, 0), none, none, some (.int x4, 0), some (.int x5, 0), some (.int x6, 0), none, some (.long x54, 0), none, some (.long x55, 0), none, some (.int x34, 0), some (.long x51, 0), none]) (eX12_seen 91 rfl) (Nat.le_of_ble_eq_true rfl) rfl ?_
                exact v_drop [true, true, false, false, true, true, true, false, true, false, true, false, true, false, false] rfl (hk40 x54 x55)
              intro k56 hk56
              refine zr_if_eq (eX12_seen 81 rfl) (t := 155) (by decide) ?_ ?_
              · refine zr_lload (eX12_seen 84 rfl) rfl ?_
                refine zr_lneg (eX12_seen 85 rfl) ?_
                exact v_drop [true, true, false, false, true, true, true, false, false, false, true, false, true, true, false] rfl (hk56 (-x51))
              · refine zr_lload (eX12_seen 82 rfl) rfl ?_
                refine zr_goto (eX12_seen 83 rfl) (t := 158) (by decide) ?_
                exact v_drop [true, true, false, false, true, true, true, false, false, false, true, false, true, true, false] rfl (hk56 x51)
      · exact v_drop [false, false, false, false, false, false, false, false, false, false, false, false, false, false, false] rfl (hk24 h2)
  intro k57 hk57
  refine v_jn (fun (k58 : Option (Int64 × Zh)) => V l mX12_seen (zN h) (zS h) 0 zoJ 49 [some (.ref a0, 12), some (.int x1, 0), some (.int x2, 0), some (.int x3, 0), some (.int x4, 0), some (.int x5, 0), some (.int x6, 0), none, none, none, none, none, none, none, none] [] h k58) ?_ ?_
  · skip
    unfold gX12_seen_J8
    refine zr_iconst (eX12_seen 28 rfl) zk_iconst_0 ?_
    exact v_drop [true, true, true, true, true, true, true, false, false, false, false, false, false, false, false] rfl (hk57 0)
  intro k58 hk58
  refine zr_if_eq (eX12_seen 9 rfl) (t := 49) (by decide) ?_ ?_
  · exact v_drop [true, true, true, true, true, true, true, false, false, false, false, false, false, false, false] rfl (hk58)
  · refine zr_iload (eX12_seen 10 rfl) rfl ?_
    refine zr_i2l (eX12_seen 11 rfl) ?_
    refine zr_lconst (eX12_seen 12 rfl) zk_lconst_0 ?_
    refine zr_aload_n (r := (some a0)) (eX12_seen 13 rfl) rfl rfl ?_
    refine zr_getI zf_RX12_111 ⟨by decide, by decide⟩ (eX12_seen 14 rfl) ?_
    refine zr_i2l (eX12_seen 15 rfl) ?_
    refine zr_lconst (eX12_seen 16 rfl) zk_lconst_1 ?_
    refine zr_lsub (eX12_seen 17 rfl) ?_
    refine zr_invS_i (as := [(.long ((x5 : Int32).toInt64), 0), (.long 0, 0), (.long ((((zI h a0 1) : Int32).toInt64) - 1), 0)]) (cX12_in_ok l h ((x5 : Int32).toInt64) 0 ((((zI h a0 1) : Int32).toInt64) - 1)) rfl zcd_X12_in ⟨zw_1203, zw_1204, zw_62⟩ ⟨Nat.le_of_ble_eq_true rfl, Nat.le_of_ble_eq_true rfl⟩ rfl (Nat.le_of_ble_eq_true rfl) (eX12_seen 18 rfl) (fun x59 => ?_)
    refine zr_if_eq (eX12_seen 19 rfl) (t := 49) (by decide) ?_ ?_
    · exact v_drop [true, true, true, true, true, true, true, false, false, false, false, false, false, false, false] rfl (hk58)
    · refine zr_iload (eX12_seen 20 rfl) rfl ?_
      refine zr_i2l (eX12_seen 21 rfl) ?_
      refine zr_lconst (eX12_seen 22 rfl) zk_lconst_0 ?_
      refine zr_lconst (eX12_seen 23 rfl) zk_lconst_1 ?_
      refine zr_invS_i (as := [(.long ((x6 : Int32).toInt64), 0), (.long 0, 0), (.long 1, 0)]) (cX12_in_ok l h ((x6 : Int32).toInt64) 0 1) rfl zcd_X12_in ⟨zw_1203, zw_1204, zw_62⟩ ⟨Nat.le_of_ble_eq_true rfl, Nat.le_of_ble_eq_true rfl⟩ rfl (Nat.le_of_ble_eq_true rfl) (eX12_seen 24 rfl) (fun x60 => ?_)
      refine zr_if_eq (eX12_seen 25 rfl) (t := 49) (by decide) ?_ ?_
      · exact v_drop [true, true, true, true, true, true, true, false, false, false, false, false, false, false, false] rfl (hk58)
      · refine zr_iconst (eX12_seen 26 rfl) zk_iconst_1 ?_
        refine zr_goto (eX12_seen 27 rfl) (t := 50) (by decide) ?_
        exact v_drop [true, true, true, true, true, true, true, false, false, false, false, false, false, false, false] rfl (hk57 1)
def gX12_noWeights (h : Zh) (a0 : Nat) (x1 : Int32) : Option (Int32) :=
  zbi (gX12_in ((x1 : Int32).toInt64) 0 ((((zI h a0 19) : Int32).toInt64) - 1)) (fun x21 => (if (x21 : Int32) = 0 then (some 1)
  else (some 0)))
set_option maxRecDepth 20000 in
theorem cX12_noWeights_ok (l : Launch) (h : Zh) (a0 : Nat) (x1 : Int32) : Zc l yX12_noWeights mX12_noWeights 0 h [(.ref a0, 12), (.int x1, 0)] ((gX12_noWeights h a0 x1).map (zoi h)) := by
  refine zc_of2 (ls := [some (.ref a0, 12), some (.int x1, 0)]) (j := 0) (by decide +kernel) rfl rfl (zEn_ca (zEn_ci rfl)) (Nat.le_of_ble_eq_true rfl) rfl ?_
  unfold gX12_noWeights
  refine zr_iload_n (eX12_noWeights 0 rfl) rfl rfl ?_
  refine zr_i2l (eX12_noWeights 1 rfl) ?_
  refine zr_lconst (eX12_noWeights 2 rfl) zk_lconst_0 ?_
  refine zr_aload_n (r := (some a0)) (eX12_noWeights 3 rfl) rfl rfl ?_
  refine zr_getI zf_RX12_245 ⟨by decide, by decide⟩ (eX12_noWeights 4 rfl) ?_
  refine zr_i2l (eX12_noWeights 5 rfl) ?_
  refine zr_lconst (eX12_noWeights 6 rfl) zk_lconst_1 ?_
  refine zr_lsub (eX12_noWeights 7 rfl) ?_
  refine zr_invS_i (as := [(.long ((x1 : Int32).toInt64), 0), (.long 0, 0), (.long ((((zI h a0 19) : Int32).toInt64) - 1), 0)]) (cX12_in_ok l h ((x1 : Int32).toInt64) 0 ((((zI h a0 19) : Int32).toInt64) - 1)) rfl zcd_X12_in ⟨zw_1203, zw_1204, zw_62⟩ ⟨Nat.le_of_ble_eq_true rfl, Nat.le_of_ble_eq_true rfl⟩ rfl (Nat.le_of_ble_eq_true rfl) (eX12_noWeights 8 rfl) (fun x21 => ?_)
  refine zr_if_ne (eX12_noWeights 9 rfl) (t := 20) (by decide) ?_ ?_
  · refine zr_iconst (eX12_noWeights 12 rfl) zk_iconst_0 ?_
    exact zr_zret rfl (by decide) rfl (eX12_noWeights 13 rfl)
  · refine zr_iconst (eX12_noWeights 10 rfl) zk_iconst_1 ?_
    refine zr_goto (eX12_noWeights 11 rfl) (t := 21) (by decide) ?_
    exact zr_zret rfl (by decide) rfl (eX12_noWeights 13 rfl)
def gX12_isWeight (x0 : Int32) : Option (Int32) :=
  zbi (gX12_in ((x0 : Int32).toInt64) (-9) 9) (fun x21 => (zg (zbl x21) (some x21)))
set_option maxRecDepth 20000 in
theorem cX12_isWeight_ok (l : Launch) (h : Zh) (x0 : Int32) : Zc l yX12_isWeight mX12_isWeight 0 h [(.int x0, 0)] ((gX12_isWeight x0).map (zoi h)) := by
  refine zc_of2 (ls := [some (.int x0, 0)]) (j := 0) (by decide +kernel) rfl rfl (zEn_ci rfl) (Nat.le_of_ble_eq_true rfl) rfl ?_
  unfold gX12_isWeight
  refine zr_iload_n (eX12_isWeight 0 rfl) rfl rfl ?_
  refine zr_i2l (eX12_isWeight 1 rfl) ?_
  refine zr_ldc2 (eX12_isWeight 2 rfl) zw_1375 ?_
  refine zr_ldc2 (eX12_isWeight 3 rfl) zw_1376 ?_
  refine zr_invS_i (as := [(.long ((x0 : Int32).toInt64), 0), (.long (-9), 0), (.long 9, 0)]) (cX12_in_ok l h ((x0 : Int32).toInt64) (-9) 9) rfl zcd_X12_in ⟨zw_1203, zw_1204, zw_62⟩ ⟨Nat.le_of_ble_eq_true rfl, Nat.le_of_ble_eq_true rfl⟩ rfl (Nat.le_of_ble_eq_true rfl) (eX12_isWeight 4 rfl) (fun x21 => ?_)
  refine v_g (fun hb => ?_)
  exact zr_zret rfl (zbl_of hb) rfl (eX12_isWeight 5 rfl)
def gX12_addWeights_J1 (a0 : Nat) (h3 : Zh) (r32 : Option Nat) : Int32 → Option (Int32 × Zh) :=
  fun (x33 : Int32) => Option.bind r32 (fun a34 => zg (zin (zI h3 a0 19) (zL h3 a34)) (zlt (zsI h3 a34 (zx (zI h3 a0 19)) x33) (fun (h4 : Zh) => zlt (zsI h4 a0 19 ((zI h4 a0 19) + 1)) (fun (h5 : Zh) => (some (((zI h5 a0 19) - 1), h5))))))
def gX12_addWeights_J2 (a0 : Nat) (x1 : Int32) (x4 : Int32) (h2 : Zh) (r29 : Option Nat) : Int32 → Option (Int32 × Zh) :=
  fun (x30 : Int32) => Option.bind r29 (fun a31 => zg (zin (zI h2 a0 19) (zL h2 a31)) (zlt (zsI h2 a31 (zx (zI h2 a0 19)) x30) (fun (h3 : Zh) => zlt (zR h3 a0 23) (fun r32 => zjn (gX12_addWeights_J1 a0 h3 r32) (fun (k35 : Int32 → Option (Int32 × Zh)) =>
  (if (x1 : Int32) = 2 then k35 (-x4)
  else k35 x4))))))
def gX12_addWeights_J3 (a0 : Nat) (x1 : Int32) (x2 : Int32) (x3 : Int32) (x4 : Int32) (h1 : Zh) (r26 : Option Nat) : Int32 → Option (Int32 × Zh) :=
  fun (x27 : Int32) => Option.bind r26 (fun a28 => zg (zin (zI h1 a0 19) (zL h1 a28)) (zlt (zsI h1 a28 (zx (zI h1 a0 19)) x27) (fun (h2 : Zh) => zlt (zR h2 a0 22) (fun r29 => zjn (gX12_addWeights_J2 a0 x1 x4 h2 r29) (fun (k36 : Int32 → Option (Int32 × Zh)) =>
  (if (x1 : Int32) = 0 then k36 x3
  else k36 x2))))))
def gX12_addWeights (h : Zh) (a0 : Nat) (x1 : Int32) (x2 : Int32) (x3 : Int32) (x4 : Int32) : Option (Int32 × Zh) :=
  zbi (gX12_isWeight x2) (fun x21 => (if (x21 : Int32) = 0 then (some ((-2), h))
  else zbi (gX12_isWeight x3) (fun x22 => (if (x22 : Int32) = 0 then (some ((-2), h))
  else zbi (gX12_isWeight x4) (fun x23 => (if (x23 : Int32) = 0 then (some ((-2), h))
  else (if ((zI h a0 19) : Int32) = 6 then (some ((-4), h))
  else zlt (zR h a0 20) (fun r24 => Option.bind r24 (fun a25 => zg (zin (zI h a0 19) (zL h a25)) (zlt (zsI h a25 (zx (zI h a0 19)) x1) (fun (h1 : Zh) => zlt (zR h1 a0 21) (fun r26 => zjn (gX12_addWeights_J3 a0 x1 x2 x3 x4 h1 r26) (fun (k37 : Int32 → Option (Int32 × Zh)) =>
  (if (x1 : Int32) = 0 then k37 x2
  else k37 x3))))))))))))))
set_option maxRecDepth 20000 in
theorem cX12_addWeights_ok (l : Launch) (h : Zh) (a0 : Nat) (x1 : Int32) (x2 : Int32) (x3 : Int32) (x4 : Int32) : Zc l yX12_addWeights mX12_addWeights 0 h [(.ref a0, 12), (.int x1, 0), (.int x2, 0), (.int x3, 0), (.int x4, 0)] ((gX12_addWeights h a0 x1 x2 x3 x4).map zoI) := by
  refine zc_of2 (ls := [some (.ref a0, 12), some (.int x1, 0), some (.int x2, 0), some (.int x3, 0), some (.int x4, 0)]) (j := 0) (by decide +kernel) rfl rfl (zEn_ca (zEn_ci (zEn_ci (zEn_ci (zEn_ci rfl))))) (Nat.le_of_ble_eq_true rfl) rfl ?_
  unfold gX12_addWeights
  refine zr_iload_n (eX12_addWeights 0 rfl) rfl rfl ?_
  refine zr_invS_i (as := [(.int x2, 0)]) (cX12_isWeight_ok l h x2) rfl zcd_X12_isWeight ⟨zw_1372, zw_1373, zw_62⟩ ⟨Nat.le_of_ble_eq_true rfl, Nat.le_of_ble_eq_true rfl⟩ rfl (Nat.le_of_ble_eq_true rfl) (eX12_addWeights 1 rfl) (fun x21 => ?_)
  refine zr_if_eq (eX12_addWeights 2 rfl) (t := 22) (by decide) ?_ ?_
  · refine zr_bipush (eX12_addWeights 9 rfl) zk_bipush_m2 ?_
    exact zr_iret rfl rfl (eX12_addWeights 10 rfl)
  · refine zr_iload_n (eX12_addWeights 3 rfl) rfl rfl ?_
    refine zr_invS_i (as := [(.int x3, 0)]) (cX12_isWeight_ok l h x3) rfl zcd_X12_isWeight ⟨zw_1372, zw_1373, zw_62⟩ ⟨Nat.le_of_ble_eq_true rfl, Nat.le_of_ble_eq_true rfl⟩ rfl (Nat.le_of_ble_eq_true rfl) (eX12_addWeights 4 rfl) (fun x22 => ?_)
    refine zr_if_eq (eX12_addWeights 5 rfl) (t := 22) (by decide) ?_ ?_
    · refine zr_bipush (eX12_addWeights 9 rfl) zk_bipush_m2 ?_
      exact zr_iret rfl rfl (eX12_addWeights 10 rfl)
    · refine zr_iload (eX12_addWeights 6 rfl) rfl ?_
      refine zr_invS_i (as := [(.int x4, 0)]) (cX12_isWeight_ok l h x4) rfl zcd_X12_isWeight ⟨zw_1372, zw_1373, zw_62⟩ ⟨Nat.le_of_ble_eq_true rfl, Nat.le_of_ble_eq_true rfl⟩ rfl (Nat.le_of_ble_eq_true rfl) (eX12_addWeights 7 rfl) (fun x23 => ?_)
      refine zr_if_ne (eX12_addWeights 8 rfl) (t := 25) (by decide) ?_ ?_
      · refine zr_aload_n (r := (some a0)) (eX12_addWeights 11 rfl) rfl rfl ?_
        refine zr_getI zf_RX12_245 ⟨by decide, by decide⟩ (eX12_addWeights 12 rfl) ?_
        refine zr_bipush (eX12_addWeights 13 rfl) zk_bipush_6 ?_
        refine zr_icmp_ne (eX12_addWeights 14 rfl) (t := 37) (by decide) ?_ ?_
        · refine zr_aload_n (r := (some a0)) (eX12_addWeights 17 rfl) rfl rfl ?_
          refine zr_getR2 zf_RX12_50 (τ2 := 20) rfl (eX12_addWeights 18 rfl) ?_
          refine v_letr (fun r24 => ?_)
          refine zr_aload_n (r := (some a0)) (eX12_addWeights 19 rfl) rfl rfl ?_
          refine zr_getI zf_RX12_245 ⟨by decide, by decide⟩ (eX12_addWeights 20 rfl) ?_
          refine zr_iload_n (eX12_addWeights 21 rfl) rfl rfl ?_
          refine v_nn (fun a25 ea25 => ?_)
          subst ea25
          refine zr_iast (eX12_addWeights 22 rfl) ?_
          refine v_leth (fun h1 => ?_)
          refine zr_aload_n (r := (some a0)) (eX12_addWeights 23 rfl) rfl rfl ?_
          refine zr_getR2 zf_RX12_53 (τ2 := 20) rfl (eX12_addWeights 24 rfl) ?_
          refine v_letr (fun r26 => ?_)
          refine zr_aload_n (r := (some a0)) (eX12_addWeights 25 rfl) rfl rfl ?_
          refine zr_getI zf_RX12_245 ⟨by decide, by decide⟩ (eX12_addWeights 26 rfl) ?_
          refine zr_iload_n (eX12_addWeights 27 rfl) rfl rfl ?_
          refine v_jn (fun (k37 : Int32 → Option (Int32 × Zh)) => ∀ (x27 : Int32), V l mX12_addWeights (zN h) (zS h) 0 zoI 64 [some (.ref a0, 12), some (.int x1, 0), some (.int x2, 0), some (.int x3, 0), some (.int x4, 0)] [(.int x27, 0), (.int (zI h1 a0 19), 0), (va_rf r26, 20)] h1 (k37 x27)) ?_ ?_
          · intro x27
            unfold gX12_addWeights_J3
            refine v_nn (fun a28 ea28 => ?_)
            subst ea28
            refine zr_iast (eX12_addWeights 32 rfl) ?_
            refine v_leth (fun h2 => ?_)
            refine zr_aload_n (r := (some a0)) (eX12_addWeights 33 rfl) rfl rfl ?_
            refine zr_getR2 zf_RX12_56 (τ2 := 20) rfl (eX12_addWeights 34 rfl) ?_
            refine v_letr (fun r29 => ?_)
            refine zr_aload_n (r := (some a0)) (eX12_addWeights 35 rfl) rfl rfl ?_
            refine zr_getI zf_RX12_245 ⟨by decide, by decide⟩ (eX12_addWeights 36 rfl) ?_
            refine zr_iload_n (eX12_addWeights 37 rfl) rfl rfl ?_
            refine v_jn (fun (k36 : Int32 → Option (Int32 × Zh)) => ∀ (x30 : Int32), V l mX12_addWeights (zN h) (zS h) 0 zoI 82 [some (.ref a0, 12), some (.int x1, 0), none, none, some (.int x4, 0)] [(.int x30, 0), (.int (zI h2 a0 19), 0), (va_rf r29, 20)] h2 (k36 x30)) ?_ ?_
            · intro x30
              unfold gX12_addWeights_J2
              refine v_nn (fun a31 ea31 => ?_)
              subst ea31
              refine zr_iast (eX12_addWeights 42 rfl) ?_
              refine v_leth (fun h3 => ?_)
              refine zr_aload_n (r := (some a0)) (eX12_addWeights 43 rfl) rfl rfl ?_
              refine zr_getR2 zf_RX12_59 (τ2 := 20) rfl (eX12_addWeights 44 rfl) ?_
              refine v_letr (fun r32 => ?_)
              refine zr_aload_n (r := (some a0)) (eX12_addWeights 45 rfl) rfl rfl ?_
              refine zr_getI zf_RX12_245 ⟨by decide, by decide⟩ (eX12_addWeights 46 rfl) ?_
              refine zr_iload_n (eX12_addWeights 47 rfl) rfl rfl ?_
              refine zr_iconst (eX12_addWeights 48 rfl) zk_iconst_2 ?_
              refine v_jn (fun (k35 : Int32 → Option (Int32 × Zh)) => ∀ (x33 : Int32), V l mX12_addWeights (zN h) (zS h) 0 zoI 104 [some (.ref a0, 12), none, none, none, none] [(.int x33, 0), (.int (zI h3 a0 19), 0), (va_rf r32, 20)] h3 (k35 x33)) ?_ ?_
              · intro x33
                unfold gX12_addWeights_J1
                refine v_nn (fun a34 ea34 => ?_)
                subst ea34
                refine zr_iast (eX12_addWeights 54 rfl) ?_
                refine v_leth (fun h4 => ?_)
                refine zr_aload_n (r := (some a0)) (eX12_addWeights 55 rfl) rfl rfl ?_
                refine zr_dup (eX12_addWeights 56 rfl) rfl ?_
                refine zr_getI zf_RX12_245 ⟨by decide, by decide⟩ (eX12_addWeights 57 rfl) ?_
                refine zr_iconst (eX12_addWeights 58 rfl) zk_iconst_1 ?_
                refine zr_iadd (eX12_addWeights 59 rfl) ?_
                refine zr_putI zf_RX12_245 rfl (Or.inl rfl) (eX12_addWeights 60 rfl) ?_
                refine v_leth (fun h5 => ?_)
                refine zr_aload_n (r := (some a0)) (eX12_addWeights 61 rfl) rfl rfl ?_
                refine zr_getI zf_RX12_245 ⟨by decide, by decide⟩ (eX12_addWeights 62 rfl) ?_
                refine zr_iconst (eX12_addWeights 63 rfl) zk_iconst_1 ?_
                refine zr_isub (eX12_addWeights 64 rfl) ?_
                exact zr_iret rfl rfl (eX12_addWeights 65 rfl)
              intro k35 hk35
              refine zr_icmp_ne (eX12_addWeights 49 rfl) (t := 102) (by decide) ?_ ?_
              · refine zr_iload (eX12_addWeights 53 rfl) rfl ?_
                exact v_drop [true, false, false, false, false] rfl (hk35 x4)
              · refine zr_iload (eX12_addWeights 50 rfl) rfl ?_
                refine zr_ineg (eX12_addWeights 51 rfl) ?_
                refine zr_goto (eX12_addWeights 52 rfl) (t := 104) (by decide) ?_
                exact v_drop [true, false, false, false, false] rfl (hk35 (-x4))
            intro k36 hk36
            refine zr_if_ne (eX12_addWeights 38 rfl) (t := 81) (by decide) ?_ ?_
            · refine zr_iload_n (eX12_addWeights 41 rfl) rfl rfl ?_
              exact v_drop [true, true, false, false, true] rfl (hk36 x2)
            · refine zr_iload_n (eX12_addWeights 39 rfl) rfl rfl ?_
              refine zr_goto (eX12_addWeights 40 rfl) (t := 82) (by decide) ?_
              exact v_drop [true, true, false, false, true] rfl (hk36 x3)
          intro k37 hk37
          refine zr_if_ne (eX12_addWeights 28 rfl) (t := 63) (by decide) ?_ ?_
          · refine zr_iload_n (eX12_addWeights 31 rfl) rfl rfl ?_
            exact v_drop [true, true, true, true, true] rfl (hk37 x3)
          · refine zr_iload_n (eX12_addWeights 29 rfl) rfl rfl ?_
            refine zr_goto (eX12_addWeights 30 rfl) (t := 64) (by decide) ?_
            exact v_drop [true, true, true, true, true] rfl (hk37 x2)
        · refine zr_bipush (eX12_addWeights 15 rfl) zk_bipush_m4 ?_
          exact zr_iret rfl rfl (eX12_addWeights 16 rfl)
      · refine zr_bipush (eX12_addWeights 9 rfl) zk_bipush_m2 ?_
        exact zr_iret rfl rfl (eX12_addWeights 10 rfl)
def gX12_weights (h : Zh) (a0 : Nat) (x1 : Int32) (x2 : Int32) (x3 : Int32) (x4 : Int32) : Option (Int32 × Zh) :=
  zbi (gX12_in ((x1 : Int32).toInt64) 0 2) (fun x21 => (if (x21 : Int32) = 0 then (some ((-2), h))
  else zbI (gX12_addWeights h a0 x1 x2 x3 x4) (fun x22 h1 => (some (x22, h1)))))
set_option maxRecDepth 20000 in
theorem cX12_weights_ok (l : Launch) (h : Zh) (a0 : Nat) (x1 : Int32) (x2 : Int32) (x3 : Int32) (x4 : Int32) : Zc l yX12_weights mX12_weights 0 h [(.ref a0, 12), (.int x1, 0), (.int x2, 0), (.int x3, 0), (.int x4, 0)] ((gX12_weights h a0 x1 x2 x3 x4).map zoI) := by
  refine zc_of2 (ls := [some (.ref a0, 12), some (.int x1, 0), some (.int x2, 0), some (.int x3, 0), some (.int x4, 0)]) (j := 0) (by decide +kernel) rfl rfl (zEn_ca (zEn_ci (zEn_ci (zEn_ci (zEn_ci rfl))))) (Nat.le_of_ble_eq_true rfl) rfl ?_
  unfold gX12_weights
  refine zr_iload_n (eX12_weights 0 rfl) rfl rfl ?_
  refine zr_i2l (eX12_weights 1 rfl) ?_
  refine zr_lconst (eX12_weights 2 rfl) zk_lconst_0 ?_
  refine zr_ldc2 (eX12_weights 3 rfl) zw_1201 ?_
  refine zr_invS_i (as := [(.long ((x1 : Int32).toInt64), 0), (.long 0, 0), (.long 2, 0)]) (cX12_in_ok l h ((x1 : Int32).toInt64) 0 2) rfl zcd_X12_in ⟨zw_1203, zw_1204, zw_62⟩ ⟨Nat.le_of_ble_eq_true rfl, Nat.le_of_ble_eq_true rfl⟩ rfl (Nat.le_of_ble_eq_true rfl) (eX12_weights 4 rfl) (fun x21 => ?_)
  refine zr_if_eq (eX12_weights 5 rfl) (t := 24) (by decide) ?_ ?_
  · refine zr_bipush (eX12_weights 13 rfl) zk_bipush_m2 ?_
    exact zr_iret rfl rfl (eX12_weights 14 rfl)
  · refine zr_aload_n (r := (some a0)) (eX12_weights 6 rfl) rfl rfl ?_
    refine zr_iload_n (eX12_weights 7 rfl) rfl rfl ?_
    refine zr_iload_n (eX12_weights 8 rfl) rfl rfl ?_
    refine zr_iload_n (eX12_weights 9 rfl) rfl rfl ?_
    refine zr_iload (eX12_weights 10 rfl) rfl ?_
    refine zr_invV_I (as := [(.int x1, 0), (.int x2, 0), (.int x3, 0), (.int x4, 0)]) (cX12_addWeights_ok l h a0 x1 x2 x3 x4) rfl rfl ⟨by decide, by decide, by decide⟩ zcd_X12_addWeights rfl ⟨zw_1368, zw_1370, zw_32, zw_62⟩ ⟨Nat.le_of_ble_eq_true rfl, Nat.le_of_ble_eq_true rfl⟩ rfl (Nat.le_of_ble_eq_true rfl) (eX12_weights 11 rfl) (fun x22 h1 => ?_)
    refine zr_goto (eX12_weights 12 rfl) (t := 26) (by decide) ?_
    exact zr_iret rfl rfl (eX12_weights 14 rfl)
def gX12_noSheet (x0 : Int32) : Option (Int32) :=
  zbi (gX12_in ((x0 : Int32).toInt64) 0 3) (fun x21 => (if (x21 : Int32) = 0 then (some 1)
  else (some 0)))
set_option maxRecDepth 20000 in
theorem cX12_noSheet_ok (l : Launch) (h : Zh) (x0 : Int32) : Zc l yX12_noSheet mX12_noSheet 0 h [(.int x0, 0)] ((gX12_noSheet x0).map (zoi h)) := by
  refine zc_of2 (ls := [some (.int x0, 0)]) (j := 0) (by decide +kernel) rfl rfl (zEn_ci rfl) (Nat.le_of_ble_eq_true rfl) rfl ?_
  unfold gX12_noSheet
  refine zr_iload_n (eX12_noSheet 0 rfl) rfl rfl ?_
  refine zr_i2l (eX12_noSheet 1 rfl) ?_
  refine zr_lconst (eX12_noSheet 2 rfl) zk_lconst_0 ?_
  refine zr_ldc2 (eX12_noSheet 3 rfl) zw_1384 ?_
  refine zr_invS_i (as := [(.long ((x0 : Int32).toInt64), 0), (.long 0, 0), (.long 3, 0)]) (cX12_in_ok l h ((x0 : Int32).toInt64) 0 3) rfl zcd_X12_in ⟨zw_1203, zw_1204, zw_62⟩ ⟨Nat.le_of_ble_eq_true rfl, Nat.le_of_ble_eq_true rfl⟩ rfl (Nat.le_of_ble_eq_true rfl) (eX12_noSheet 4 rfl) (fun x21 => ?_)
  refine zr_if_ne (eX12_noSheet 5 rfl) (t := 16) (by decide) ?_ ?_
  · refine zr_iconst (eX12_noSheet 8 rfl) zk_iconst_0 ?_
    exact zr_zret rfl (by decide) rfl (eX12_noSheet 9 rfl)
  · refine zr_iconst (eX12_noSheet 6 rfl) zk_iconst_1 ?_
    refine zr_goto (eX12_noSheet 7 rfl) (t := 17) (by decide) ?_
    exact zr_zret rfl (by decide) rfl (eX12_noSheet 9 rfl)
def gX12_isBeyond_J1 : Option (Int32) :=
  (some 1)
def gX12_isBeyond (x0 : Int32) (x1 : Int64) (x3 : Int32) : Option (Int32) :=
  zjn gX12_isBeyond_J1 (fun (k21 : Option (Int32)) =>
  (if (x0 : Int32) < 0 then k21
  else (if ((lg_cmp x1 0) : Int32) < 0 then k21
  else (if ((lg_cmp (((x0 : Int32).toInt64) + x1) ((x3 : Int32).toInt64)) : Int32) ≤ 0 then (some 0)
  else k21))))
set_option maxRecDepth 20000 in
theorem cX12_isBeyond_ok (l : Launch) (h : Zh) (x0 : Int32) (x1 : Int64) (x3 : Int32) : Zc l yX12_isBeyond mX12_isBeyond 0 h [(.int x0, 0), (.long x1, 0), (.int x3, 0)] ((gX12_isBeyond x0 x1 x3).map (zoi h)) := by
  refine zc_of2 (ls := [some (.int x0, 0), some (.long x1, 0), none, some (.int x3, 0)]) (j := 0) (by decide +kernel) rfl rfl (zEn_ci (zEn_cj (zEn_ci rfl))) (Nat.le_of_ble_eq_true rfl) rfl ?_
  unfold gX12_isBeyond
  refine zr_iload_n (eX12_isBeyond 0 rfl) rfl rfl ?_
  refine v_jn (fun (k21 : Option (Int32)) => V l mX12_isBeyond (zN h) (zS h) 0 (zoi h) 20 [none, none, none, none] [] h k21) ?_ ?_
  · skip
    unfold gX12_isBeyond_J1
    refine zr_iconst (eX12_isBeyond 14 rfl) zk_iconst_1 ?_
    refine zr_goto (eX12_isBeyond 15 rfl) (t := 25) (by decide) ?_
    exact zr_zret rfl (by decide) rfl (eX12_isBeyond 17 rfl)
  intro k21 hk21
  refine zr_if_lt (eX12_isBeyond 1 rfl) (t := 20) (by decide) ?_ ?_
  · exact v_drop [false, false, false, false] rfl (hk21)
  · refine zr_lload_n (eX12_isBeyond 2 rfl) rfl rfl ?_
    refine zr_lconst (eX12_isBeyond 3 rfl) zk_lconst_0 ?_
    refine zr_lcmp (eX12_isBeyond 4 rfl) ?_
    refine zr_if_lt (eX12_isBeyond 5 rfl) (t := 20) (by decide) ?_ ?_
    · exact v_drop [false, false, false, false] rfl (hk21)
    · refine zr_iload_n (eX12_isBeyond 6 rfl) rfl rfl ?_
      refine zr_i2l (eX12_isBeyond 7 rfl) ?_
      refine zr_lload_n (eX12_isBeyond 8 rfl) rfl rfl ?_
      refine zr_ladd (eX12_isBeyond 9 rfl) ?_
      refine zr_iload_n (eX12_isBeyond 10 rfl) rfl rfl ?_
      refine zr_i2l (eX12_isBeyond 11 rfl) ?_
      refine zr_lcmp (eX12_isBeyond 12 rfl) ?_
      refine zr_if_le (eX12_isBeyond 13 rfl) (t := 24) (by decide) ?_ ?_
      · refine zr_iconst (eX12_isBeyond 16 rfl) zk_iconst_0 ?_
        exact zr_zret rfl (by decide) rfl (eX12_isBeyond 17 rfl)
      · exact v_drop [false, false, false, false] rfl (hk21)
def gX12_weightsOf_J1 (h : Zh) (a0 : Nat) : Option (Int32 × Zh) :=
  zbI (gX12_refused h a0 (-2)) (fun x23 h1 => (some (x23, h1)))
def gX12_weightsOf_J2 (h : Zh) (a0 : Nat) (x1 : Int32) (x2 : Int32) (x4 : Int32) : Option (Int32 × Zh) :=
  zlt (zR h a0 38) (fun r28 => Option.bind r28 (fun a29 => zg (zin x2 (zL h a29)) ((if (0 : Int32) ≤ (zI h a29 (zx x2)) then zlt (zR h a0 38) (fun r30 => Option.bind r30 (fun a31 => zg (zin x2 (zL h a31)) (zbi (gX12_isBeyond x4 3 (zI h a31 (zx x2))) (fun x32 => (if (x32 : Int32) = 0 then zlt ((60 * x2) + x4) (fun x33 => zlt (zR h a0 40) (fun r34 => Option.bind r34 (fun a35 => zg (zin x33 (zL h a35)) (zlt (zR h a0 40) (fun r36 => Option.bind r36 (fun a37 => zg (zin (x33 + 1) (zL h a37)) (zlt (zR h a0 40) (fun r38 => Option.bind r38 (fun a39 => zg (zin (x33 + 2) (zL h a39)) (zbI (gX12_addWeights h a0 x1 (zI h a35 (zx x33)) (zI h a37 (zx (x33 + 1))) (zI h a39 (zx (x33 + 2)))) (fun x40 h2 => zbI (gX12_refused h2 a0 x40) (fun x41 h3 => (some (x41, h3))))))))))))))
  else zbI (gX12_failed h a0 3) (fun x42 h4 => (some (x42, h4))))))))
  else zbI (gX12_failed h a0 1) (fun x43 h5 => (some (x43, h5)))))))
def gX12_weightsOf (h : Zh) (a0 : Nat) (x1 : Int32) (x2 : Int32) (x3 : Int32) (x4 : Int32) : Option (Int32 × Zh) :=
  zbi (gX12_noSheet x2) (fun x21 => (if (x21 : Int32) = 0 then zbi (gX12_in ((x3 : Int32).toInt64) 0 2) (fun x22 => zjn (gX12_weightsOf_J1 h a0) (fun (k24 : Option (Int32 × Zh)) =>
  (if (x22 : Int32) = 0 then k24
  else zbi (gX12_in ((x1 : Int32).toInt64) 0 2) (fun x25 => (if (x25 : Int32) = 0 then k24
  else zlt (zR h a0 38) (fun r26 => Option.bind r26 (fun a27 => zg (zin x2 (zL h a27)) (zjn (gX12_weightsOf_J2 h a0 x1 x2 x4) (fun (k44 : Option (Int32 × Zh)) =>
  (if ((zI h a27 (zx x2)) : Int32) < 0 then k44
  else zlt (zR h a0 39) (fun r45 => Option.bind r45 (fun a46 => zg (zin x2 (zL h a46)) ((if ((zI h a46 (zx x2)) : Int32) = x3 then k44
  else zbI (gX12_failed h a0 2) (fun x47 h6 => (some (x47, h6)))))))))))))))))
  else zbI (gX12_refused h a0 (-1)) (fun x48 h7 => (some (x48, h7)))))
set_option maxRecDepth 20000 in
theorem cX12_weightsOf_ok (l : Launch) (h : Zh) (a0 : Nat) (x1 : Int32) (x2 : Int32) (x3 : Int32) (x4 : Int32) : Zc l yX12_weightsOf mX12_weightsOf 0 h [(.ref a0, 12), (.int x1, 0), (.int x2, 0), (.int x3, 0), (.int x4, 0)] ((gX12_weightsOf h a0 x1 x2 x3 x4).map zoI) := by
  refine zc_of2 (ls := [some (.ref a0, 12), some (.int x1, 0), some (.int x2, 0), some (.int x3, 0), some (.int x4, 0), none]) (j := 1) (by decide +kernel) rfl rfl (zEn_ca (zEn_ci (zEn_ci (zEn_ci (zEn_ci rfl))))) (Nat.le_of_ble_eq_true rfl) rfl ?_
  unfold gX12_weightsOf
  refine zr_iload_n (eX12_weightsOf 0 rfl) rfl rfl ?_
  refine zr_invS_i (as := [(.int x2, 0)]) (cX12_noSheet_ok l h x2) rfl zcd_X12_noSheet ⟨zw_1381, zw_1382, zw_62⟩ ⟨Nat.le_of_ble_eq_true rfl, Nat.le_of_ble_eq_true rfl⟩ rfl (Nat.le_of_ble_eq_true rfl) (eX12_weightsOf 1 rfl) (fun x21 => ?_)
  refine zr_if_eq (eX12_weightsOf 2 rfl) (t := 13) (by decide) ?_ ?_
  · refine zr_iload_n (eX12_weightsOf 7 rfl) rfl rfl ?_
    refine zr_i2l (eX12_weightsOf 8 rfl) ?_
    refine zr_lconst (eX12_weightsOf 9 rfl) zk_lconst_0 ?_
    refine zr_ldc2 (eX12_weightsOf 10 rfl) zw_1201 ?_
    refine zr_invS_i (as := [(.long ((x3 : Int32).toInt64), 0), (.long 0, 0), (.long 2, 0)]) (cX12_in_ok l h ((x3 : Int32).toInt64) 0 2) rfl zcd_X12_in ⟨zw_1203, zw_1204, zw_62⟩ ⟨Nat.le_of_ble_eq_true rfl, Nat.le_of_ble_eq_true rfl⟩ rfl (Nat.le_of_ble_eq_true rfl) (eX12_weightsOf 11 rfl) (fun x22 => ?_)
    refine v_jn (fun (k24 : Option (Int32 × Zh)) => V l mX12_weightsOf (zN h) (zS h) 0 zoI 37 [some (.ref a0, 12), none, none, none, none, none] [] h k24) ?_ ?_
    · skip
      unfold gX12_weightsOf_J1
      refine zr_aload_n (r := (some a0)) (eX12_weightsOf 19 rfl) rfl rfl ?_
      refine zr_bipush (eX12_weightsOf 20 rfl) zk_bipush_m2 ?_
      refine zr_invV_I (as := [(.int (-2), 0)]) (cX12_refused_ok l h a0 (-2)) rfl rfl ⟨by decide, by decide, by decide⟩ zcd_X12_refused rfl ⟨zw_1385, zw_1387, zw_33, zw_62⟩ ⟨Nat.le_of_ble_eq_true rfl, Nat.le_of_ble_eq_true rfl⟩ rfl (Nat.le_of_ble_eq_true rfl) (eX12_weightsOf 21 rfl) (fun x23 h1 => ?_)
      exact zr_iret rfl rfl (eX12_weightsOf 22 rfl)
    intro k24 hk24
    refine zr_if_eq (eX12_weightsOf 12 rfl) (t := 37) (by decide) ?_ ?_
    · exact v_drop [true, false, false, false, false, false] rfl (hk24)
    · refine zr_iload_n (eX12_weightsOf 13 rfl) rfl rfl ?_
      refine zr_i2l (eX12_weightsOf 14 rfl) ?_
      refine zr_lconst (eX12_weightsOf 15 rfl) zk_lconst_0 ?_
      refine zr_ldc2 (eX12_weightsOf 16 rfl) zw_1201 ?_
      refine zr_invS_i (as := [(.long ((x1 : Int32).toInt64), 0), (.long 0, 0), (.long 2, 0)]) (cX12_in_ok l h ((x1 : Int32).toInt64) 0 2) rfl zcd_X12_in ⟨zw_1203, zw_1204, zw_62⟩ ⟨Nat.le_of_ble_eq_true rfl, Nat.le_of_ble_eq_true rfl⟩ rfl (Nat.le_of_ble_eq_true rfl) (eX12_weightsOf 17 rfl) (fun x25 => ?_)
      refine zr_if_ne (eX12_weightsOf 18 rfl) (t := 44) (by decide) ?_ ?_
      · refine zr_aload_n (r := (some a0)) (eX12_weightsOf 23 rfl) rfl rfl ?_
        refine zr_getR2 zf_RX12_99 (τ2 := 20) rfl (eX12_weightsOf 24 rfl) ?_
        refine v_letr (fun r26 => ?_)
        refine zr_iload_n (eX12_weightsOf 25 rfl) rfl rfl ?_
        refine v_nn (fun a27 ea27 => ?_)
        subst ea27
        refine zr_iald (eX12_weightsOf 26 rfl) ?_
        refine v_jn (fun (k44 : Option (Int32 × Zh)) => V l mX12_weightsOf (zN h) (zS h) 0 zoI 69 [some (.ref a0, 12), some (.int x1, 0), some (.int x2, 0), none, some (.int x4, 0), none] [] h k44) ?_ ?_
        · skip
          unfold gX12_weightsOf_J2
          refine zr_aload_n (r := (some a0)) (eX12_weightsOf 38 rfl) rfl rfl ?_
          refine zr_getR2 zf_RX12_99 (τ2 := 20) rfl (eX12_weightsOf 39 rfl) ?_
          refine v_letr (fun r28 => ?_)
          refine zr_iload_n (eX12_weightsOf 40 rfl) rfl rfl ?_
          refine v_nn (fun a29 ea29 => ?_)
          subst ea29
          refine zr_iald (eX12_weightsOf 41 rfl) ?_
          refine zr_if_ge (eX12_weightsOf 42 rfl) (t := 84) (by decide) ?_ ?_
          · refine zr_iload (eX12_weightsOf 47 rfl) rfl ?_
            refine zr_ldc2 (eX12_weightsOf 48 rfl) zw_1384 ?_
            refine zr_aload_n (r := (some a0)) (eX12_weightsOf 49 rfl) rfl rfl ?_
            refine zr_getR2 zf_RX12_99 (τ2 := 20) rfl (eX12_weightsOf 50 rfl) ?_
            refine v_letr (fun r30 => ?_)
            refine zr_iload_n (eX12_weightsOf 51 rfl) rfl rfl ?_
            refine v_nn (fun a31 ea31 => ?_)
            subst ea31
            refine zr_iald (eX12_weightsOf 52 rfl) ?_
            refine zr_invS_i (as := [(.int x4, 0), (.long 3, 0), (.int (zI h a31 (zx x2)), 0)]) (cX12_isBeyond_ok l h x4 3 (zI h a31 (zx x2))) rfl zcd_X12_isBeyond ⟨zw_1393, zw_1394, zw_62⟩ ⟨Nat.le_of_ble_eq_true rfl, Nat.le_of_ble_eq_true rfl⟩ rfl (Nat.le_of_ble_eq_true rfl) (eX12_weightsOf 53 rfl) (fun x32 => ?_)
            refine zr_if_eq (eX12_weightsOf 54 rfl) (t := 107) (by decide) ?_ ?_
            · refine zr_bipush (eX12_weightsOf 59 rfl) zk_bipush_60 ?_
              refine zr_iload_n (eX12_weightsOf 60 rfl) rfl rfl ?_
              refine zr_imul (eX12_weightsOf 61 rfl) ?_
              refine zr_iload (eX12_weightsOf 62 rfl) rfl ?_
              refine zr_iadd (eX12_weightsOf 63 rfl) ?_
              refine v_leti (fun x33 => ?_)
              refine zr_istore (ls2 := [some (.ref a0, 12), some (.int x1, 0), some (.int x2, 0), none, some (.int x4, 0), some (.int x33, 0)]) (eX12_weightsOf 64 rfl) (Nat.le_of_ble_eq_true rfl) rfl ?_
              refine zr_aload_n (r := (some a0)) (eX12_weightsOf 65 rfl) rfl rfl ?_
              refine zr_aload_n (r := (some a0)) (eX12_weightsOf 66 rfl) rfl rfl ?_
              refine zr_iload_n (eX12_weightsOf 67 rfl) rfl rfl ?_
              refine zr_aload_n (r := (some a0)) (eX12_weightsOf 68 rfl) rfl rfl ?_
              refine zr_getR2 zf_RX12_105 (τ2 := 20) rfl (eX12_weightsOf 69 rfl) ?_
              refine v_letr (fun r34 => ?_)
              refine zr_iload (eX12_weightsOf 70 rfl) rfl ?_
              refine v_nn (fun a35 ea35 => ?_)
              subst ea35
              refine zr_iald (eX12_weightsOf 71 rfl) ?_
              refine zr_aload_n (r := (some a0)) (eX12_weightsOf 72 rfl) rfl rfl ?_
              refine zr_getR2 zf_RX12_105 (τ2 := 20) rfl (eX12_weightsOf 73 rfl) ?_
              refine v_letr (fun r36 => ?_)
              refine zr_iload (eX12_weightsOf 74 rfl) rfl ?_
              refine zr_iconst (eX12_weightsOf 75 rfl) zk_iconst_1 ?_
              refine zr_iadd (eX12_weightsOf 76 rfl) ?_
              refine v_nn (fun a37 ea37 => ?_)
              subst ea37
              refine zr_iald (eX12_weightsOf 77 rfl) ?_
              refine zr_aload_n (r := (some a0)) (eX12_weightsOf 78 rfl) rfl rfl ?_
              refine zr_getR2 zf_RX12_105 (τ2 := 20) rfl (eX12_weightsOf 79 rfl) ?_
              refine v_letr (fun r38 => ?_)
              refine zr_iload (eX12_weightsOf 80 rfl) rfl ?_
              refine zr_iconst (eX12_weightsOf 81 rfl) zk_iconst_2 ?_
              refine zr_iadd (eX12_weightsOf 82 rfl) ?_
              refine v_nn (fun a39 ea39 => ?_)
              subst ea39
              refine zr_iald (eX12_weightsOf 83 rfl) ?_
              refine zr_invV_I (as := [(.int x1, 0), (.int (zI h a35 (zx x33)), 0), (.int (zI h a37 (zx (x33 + 1))), 0), (.int (zI h a39 (zx (x33 + 2))), 0)]) (cX12_addWeights_ok l h a0 x1 (zI h a35 (zx x33)) (zI h a37 (zx (x33 + 1))) (zI h a39 (zx (x33 + 2)))) rfl rfl ⟨by decide, by decide, by decide⟩ zcd_X12_addWeights rfl ⟨zw_1368, zw_1370, zw_32, zw_62⟩ ⟨Nat.le_of_ble_eq_true rfl, Nat.le_of_ble_eq_true rfl⟩ rfl (Nat.le_of_ble_eq_true rfl) (eX12_weightsOf 84 rfl) (fun x40 h2 => ?_)
              refine zr_invV_I (as := [(.int x40, 0)]) (cX12_refused_ok l h2 a0 x40) rfl rfl ⟨by decide, by decide, by decide⟩ zcd_X12_refused rfl ⟨zw_1385, zw_1387, zw_33, zw_62⟩ ⟨Nat.le_of_ble_eq_true rfl, Nat.le_of_ble_eq_true rfl⟩ rfl (Nat.le_of_ble_eq_true rfl) (eX12_weightsOf 85 rfl) (fun x41 h3 => ?_)
              exact zr_iret rfl rfl (eX12_weightsOf 86 rfl)
            · refine zr_aload_n (r := (some a0)) (eX12_weightsOf 55 rfl) rfl rfl ?_
              refine zr_iconst (eX12_weightsOf 56 rfl) zk_iconst_3 ?_
              refine zr_invV_I (as := [(.int 3, 0)]) (cX12_failed_ok l h a0 3) rfl rfl ⟨by decide, by decide, by decide⟩ zcd_X12_failed rfl ⟨zw_1389, zw_1391, zw_34, zw_62⟩ ⟨Nat.le_of_ble_eq_true rfl, Nat.le_of_ble_eq_true rfl⟩ rfl (Nat.le_of_ble_eq_true rfl) (eX12_weightsOf 57 rfl) (fun x42 h4 => ?_)
              exact zr_iret rfl rfl (eX12_weightsOf 58 rfl)
          · refine zr_aload_n (r := (some a0)) (eX12_weightsOf 43 rfl) rfl rfl ?_
            refine zr_iconst (eX12_weightsOf 44 rfl) zk_iconst_1 ?_
            refine zr_invV_I (as := [(.int 1, 0)]) (cX12_failed_ok l h a0 1) rfl rfl ⟨by decide, by decide, by decide⟩ zcd_X12_failed rfl ⟨zw_1389, zw_1391, zw_34, zw_62⟩ ⟨Nat.le_of_ble_eq_true rfl, Nat.le_of_ble_eq_true rfl⟩ rfl (Nat.le_of_ble_eq_true rfl) (eX12_weightsOf 45 rfl) (fun x43 h5 => ?_)
            exact zr_iret rfl rfl (eX12_weightsOf 46 rfl)
        intro k44 hk44
        refine zr_if_lt (eX12_weightsOf 27 rfl) (t := 69) (by decide) ?_ ?_
        · exact v_drop [true, true, true, false, true, false] rfl (hk44)
        · refine zr_aload_n (r := (some a0)) (eX12_weightsOf 28 rfl) rfl rfl ?_
          refine zr_getR2 zf_RX12_102 (τ2 := 20) rfl (eX12_weightsOf 29 rfl) ?_
          refine v_letr (fun r45 => ?_)
          refine zr_iload_n (eX12_weightsOf 30 rfl) rfl rfl ?_
          refine v_nn (fun a46 ea46 => ?_)
          subst ea46
          refine zr_iald (eX12_weightsOf 31 rfl) ?_
          refine zr_iload_n (eX12_weightsOf 32 rfl) rfl rfl ?_
          refine zr_icmp_eq (eX12_weightsOf 33 rfl) (t := 69) (by decide) ?_ ?_
          · exact v_drop [true, true, true, false, true, false] rfl (hk44)
          · refine zr_aload_n (r := (some a0)) (eX12_weightsOf 34 rfl) rfl rfl ?_
            refine zr_iconst (eX12_weightsOf 35 rfl) zk_iconst_2 ?_
            refine zr_invV_I (as := [(.int 2, 0)]) (cX12_failed_ok l h a0 2) rfl rfl ⟨by decide, by decide, by decide⟩ zcd_X12_failed rfl ⟨zw_1389, zw_1391, zw_34, zw_62⟩ ⟨Nat.le_of_ble_eq_true rfl, Nat.le_of_ble_eq_true rfl⟩ rfl (Nat.le_of_ble_eq_true rfl) (eX12_weightsOf 36 rfl) (fun x47 h6 => ?_)
            exact zr_iret rfl rfl (eX12_weightsOf 37 rfl)
      · exact v_drop [true, false, false, false, false, false] rfl (hk24)
  · refine zr_aload_n (r := (some a0)) (eX12_weightsOf 3 rfl) rfl rfl ?_
    refine zr_iconst (eX12_weightsOf 4 rfl) zk_iconst_m1 ?_
    refine zr_invV_I (as := [(.int (-1), 0)]) (cX12_refused_ok l h a0 (-1)) rfl rfl ⟨by decide, by decide, by decide⟩ zcd_X12_refused rfl ⟨zw_1385, zw_1387, zw_33, zw_62⟩ ⟨Nat.le_of_ble_eq_true rfl, Nat.le_of_ble_eq_true rfl⟩ rfl (Nat.le_of_ble_eq_true rfl) (eX12_weightsOf 5 rfl) (fun x48 h7 => ?_)
    exact zr_iret rfl rfl (eX12_weightsOf 6 rfl)
def gX12_weight (h : Zh) (a0 : Nat) (x1 : Int32) (x2 : Int32) : Option (Int64) :=
  zbi (gX12_noWeights h a0 x1) (fun x21 => (if (x21 : Int32) = 0 then (if (x2 : Int32) = 0 then zlt (zR h a0 21) (fun r22 => Option.bind r22 (fun a23 => zg (zin x1 (zL h a23)) ((some (((zI h a23 (zx x1)) : Int32).toInt64)))))
  else (if (x2 : Int32) = 1 then zlt (zR h a0 22) (fun r24 => Option.bind r24 (fun a25 => zg (zin x1 (zL h a25)) ((some (((zI h a25 (zx x1)) : Int32).toInt64)))))
  else (if (x2 : Int32) = 2 then zlt (zR h a0 23) (fun r26 => Option.bind r26 (fun a27 => zg (zin x1 (zL h a27)) ((some (((zI h a27 (zx x1)) : Int32).toInt64)))))
  else (if (x2 : Int32) = 3 then zlt (zR h a0 20) (fun r28 => Option.bind r28 (fun a29 => zg (zin x1 (zL h a29)) ((some (((zI h a29 (zx x1)) : Int32).toInt64)))))
  else zbj (gX12_lost ) (fun x30 => (some x30))))))
  else zbj (gX12_lost ) (fun x31 => (some x31))))
set_option maxRecDepth 20000 in
theorem cX12_weight_ok (l : Launch) (h : Zh) (a0 : Nat) (x1 : Int32) (x2 : Int32) : Zc l yX12_weight mX12_weight 0 h [(.ref a0, 12), (.int x1, 0), (.int x2, 0)] ((gX12_weight h a0 x1 x2).map (zoj h)) := by
  refine zc_of2 (ls := [some (.ref a0, 12), some (.int x1, 0), some (.int x2, 0)]) (j := 0) (by decide +kernel) rfl rfl (zEn_ca (zEn_ci (zEn_ci rfl))) (Nat.le_of_ble_eq_true rfl) rfl ?_
  unfold gX12_weight
  refine zr_aload_n (r := (some a0)) (eX12_weight 0 rfl) rfl rfl ?_
  refine zr_iload_n (eX12_weight 1 rfl) rfl rfl ?_
  refine zr_invV_i (as := [(.int x1, 0)]) (cX12_noWeights_ok l h a0 x1) rfl rfl ⟨by decide, by decide, by decide⟩ zcd_X12_noWeights rfl ⟨zw_1400, zw_1402, zw_35, zw_62⟩ ⟨Nat.le_of_ble_eq_true rfl, Nat.le_of_ble_eq_true rfl⟩ rfl (Nat.le_of_ble_eq_true rfl) (eX12_weight 2 rfl) (fun x21 => ?_)
  refine zr_if_eq (eX12_weight 3 rfl) (t := 12) (by decide) ?_ ?_
  · refine zr_iload_n (eX12_weight 6 rfl) rfl rfl ?_
    refine zr_tab (c := 0) (t := 44) (off := 31) (eX12_weight 7 rfl) (by decide) (by decide) ?_ (fun q0 => ?_)
    · refine zr_aload_n (r := (some a0)) (eX12_weight 8 rfl) rfl rfl ?_
      refine zr_getR2 zf_RX12_53 (τ2 := 20) rfl (eX12_weight 9 rfl) ?_
      refine v_letr (fun r22 => ?_)
      refine zr_iload_n (eX12_weight 10 rfl) rfl rfl ?_
      refine v_nn (fun a23 ea23 => ?_)
      subst ea23
      refine zr_iald (eX12_weight 11 rfl) ?_
      refine zr_i2l (eX12_weight 12 rfl) ?_
      exact zr_lret rfl rfl (eX12_weight 13 rfl)
    refine zr_tab (c := 1) (t := 52) (off := 39) (eX12_weight 7 rfl) (by decide) (by decide) ?_ (fun q1 => ?_)
    · refine zr_aload_n (r := (some a0)) (eX12_weight 14 rfl) rfl rfl ?_
      refine zr_getR2 zf_RX12_56 (τ2 := 20) rfl (eX12_weight 15 rfl) ?_
      refine v_letr (fun r24 => ?_)
      refine zr_iload_n (eX12_weight 16 rfl) rfl rfl ?_
      refine v_nn (fun a25 ea25 => ?_)
      subst ea25
      refine zr_iald (eX12_weight 17 rfl) ?_
      refine zr_i2l (eX12_weight 18 rfl) ?_
      exact zr_lret rfl rfl (eX12_weight 19 rfl)
    refine zr_tab (c := 2) (t := 60) (off := 47) (eX12_weight 7 rfl) (by decide) (by decide) ?_ (fun q2 => ?_)
    · refine zr_aload_n (r := (some a0)) (eX12_weight 20 rfl) rfl rfl ?_
      refine zr_getR2 zf_RX12_59 (τ2 := 20) rfl (eX12_weight 21 rfl) ?_
      refine v_letr (fun r26 => ?_)
      refine zr_iload_n (eX12_weight 22 rfl) rfl rfl ?_
      refine v_nn (fun a27 ea27 => ?_)
      subst ea27
      refine zr_iald (eX12_weight 23 rfl) ?_
      refine zr_i2l (eX12_weight 24 rfl) ?_
      exact zr_lret rfl rfl (eX12_weight 25 rfl)
    refine zr_tab (c := 3) (t := 68) (off := 55) (eX12_weight 7 rfl) (by decide) (by decide) ?_ (fun q3 => ?_)
    · refine zr_aload_n (r := (some a0)) (eX12_weight 26 rfl) rfl rfl ?_
      refine zr_getR2 zf_RX12_50 (τ2 := 20) rfl (eX12_weight 27 rfl) ?_
      refine v_letr (fun r28 => ?_)
      refine zr_iload_n (eX12_weight 28 rfl) rfl rfl ?_
      refine v_nn (fun a29 ea29 => ?_)
      subst ea29
      refine zr_iald (eX12_weight 29 rfl) ?_
      refine zr_i2l (eX12_weight 30 rfl) ?_
      exact zr_lret rfl rfl (eX12_weight 31 rfl)
    have q0' := zne (c := 0) (n := 0) (by decide) q0
    have q1' := zne (c := 1) (n := 1) (by decide) q1
    have q2' := zne (c := 2) (n := 2) (by decide) q2
    have q3' := zne (c := 3) (n := 3) (by decide) q3
    refine zr_tabD (t := 76) (eX12_weight 7 rfl) (by omega) (by decide) ?_
    refine zr_invS_j (as := []) (cX12_lost_ok l h ) rfl zcd_X12_lost ⟨zw_1224, zw_1225, zw_62⟩ ⟨Nat.le_of_ble_eq_true rfl, Nat.le_of_ble_eq_true rfl⟩ rfl (Nat.le_of_ble_eq_true rfl) (eX12_weight 32 rfl) (fun x30 => ?_)
    exact zr_lret rfl rfl (eX12_weight 33 rfl)
  · refine zr_invS_j (as := []) (cX12_lost_ok l h ) rfl zcd_X12_lost ⟨zw_1224, zw_1225, zw_62⟩ ⟨Nat.le_of_ble_eq_true rfl, Nat.le_of_ble_eq_true rfl⟩ rfl (Nat.le_of_ble_eq_true rfl) (eX12_weight 4 rfl) (fun x31 => ?_)
    exact zr_lret rfl rfl (eX12_weight 5 rfl)
def gX12_crossing_J1 : Option (Int32) :=
  (some 0)
def gX12_crossing_J2 (h : Zh) (a0 : Nat) (x1 : Int32) (x2 : Int32) (x3 : Int32) (x4 : Int32) (x5 : Int32) : Option (Int32) :=
  zjn gX12_crossing_J1 (fun (k21 : Option (Int32)) =>
  (if (x2 : Int32) = x5 then (if (x3 : Int32) = x4 then zlt (zR h a0 23) (fun r22 => Option.bind r22 (fun a23 => zg (zin x1 (zL h a23)) ((some (zI h a23 (zx x1))))))
  else k21)
  else k21))
def gX12_crossing_J3 : Option (Int32) :=
  (some 0)
def gX12_crossing (h : Zh) (a0 : Nat) (x1 : Int32) (x2 : Int32) (x3 : Int32) (x4 : Int32) (x5 : Int32) : Option (Int32) :=
  (if (x2 : Int32) = x3 then zjn gX12_crossing_J3 (fun (k27 : Option (Int32)) =>
  (if (x4 : Int32) = x2 then (if (x5 : Int32) = x2 then zlt (zR h a0 21) (fun r28 => Option.bind r28 (fun a29 => zg (zin x1 (zL h a29)) ((some (zI h a29 (zx x1))))))
  else k27)
  else k27))
  else zjn (gX12_crossing_J2 h a0 x1 x2 x3 x4 x5) (fun (k24 : Option (Int32)) =>
  (if (x2 : Int32) = x4 then (if (x3 : Int32) = x5 then zlt (zR h a0 22) (fun r25 => Option.bind r25 (fun a26 => zg (zin x1 (zL h a26)) ((some (zI h a26 (zx x1))))))
  else k24)
  else k24)))
set_option maxRecDepth 20000 in
theorem cX12_crossing_ok (l : Launch) (h : Zh) (a0 : Nat) (x1 : Int32) (x2 : Int32) (x3 : Int32) (x4 : Int32) (x5 : Int32) : Zc l yX12_crossing mX12_crossing 0 h [(.ref a0, 12), (.int x1, 0), (.int x2, 0), (.int x3, 0), (.int x4, 0), (.int x5, 0)] ((gX12_crossing h a0 x1 x2 x3 x4 x5).map (zoi h)) := by
  refine zc_of2 (ls := [some (.ref a0, 12), some (.int x1, 0), some (.int x2, 0), some (.int x3, 0), some (.int x4, 0), some (.int x5, 0)]) (j := 0) (by decide +kernel) rfl rfl (zEn_ca (zEn_ci (zEn_ci (zEn_ci (zEn_ci (zEn_ci rfl)))))) (Nat.le_of_ble_eq_true rfl) rfl ?_
  unfold gX12_crossing
  refine zr_iload_n (eX12_crossing 0 rfl) rfl rfl ?_
  refine zr_iload_n (eX12_crossing 1 rfl) rfl rfl ?_
  refine zr_icmp_ne (eX12_crossing 2 rfl) (t := 28) (by decide) ?_ ?_
  · refine zr_iload_n (eX12_crossing 16 rfl) rfl rfl ?_
    refine zr_iload (eX12_crossing 17 rfl) rfl ?_
    refine v_jn (fun (k24 : Option (Int32)) => V l mX12_crossing (zN h) (zS h) 0 (zoi h) 49 [some (.ref a0, 12), some (.int x1, 0), some (.int x2, 0), some (.int x3, 0), some (.int x4, 0), some (.int x5, 0)] [] h k24) ?_ ?_
    · skip
      unfold gX12_crossing_J2
      refine zr_iload_n (eX12_crossing 27 rfl) rfl rfl ?_
      refine zr_iload (eX12_crossing 28 rfl) rfl ?_
      refine v_jn (fun (k21 : Option (Int32)) => V l mX12_crossing (zN h) (zS h) 0 (zoi h) 70 [none, none, none, none, none, none] [] h k21) ?_ ?_
      · skip
        unfold gX12_crossing_J1
        refine zr_iconst (eX12_crossing 38 rfl) zk_iconst_0 ?_
        exact zr_iret rfl rfl (eX12_crossing 39 rfl)
      intro k21 hk21
      refine zr_icmp_ne (eX12_crossing 29 rfl) (t := 70) (by decide) ?_ ?_
      · exact v_drop [false, false, false, false, false, false] rfl (hk21)
      · refine zr_iload_n (eX12_crossing 30 rfl) rfl rfl ?_
        refine zr_iload (eX12_crossing 31 rfl) rfl ?_
        refine zr_icmp_ne (eX12_crossing 32 rfl) (t := 70) (by decide) ?_ ?_
        · exact v_drop [false, false, false, false, false, false] rfl (hk21)
        · refine zr_aload_n (r := (some a0)) (eX12_crossing 33 rfl) rfl rfl ?_
          refine zr_getR2 zf_RX12_59 (τ2 := 20) rfl (eX12_crossing 34 rfl) ?_
          refine v_letr (fun r22 => ?_)
          refine zr_iload_n (eX12_crossing 35 rfl) rfl rfl ?_
          refine v_nn (fun a23 ea23 => ?_)
          subst ea23
          refine zr_iald (eX12_crossing 36 rfl) ?_
          refine zr_goto (eX12_crossing 37 rfl) (t := 71) (by decide) ?_
          exact zr_iret rfl rfl (eX12_crossing 39 rfl)
    intro k24 hk24
    refine zr_icmp_ne (eX12_crossing 18 rfl) (t := 49) (by decide) ?_ ?_
    · exact v_drop [true, true, true, true, true, true] rfl (hk24)
    · refine zr_iload_n (eX12_crossing 19 rfl) rfl rfl ?_
      refine zr_iload (eX12_crossing 20 rfl) rfl ?_
      refine zr_icmp_ne (eX12_crossing 21 rfl) (t := 49) (by decide) ?_ ?_
      · exact v_drop [true, true, true, true, true, true] rfl (hk24)
      · refine zr_aload_n (r := (some a0)) (eX12_crossing 22 rfl) rfl rfl ?_
        refine zr_getR2 zf_RX12_56 (τ2 := 20) rfl (eX12_crossing 23 rfl) ?_
        refine v_letr (fun r25 => ?_)
        refine zr_iload_n (eX12_crossing 24 rfl) rfl rfl ?_
        refine v_nn (fun a26 ea26 => ?_)
        subst ea26
        refine zr_iald (eX12_crossing 25 rfl) ?_
        refine zr_goto (eX12_crossing 26 rfl) (t := 71) (by decide) ?_
        exact zr_iret rfl rfl (eX12_crossing 39 rfl)
  · refine zr_iload (eX12_crossing 3 rfl) rfl ?_
    refine zr_iload_n (eX12_crossing 4 rfl) rfl rfl ?_
    refine v_jn (fun (k27 : Option (Int32)) => V l mX12_crossing (zN h) (zS h) 0 (zoi h) 26 [none, none, none, none, none, none] [] h k27) ?_ ?_
    · skip
      unfold gX12_crossing_J3
      refine zr_iconst (eX12_crossing 14 rfl) zk_iconst_0 ?_
      exact zr_iret rfl rfl (eX12_crossing 15 rfl)
    intro k27 hk27
    refine zr_icmp_ne (eX12_crossing 5 rfl) (t := 26) (by decide) ?_ ?_
    · exact v_drop [false, false, false, false, false, false] rfl (hk27)
    · refine zr_iload (eX12_crossing 6 rfl) rfl ?_
      refine zr_iload_n (eX12_crossing 7 rfl) rfl rfl ?_
      refine zr_icmp_ne (eX12_crossing 8 rfl) (t := 26) (by decide) ?_ ?_
      · exact v_drop [false, false, false, false, false, false] rfl (hk27)
      · refine zr_aload_n (r := (some a0)) (eX12_crossing 9 rfl) rfl rfl ?_
        refine zr_getR2 zf_RX12_53 (τ2 := 20) rfl (eX12_crossing 10 rfl) ?_
        refine v_letr (fun r28 => ?_)
        refine zr_iload_n (eX12_crossing 11 rfl) rfl rfl ?_
        refine v_nn (fun a29 ea29 => ?_)
        subst ea29
        refine zr_iald (eX12_crossing 12 rfl) ?_
        refine zr_goto (eX12_crossing 13 rfl) (t := 27) (by decide) ?_
        exact zr_iret rfl rfl (eX12_crossing 15 rfl)
