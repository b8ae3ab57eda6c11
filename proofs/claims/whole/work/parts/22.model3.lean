def gX12_along_J1 (x6 : Int32) : Int64 → Int64 → Option (Int64) :=
  fun (x23 : Int64) (x24 : Int64) => (if (x6 : Int32) = 0 then (some x23)
  else (some x24))
def gX12_along_L2 (h : Zh) (a0 : Nat) (x1 : Int32) (x2 : Int32) (x3 : Int32) (x4 : Int32) (k25 : Int64 → Int64 → Option (Int64)) : (Int64 → Int64 → Int32 → Option (Int64)) → Int64 → Int64 → Int32 → Option (Int64) :=
  fun (k29 : Int64 → Int64 → Int32 → Option (Int64)) (x26 : Int64) (x27 : Int64) (x28 : Int32) => (if (x2 : Int32) ≤ x28 then k25 x26 x27
  else zlt ((x3 >>> (x28 &&& 31)) &&& 1) (fun x30 => zlt ((x4 >>> (x28 &&& 31)) &&& 1) (fun x31 => zbi (gX12_crossing h a0 x1 0 x30 0 x31) (fun x32 => zbi (gX12_crossing h a0 x1 1 x30 0 x31) (fun x33 => zlt ((x26 * ((x32 : Int32).toInt64)) + (x27 * ((x33 : Int32).toInt64))) (fun x34 => zbi (gX12_crossing h a0 x1 0 x30 1 x31) (fun x35 => zbi (gX12_crossing h a0 x1 1 x30 1 x31) (fun x36 => zlt ((x26 * ((x35 : Int32).toInt64)) + (x27 * ((x36 : Int32).toInt64))) (fun x37 => k29 x34 x37 (x28 + 1))))))))))
def gX12_along_J3 (h : Zh) (a0 : Nat) (x1 : Int32) (x2 : Int32) (x3 : Int32) (x4 : Int32) (x6 : Int32) (x21 : Int64) : Int64 → Option (Int64) :=
  fun (x22 : Int64) => zjn (gX12_along_J1 x6) (fun (k25 : Int64 → Int64 → Option (Int64)) =>
  zlp (fun (_ : Int64) (_ : Int64) (_ : Int32) => (none : Option (Int64))) (gX12_along_L2 h a0 x1 x2 x3 x4 k25) zFU x21 x22 0)
def gX12_along_J4 (h : Zh) (a0 : Nat) (x1 : Int32) (x2 : Int32) (x3 : Int32) (x4 : Int32) (x5 : Int32) (x6 : Int32) : Int64 → Option (Int64) :=
  fun (x21 : Int64) => zjn (gX12_along_J3 h a0 x1 x2 x3 x4 x6 x21) (fun (k38 : Int64 → Option (Int64)) =>
  (if (x5 : Int32) = 1 then k38 1
  else k38 0))
def gX12_along (h : Zh) (a0 : Nat) (x1 : Int32) (x2 : Int32) (x3 : Int32) (x4 : Int32) (x5 : Int32) (x6 : Int32) : Option (Int64) :=
  zjn (gX12_along_J4 h a0 x1 x2 x3 x4 x5 x6) (fun (k39 : Int64 → Option (Int64)) =>
  (if (x5 : Int32) = 0 then k39 1
  else k39 0))
set_option maxRecDepth 20000 in
theorem cX12_along_ok (l : Launch) (h : Zh) (a0 : Nat) (x1 : Int32) (x2 : Int32) (x3 : Int32) (x4 : Int32) (x5 : Int32) (x6 : Int32) : Zc l yX12_along mX12_along 0 h [(.ref a0, 12), (.int x1, 0), (.int x2, 0), (.int x3, 0), (.int x4, 0), (.int x5, 0), (.int x6, 0)] ((gX12_along h a0 x1 x2 x3 x4 x5 x6).map (zoj h)) := by
  refine zc_of2 (ls := [some (.ref a0, 12), some (.int x1, 0), some (.int x2, 0), some (.int x3, 0), some (.int x4, 0), some (.int x5, 0), some (.int x6, 0), none, none, none, none, none, none, none, none, none, none, none]) (j := 11) (by decide +kernel) rfl rfl (zEn_ca (zEn_ci (zEn_ci (zEn_ci (zEn_ci (zEn_ci (zEn_ci rfl))))))) (Nat.le_of_ble_eq_true rfl) rfl ?_
  unfold gX12_along
  refine zr_iload (eX12_along 0 rfl) rfl ?_
  refine v_jn (fun (k39 : Int64 → Option (Int64)) => ∀ (x21 : Int64), V l mX12_along (zN h) (zS h) 0 (zoj h) 10 [some (.ref a0, 12), some (.int x1, 0), some (.int x2, 0), some (.int x3, 0), some (.int x4, 0), some (.int x5, 0), some (.int x6, 0), none, none, none, none, none, none, none, none, none, none, none] [(.long x21, 0)] h (k39 x21)) ?_ ?_
  · intro x21
    unfold gX12_along_J4
    refine zr_lstore (ls2 := [some (.ref a0, 12), some (.int x1, 0), some (.int x2, 0), some (.int x3, 0), some (.int x4, 0), some (.int x5, 0), some (.int x6, 0), some (.long x21, 0), none, none, none, none, none, none, none, none, none, none]) (eX12_along 5 rfl) (Nat.le_of_ble_eq_true rfl) rfl ?_
    refine zr_iload (eX12_along 6 rfl) rfl ?_
    refine zr_iconst (eX12_along 7 rfl) zk_iconst_1 ?_
    refine v_jn (fun (k38 : Int64 → Option (Int64)) => ∀ (x22 : Int64), V l mX12_along (zN h) (zS h) 0 (zoj h) 23 [some (.ref a0, 12), some (.int x1, 0), some (.int x2, 0), some (.int x3, 0), some (.int x4, 0), none, some (.int x6, 0), some (.long x21, 0), none, none, none, none, none, none, none, none, none, none] [(.long x22, 0)] h (k38 x22)) ?_ ?_
    · intro x22
      unfold gX12_along_J3
      refine zr_lstore (ls2 := [some (.ref a0, 12), some (.int x1, 0), some (.int x2, 0), some (.int x3, 0), some (.int x4, 0), none, some (.int x6, 0), some (.long x21, 0), none, some (.long x22, 0), none, none, none, none, none, none, none, none]) (eX12_along 12 rfl) (Nat.le_of_ble_eq_true rfl) rfl ?_
      refine zr_iconst (eX12_along 13 rfl) zk_iconst_0 ?_
      refine zr_istore (ls2 := [some (.ref a0, 12), some (.int x1, 0), some (.int x2, 0), some (.int x3, 0), some (.int x4, 0), none, some (.int x6, 0), some (.long x21, 0), none, some (.long x22, 0), none, some (.int 0, 0), none, none, none, none, none, none]) (eX12_along 14 rfl) (Nat.le_of_ble_eq_true rfl) rfl ?_
      refine v_jn (fun (k25 : Int64 → Int64 → Option (Int64)) => ∀ (x23 : Int64) (x24 : Int64), V l mX12_along (zN h) (zS h) 0 (zoj h) 131 [none, none, none, none, none, none, some (.int x6, 0), some (.long x23, 0), none, some (.long x24, 0), none, none, none, none, none, none, none, none] [] h (k25 x23 x24)) ?_ ?_
      · intro x23 x24
        unfold gX12_along_J1
        refine zr_iload (eX12_along 80 rfl) rfl ?_
        refine zr_if_ne (eX12_along 81 rfl) (t := 141) (by decide) ?_ ?_
        · refine zr_lload (eX12_along 84 rfl) rfl ?_
          exact zr_lret rfl rfl (eX12_along 85 rfl)
        · refine zr_lload (eX12_along 82 rfl) rfl ?_
          refine zr_goto (eX12_along 83 rfl) (t := 143) (by decide) ?_
          exact zr_lret rfl rfl (eX12_along 85 rfl)
      intro k25 hk25
      refine v_drop [true, true, true, true, true, false, true, true, false, true, false, true, false, false, false, false, false, false] rfl ?_
      refine zlp_ind (fun (k29 : Int64 → Int64 → Int32 → Option (Int64)) => ∀ (x26 : Int64) (x27 : Int64) (x28 : Int32), V l mX12_along (zN h) (zS h) 0 (zoj h) 28 [some (.ref a0, 12), some (.int x1, 0), some (.int x2, 0), some (.int x3, 0), some (.int x4, 0), none, some (.int x6, 0), some (.long x26, 0), none, some (.long x27, 0), none, some (.int x28, 0), none, none, none, none, none, none] [] h (k29 x26 x27 x28)) ?_ ?_ x21 x22 0
      · exact fun _ _ _ => v_none
      intro k29 hk29 x26 x27 x28
      unfold gX12_along_L2
      refine zr_iload (eX12_along 15 rfl) rfl ?_
      refine zr_iload_n (eX12_along 16 rfl) rfl rfl ?_
      refine zr_icmp_ge (eX12_along 17 rfl) (t := 131) (by decide) ?_ ?_
      · exact v_drop [false, false, false, false, false, false, true, true, false, true, false, false, false, false, false, false, false, false] rfl (hk25 x26 x27)
      · refine zr_iload_n (eX12_along 18 rfl) rfl rfl ?_
        refine zr_iload (eX12_along 19 rfl) rfl ?_
        refine zr_ishr (eX12_along 20 rfl) ?_
        refine zr_iconst (eX12_along 21 rfl) zk_iconst_1 ?_
        refine zr_iand (eX12_along 22 rfl) ?_
        refine v_leti (fun x30 => ?_)
        refine zr_istore (ls2 := [some (.ref a0, 12), some (.int x1, 0), some (.int x2, 0), some (.int x3, 0), some (.int x4, 0), none, some (.int x6, 0), some (.long x26, 0), none, some (.long x27, 0), none, some (.int x28, 0), some (.int x30, 0), none, none, none, none, none]) (eX12_along 23 rfl) (Nat.le_of_ble_eq_true rfl) rfl ?_
        refine zr_iload (eX12_along 24 rfl) rfl ?_
        refine zr_iload (eX12_along 25 rfl) rfl ?_
        refine zr_ishr (eX12_along 26 rfl) ?_
        refine zr_iconst (eX12_along 27 rfl) zk_iconst_1 ?_
        refine zr_iand (eX12_along 28 rfl) ?_
        refine v_leti (fun x31 => ?_)
        refine zr_istore (ls2 := [some (.ref a0, 12), some (.int x1, 0), some (.int x2, 0), some (.int x3, 0), some (.int x4, 0), none, some (.int x6, 0), some (.long x26, 0), none, some (.long x27, 0), none, some (.int x28, 0), some (.int x30, 0), some (.int x31, 0), none, none, none, none]) (eX12_along 29 rfl) (Nat.le_of_ble_eq_true rfl) rfl ?_
        refine zr_lload (eX12_along 30 rfl) rfl ?_
        refine zr_aload_n (r := (some a0)) (eX12_along 31 rfl) rfl rfl ?_
        refine zr_iload_n (eX12_along 32 rfl) rfl rfl ?_
        refine zr_iconst (eX12_along 33 rfl) zk_iconst_0 ?_
        refine zr_iload (eX12_along 34 rfl) rfl ?_
        refine zr_iconst (eX12_along 35 rfl) zk_iconst_0 ?_
        refine zr_iload (eX12_along 36 rfl) rfl ?_
        refine zr_invV_i (as := [(.int x1, 0), (.int 0, 0), (.int x30, 0), (.int 0, 0), (.int x31, 0)]) (cX12_crossing_ok l h a0 x1 0 x30 0 x31) rfl rfl ⟨by decide, by decide, by decide⟩ zcd_X12_crossing rfl ⟨zw_1417, zw_1419, zw_38, zw_62⟩ ⟨Nat.le_of_ble_eq_true rfl, Nat.le_of_ble_eq_true rfl⟩ rfl (Nat.le_of_ble_eq_true rfl) (eX12_along 37 rfl) (fun x32 => ?_)
        refine zr_i2l (eX12_along 38 rfl) ?_
        refine zr_lmul (eX12_along 39 rfl) ?_
        refine zr_lload (eX12_along 40 rfl) rfl ?_
        refine zr_aload_n (r := (some a0)) (eX12_along 41 rfl) rfl rfl ?_
        refine zr_iload_n (eX12_along 42 rfl) rfl rfl ?_
        refine zr_iconst (eX12_along 43 rfl) zk_iconst_1 ?_
        refine zr_iload (eX12_along 44 rfl) rfl ?_
        refine zr_iconst (eX12_along 45 rfl) zk_iconst_0 ?_
        refine zr_iload (eX12_along 46 rfl) rfl ?_
        refine zr_invV_i (as := [(.int x1, 0), (.int 1, 0), (.int x30, 0), (.int 0, 0), (.int x31, 0)]) (cX12_crossing_ok l h a0 x1 1 x30 0 x31) rfl rfl ⟨by decide, by decide, by decide⟩ zcd_X12_crossing rfl ⟨zw_1417, zw_1419, zw_38, zw_62⟩ ⟨Nat.le_of_ble_eq_true rfl, Nat.le_of_ble_eq_true rfl⟩ rfl (Nat.le_of_ble_eq_true rfl) (eX12_along 47 rfl) (fun x33 => ?_)
        refine zr_i2l (eX12_along 48 rfl) ?_
        refine zr_lmul (eX12_along 49 rfl) ?_
        refine zr_ladd (eX12_along 50 rfl) ?_
        refine v_letj (fun x34 => ?_)
        refine zr_lstore (ls2 := [some (.ref a0, 12), some (.int x1, 0), some (.int x2, 0), some (.int x3, 0), some (.int x4, 0), none, some (.int x6, 0), some (.long x26, 0), none, some (.long x27, 0), none, some (.int x28, 0), some (.int x30, 0), some (.int x31, 0), some (.long x34, 0), none, none, none]) (eX12_along 51 rfl) (Nat.le_of_ble_eq_true rfl) rfl ?_
        refine zr_lload (eX12_along 52 rfl) rfl ?_
        refine zr_aload_n (r := (some a0)) (eX12_along 53 rfl) rfl rfl ?_
        refine zr_iload_n (eX12_along 54 rfl) rfl rfl ?_
        refine zr_iconst (eX12_along 55 rfl) zk_iconst_0 ?_
        refine zr_iload (eX12_along 56 rfl) rfl ?_
        refine zr_iconst (eX12_along 57 rfl) zk_iconst_1 ?_
        refine zr_iload (eX12_along 58 rfl) rfl ?_
        refine zr_invV_i (as := [(.int x1, 0), (.int 0, 0), (.int x30, 0), (.int 1, 0), (.int x31, 0)]) (cX12_crossing_ok l h a0 x1 0 x30 1 x31) rfl rfl ⟨by decide, by decide, by decide⟩ zcd_X12_crossing rfl ⟨zw_1417, zw_1419, zw_38, zw_62⟩ ⟨Nat.le_of_ble_eq_true rfl, Nat.le_of_ble_eq_true rfl⟩ rfl (Nat.le_of_ble_eq_true rfl) (eX12_along 59 rfl) (fun x35 => ?_)
        refine zr_i2l (eX12_along 60 rfl) ?_
        refine zr_lmul (eX12_along 61 rfl) ?_
        refine zr_lload (eX12_along 62 rfl) rfl ?_
        refine zr_aload_n (r := (some a0)) (eX12_along 63 rfl) rfl rfl ?_
        refine zr_iload_n (eX12_along 64 rfl) rfl rfl ?_
        refine zr_iconst (eX12_along 65 rfl) zk_iconst_1 ?_
        refine zr_iload (eX12_along 66 rfl) rfl ?_
        refine zr_iconst (eX12_along 67 rfl) zk_iconst_1 ?_
        refine zr_iload (eX12_along 68 rfl) rfl ?_
        refine zr_invV_i (as := [(.int x1, 0), (.int 1, 0), (.int x30, 0), (.int 1, 0), (.int x31, 0)]) (cX12_crossing_ok l h a0 x1 1 x30 1 x31) rfl rfl ⟨by decide, by decide, by decide⟩ zcd_X12_crossing rfl ⟨zw_1417, zw_1419, zw_38, zw_62⟩ ⟨Nat.le_of_ble_eq_true rfl, Nat.le_of_ble_eq_true rfl⟩ rfl (Nat.le_of_ble_eq_true rfl) (eX12_along 69 rfl) (fun x36 => ?_)
        refine zr_i2l (eX12_along 70 rfl) ?_
        refine zr_lmul (eX12_along 71 rfl) ?_
        refine zr_ladd (eX12_along 72 rfl) ?_
        refine v_letj (fun x37 => ?_)
        refine zr_lstore (ls2 := [some (.ref a0, 12), some (.int x1, 0), some (.int x2, 0), some (.int x3, 0), some (.int x4, 0), none, some (.int x6, 0), some (.long x26, 0), none, some (.long x27, 0), none, some (.int x28, 0), some (.int x30, 0), some (.int x31, 0), some (.long x34, 0), none, some (.long x37, 0), none]) (eX12_along 73 rfl) (Nat.le_of_ble_eq_true rfl) rfl ?_
        refine zr_lload (eX12_along 74 rfl) rfl ?_
        refine zr_lstore (ls2 := [some (.ref a0, 12), some (.int x1, 0), some (.int x2, 0), some (.int x3, 0), some (.int x4, 0), none, some (.int x6, 0), some (.long x34, 0), none, some (.long x27, 0), none, some (.int x28, 0), some (.int x30, 0), some (.int x31, 0), some (.long x34, 0), none, some (.long x37, 0), none]) (eX12_along 75 rfl) (Nat.le_of_ble_eq_true rfl) rfl ?_
        refine zr_lload (eX12_along 76 rfl) rfl ?_
        refine zr_lstore (ls2 := [some (.ref a0, 12), some (.int x1, 0), some (.int x2, 0), some (.int x3, 0), some (.int x4, 0), none, some (.int x6, 0), some (.long x34, 0), none, some (.long x37, 0), none, some (.int x28, 0), some (.int x30, 0), some (.int x31, 0), some (.long x34, 0), none, some (.long x37, 0), none]) (eX12_along 77 rfl) (Nat.le_of_ble_eq_true rfl) rfl ?_
        refine zr_iinc (ls2 := [some (.ref a0, 12), some (.int x1, 0), some (.int x2, 0), some (.int x3, 0), some (.int x4, 0), none, some (.int x6, 0), some (.long x34, 0), none, some (.long x37, 0), none, some (.int (x28 + 1), 0), some (.int x30, 0), some (.int x31, 0), some (.long x34, 0), none, some (.long x37, 0), none]) (eX12_along 78 rfl) rfl (Nat.le_of_ble_eq_true rfl) zk_iconst_1 rfl ?_
        refine zr_goto (eX12_along 79 rfl) (t := 28) (by decide) ?_
        exact v_drop [true, true, true, true, true, false, true, true, false, true, false, true, false, false, false, false, false, false] rfl (hk29 x34 x37 (x28 + 1))
    intro k38 hk38
    refine zr_icmp_ne (eX12_along 8 rfl) (t := 22) (by decide) ?_ ?_
    · refine zr_lconst (eX12_along 11 rfl) zk_lconst_0 ?_
      exact v_drop [true, true, true, true, true, false, true, true, false, false, false, false, false, false, false, false, false, false] rfl (hk38 0)
    · refine zr_lconst (eX12_along 9 rfl) zk_lconst_1 ?_
      refine zr_goto (eX12_along 10 rfl) (t := 23) (by decide) ?_
      exact v_drop [true, true, true, true, true, false, true, true, false, false, false, false, false, false, false, false, false, false] rfl (hk38 1)
  intro k39 hk39
  refine zr_if_ne (eX12_along 1 rfl) (t := 9) (by decide) ?_ ?_
  · refine zr_lconst (eX12_along 4 rfl) zk_lconst_0 ?_
    exact v_drop [true, true, true, true, true, true, true, false, false, false, false, false, false, false, false, false, false, false] rfl (hk39 0)
  · refine zr_lconst (eX12_along 2 rfl) zk_lconst_1 ?_
    refine zr_goto (eX12_along 3 rfl) (t := 10) (by decide) ?_
    exact v_drop [true, true, true, true, true, true, true, false, false, false, false, false, false, false, false, false, false, false] rfl (hk39 1)
def gX12_rowOf (h : Zh) (a0 : Nat) (x1 : Int32) (x2 : Int32) (x3 : Int32) (x4 : Int32) : Option (Int64) :=
  zbj (gX12_along h a0 x1 x2 x3 x4 0 0) (fun x21 => zbj (gX12_along h a0 x1 x2 x3 x4 1 1) (fun x22 => (some (x21 + x22))))
set_option maxRecDepth 20000 in
theorem cX12_rowOf_ok (l : Launch) (h : Zh) (a0 : Nat) (x1 : Int32) (x2 : Int32) (x3 : Int32) (x4 : Int32) : Zc l yX12_rowOf mX12_rowOf 0 h [(.ref a0, 12), (.int x1, 0), (.int x2, 0), (.int x3, 0), (.int x4, 0)] ((gX12_rowOf h a0 x1 x2 x3 x4).map (zoj h)) := by
  refine zc_of2 (ls := [some (.ref a0, 12), some (.int x1, 0), some (.int x2, 0), some (.int x3, 0), some (.int x4, 0)]) (j := 0) (by decide +kernel) rfl rfl (zEn_ca (zEn_ci (zEn_ci (zEn_ci (zEn_ci rfl))))) (Nat.le_of_ble_eq_true rfl) rfl ?_
  unfold gX12_rowOf
  refine zr_aload_n (r := (some a0)) (eX12_rowOf 0 rfl) rfl rfl ?_
  refine zr_iload_n (eX12_rowOf 1 rfl) rfl rfl ?_
  refine zr_iload_n (eX12_rowOf 2 rfl) rfl rfl ?_
  refine zr_iload_n (eX12_rowOf 3 rfl) rfl rfl ?_
  refine zr_iload (eX12_rowOf 4 rfl) rfl ?_
  refine zr_iconst (eX12_rowOf 5 rfl) zk_iconst_0 ?_
  refine zr_iconst (eX12_rowOf 6 rfl) zk_iconst_0 ?_
  refine zr_invV_j (as := [(.int x1, 0), (.int x2, 0), (.int x3, 0), (.int x4, 0), (.int 0, 0), (.int 0, 0)]) (cX12_along_ok l h a0 x1 x2 x3 x4 0 0) rfl rfl ⟨by decide, by decide, by decide⟩ zcd_X12_along rfl ⟨zw_1413, zw_1415, zw_37, zw_62⟩ ⟨Nat.le_of_ble_eq_true rfl, Nat.le_of_ble_eq_true rfl⟩ rfl (Nat.le_of_ble_eq_true rfl) (eX12_rowOf 7 rfl) (fun x21 => ?_)
  refine zr_aload_n (r := (some a0)) (eX12_rowOf 8 rfl) rfl rfl ?_
  refine zr_iload_n (eX12_rowOf 9 rfl) rfl rfl ?_
  refine zr_iload_n (eX12_rowOf 10 rfl) rfl rfl ?_
  refine zr_iload_n (eX12_rowOf 11 rfl) rfl rfl ?_
  refine zr_iload (eX12_rowOf 12 rfl) rfl ?_
  refine zr_iconst (eX12_rowOf 13 rfl) zk_iconst_1 ?_
  refine zr_iconst (eX12_rowOf 14 rfl) zk_iconst_1 ?_
  refine zr_invV_j (as := [(.int x1, 0), (.int x2, 0), (.int x3, 0), (.int x4, 0), (.int 1, 0), (.int 1, 0)]) (cX12_along_ok l h a0 x1 x2 x3 x4 1 1) rfl rfl ⟨by decide, by decide, by decide⟩ zcd_X12_along rfl ⟨zw_1413, zw_1415, zw_37, zw_62⟩ ⟨Nat.le_of_ble_eq_true rfl, Nat.le_of_ble_eq_true rfl⟩ rfl (Nat.le_of_ble_eq_true rfl) (eX12_rowOf 15 rfl) (fun x22 => ?_)
  refine zr_ladd (eX12_rowOf 16 rfl) ?_
  exact zr_lret rfl rfl (eX12_rowOf 17 rfl)
def gX12_rowEntry_J1 (h : Zh) (a0 : Nat) (x1 : Int32) (x2 : Int32) (x3 : Int32) (x4 : Int32) : Int32 → Option (Int64) :=
  fun (x22 : Int32) => (if (x22 : Int32) = 0 then zbj (gX12_rowOf h a0 x1 x2 x3 x4) (fun x23 => (some x23))
  else zbj (gX12_lost ) (fun x24 => (some x24)))
def gX12_rowEntry_J2 (k25 : Int32 → Option (Int64)) : Option (Int64) :=
  k25 1
def gX12_rowEntry (h : Zh) (a0 : Nat) (x1 : Int32) (x2 : Int32) (x3 : Int32) (x4 : Int32) : Option (Int64) :=
  zbi (gX12_noWeights h a0 x1) (fun x21 => zjn (gX12_rowEntry_J1 h a0 x1 x2 x3 x4) (fun (k25 : Int32 → Option (Int64)) =>
  zjn (gX12_rowEntry_J2 k25) (fun (k26 : Option (Int64)) =>
  (if (x21 : Int32) = 0 then zbi (gX12_in ((x2 : Int32).toInt64) 2 6) (fun x27 => (if (x27 : Int32) = 0 then k26
  else zbi (gX12_in ((x3 : Int32).toInt64) 0 (((1 : Int64) <<< ((x2 : Int32).toInt64 &&& 63)) - 1)) (fun x28 => (if (x28 : Int32) = 0 then k26
  else zbi (gX12_in ((x4 : Int32).toInt64) 0 (((1 : Int64) <<< ((x2 : Int32).toInt64 &&& 63)) - 1)) (fun x29 => (if (x29 : Int32) = 0 then k26
  else k25 0))))))
  else k26))))
set_option maxRecDepth 20000 in
theorem cX12_rowEntry_ok (l : Launch) (h : Zh) (a0 : Nat) (x1 : Int32) (x2 : Int32) (x3 : Int32) (x4 : Int32) : Zc l yX12_rowEntry mX12_rowEntry 0 h [(.ref a0, 12), (.int x1, 0), (.int x2, 0), (.int x3, 0), (.int x4, 0)] ((gX12_rowEntry h a0 x1 x2 x3 x4).map (zoj h)) := by
  refine zc_of2 (ls := [some (.ref a0, 12), some (.int x1, 0), some (.int x2, 0), some (.int x3, 0), some (.int x4, 0), none]) (j := 1) (by decide +kernel) rfl rfl (zEn_ca (zEn_ci (zEn_ci (zEn_ci (zEn_ci rfl))))) (Nat.le_of_ble_eq_true rfl) rfl ?_
  unfold gX12_rowEntry
  refine zr_aload_n (r := (some a0)) (eX12_rowEntry 0 rfl) rfl rfl ?_
  refine zr_iload_n (eX12_rowEntry 1 rfl) rfl rfl ?_
  refine zr_invV_i (as := [(.int x1, 0)]) (cX12_noWeights_ok l h a0 x1) rfl rfl ⟨by decide, by decide, by decide⟩ zcd_X12_noWeights rfl ⟨zw_1400, zw_1402, zw_35, zw_62⟩ ⟨Nat.le_of_ble_eq_true rfl, Nat.le_of_ble_eq_true rfl⟩ rfl (Nat.le_of_ble_eq_true rfl) (eX12_rowEntry 2 rfl) (fun x21 => ?_)
  refine v_jn (fun (k25 : Int32 → Option (Int64)) => ∀ (x22 : Int32), V l mX12_rowEntry (zN h) (zS h) 0 (zoj h) 56 [some (.ref a0, 12), some (.int x1, 0), some (.int x2, 0), some (.int x3, 0), some (.int x4, 0), none] [(.int x22, 0)] h (k25 x22)) ?_ ?_
  · intro x22
    unfold gX12_rowEntry_J1
    refine zr_istore (ls2 := [some (.ref a0, 12), some (.int x1, 0), some (.int x2, 0), some (.int x3, 0), some (.int x4, 0), some (.int x22, 0)]) (eX12_rowEntry 33 rfl) (Nat.le_of_ble_eq_true rfl) rfl ?_
    refine zr_iload (eX12_rowEntry 34 rfl) rfl ?_
    refine zr_if_eq (eX12_rowEntry 35 rfl) (t := 69) (by decide) ?_ ?_
    · refine zr_aload_n (r := (some a0)) (eX12_rowEntry 38 rfl) rfl rfl ?_
      refine zr_iload_n (eX12_rowEntry 39 rfl) rfl rfl ?_
      refine zr_iload_n (eX12_rowEntry 40 rfl) rfl rfl ?_
      refine zr_iload_n (eX12_rowEntry 41 rfl) rfl rfl ?_
      refine zr_iload (eX12_rowEntry 42 rfl) rfl ?_
      refine zr_invV_j (as := [(.int x1, 0), (.int x2, 0), (.int x3, 0), (.int x4, 0)]) (cX12_rowOf_ok l h a0 x1 x2 x3 x4) rfl rfl ⟨by decide, by decide, by decide⟩ zcd_X12_rowOf rfl ⟨zw_1409, zw_1411, zw_36, zw_62⟩ ⟨Nat.le_of_ble_eq_true rfl, Nat.le_of_ble_eq_true rfl⟩ rfl (Nat.le_of_ble_eq_true rfl) (eX12_rowEntry 43 rfl) (fun x23 => ?_)
      exact zr_lret rfl rfl (eX12_rowEntry 44 rfl)
    · refine zr_invS_j (as := []) (cX12_lost_ok l h ) rfl zcd_X12_lost ⟨zw_1224, zw_1225, zw_62⟩ ⟨Nat.le_of_ble_eq_true rfl, Nat.le_of_ble_eq_true rfl⟩ rfl (Nat.le_of_ble_eq_true rfl) (eX12_rowEntry 36 rfl) (fun x24 => ?_)
      refine zr_goto (eX12_rowEntry 37 rfl) (t := 78) (by decide) ?_
      exact zr_lret rfl rfl (eX12_rowEntry 44 rfl)
  intro k25 hk25
  refine v_jn (fun (k26 : Option (Int64)) => V l mX12_rowEntry (zN h) (zS h) 0 (zoj h) 51 [some (.ref a0, 12), some (.int x1, 0), some (.int x2, 0), some (.int x3, 0), some (.int x4, 0), none] [] h k26) ?_ ?_
  · skip
    unfold gX12_rowEntry_J2
    refine zr_iconst (eX12_rowEntry 30 rfl) zk_iconst_1 ?_
    refine zr_goto (eX12_rowEntry 31 rfl) (t := 56) (by decide) ?_
    exact v_drop [true, true, true, true, true, false] rfl (hk25 1)
  intro k26 hk26
  refine zr_if_ne (eX12_rowEntry 3 rfl) (t := 51) (by decide) ?_ ?_
  · exact v_drop [true, true, true, true, true, false] rfl (hk26)
  · refine zr_iload_n (eX12_rowEntry 4 rfl) rfl rfl ?_
    refine zr_i2l (eX12_rowEntry 5 rfl) ?_
    refine zr_ldc2 (eX12_rowEntry 6 rfl) zw_1201 ?_
    refine zr_ldc2 (eX12_rowEntry 7 rfl) zw_1408 ?_
    refine zr_invS_i (as := [(.long ((x2 : Int32).toInt64), 0), (.long 2, 0), (.long 6, 0)]) (cX12_in_ok l h ((x2 : Int32).toInt64) 2 6) rfl zcd_X12_in ⟨zw_1203, zw_1204, zw_62⟩ ⟨Nat.le_of_ble_eq_true rfl, Nat.le_of_ble_eq_true rfl⟩ rfl (Nat.le_of_ble_eq_true rfl) (eX12_rowEntry 8 rfl) (fun x27 => ?_)
    refine zr_if_eq (eX12_rowEntry 9 rfl) (t := 51) (by decide) ?_ ?_
    · exact v_drop [true, true, true, true, true, false] rfl (hk26)
    · refine zr_iload_n (eX12_rowEntry 10 rfl) rfl rfl ?_
      refine zr_i2l (eX12_rowEntry 11 rfl) ?_
      refine zr_lconst (eX12_rowEntry 12 rfl) zk_lconst_0 ?_
      refine zr_lconst (eX12_rowEntry 13 rfl) zk_lconst_1 ?_
      refine zr_iload_n (eX12_rowEntry 14 rfl) rfl rfl ?_
      refine zr_lshl (eX12_rowEntry 15 rfl) ?_
      refine zr_lconst (eX12_rowEntry 16 rfl) zk_lconst_1 ?_
      refine zr_lsub (eX12_rowEntry 17 rfl) ?_
      refine zr_invS_i (as := [(.long ((x3 : Int32).toInt64), 0), (.long 0, 0), (.long (((1 : Int64) <<< ((x2 : Int32).toInt64 &&& 63)) - 1), 0)]) (cX12_in_ok l h ((x3 : Int32).toInt64) 0 (((1 : Int64) <<< ((x2 : Int32).toInt64 &&& 63)) - 1)) rfl zcd_X12_in ⟨zw_1203, zw_1204, zw_62⟩ ⟨Nat.le_of_ble_eq_true rfl, Nat.le_of_ble_eq_true rfl⟩ rfl (Nat.le_of_ble_eq_true rfl) (eX12_rowEntry 18 rfl) (fun x28 => ?_)
      refine zr_if_eq (eX12_rowEntry 19 rfl) (t := 51) (by decide) ?_ ?_
      · exact v_drop [true, true, true, true, true, false] rfl (hk26)
      · refine zr_iload (eX12_rowEntry 20 rfl) rfl ?_
        refine zr_i2l (eX12_rowEntry 21 rfl) ?_
        refine zr_lconst (eX12_rowEntry 22 rfl) zk_lconst_0 ?_
        refine zr_lconst (eX12_rowEntry 23 rfl) zk_lconst_1 ?_
        refine zr_iload_n (eX12_rowEntry 24 rfl) rfl rfl ?_
        refine zr_lshl (eX12_rowEntry 25 rfl) ?_
        refine zr_lconst (eX12_rowEntry 26 rfl) zk_lconst_1 ?_
        refine zr_lsub (eX12_rowEntry 27 rfl) ?_
        refine zr_invS_i (as := [(.long ((x4 : Int32).toInt64), 0), (.long 0, 0), (.long (((1 : Int64) <<< ((x2 : Int32).toInt64 &&& 63)) - 1), 0)]) (cX12_in_ok l h ((x4 : Int32).toInt64) 0 (((1 : Int64) <<< ((x2 : Int32).toInt64 &&& 63)) - 1)) rfl zcd_X12_in ⟨zw_1203, zw_1204, zw_62⟩ ⟨Nat.le_of_ble_eq_true rfl, Nat.le_of_ble_eq_true rfl⟩ rfl (Nat.le_of_ble_eq_true rfl) (eX12_rowEntry 28 rfl) (fun x29 => ?_)
        refine zr_if_ne (eX12_rowEntry 29 rfl) (t := 55) (by decide) ?_ ?_
        · refine zr_iconst (eX12_rowEntry 32 rfl) zk_iconst_0 ?_
          exact v_drop [true, true, true, true, true, false] rfl (hk25 0)
        · exact v_drop [true, true, true, true, true, false] rfl (hk26)
def gX12_layRows_J1 (x22 : Int32) (k23 : Int32 → Zh → Option (Zh)) : Zh → Option (Zh) :=
  fun (h2 : Zh) => k23 (x22 + 1) h2
def gX12_layRows_J2 (x25 : Int32) (k26 : Int32 → Zh → Option (Zh)) : Zh → Option (Zh) :=
  fun (h4 : Zh) => k26 (x25 + 1) h4
def gX12_layRows_L3 (a0 : Nat) (x1 : Int32) (x2 : Int32) (x3 : Int32) (x21 : Int32) (x22 : Int32) (k24 : Zh → Option (Zh)) : (Int32 → Zh → Option (Zh)) → Int32 → Zh → Option (Zh) :=
  fun (k26 : Int32 → Zh → Option (Zh)) (x25 : Int32) (h3 : Zh) => (if (x21 : Int32) ≤ x25 then k24 h3
  else zjn (gX12_layRows_J2 x25 k26) (fun (k27 : Zh → Option (Zh)) =>
  (if (x3 : Int32) = 0 then zlt (zR h3 a0 25) (fun r28 => zbj (gX12_rowOf h3 a0 x1 x2 x22 x25) (fun x29 => Option.bind r28 (fun a30 => zg (zin ((64 * x22) + x25) (zL h3 a30)) (zlt (zsJ h3 a30 (zx ((64 * x22) + x25)) x29) (fun (h5 : Zh) => k27 h5)))))
  else zlt (zR h3 a0 24) (fun r31 => zbj (gX12_rowOf h3 a0 x1 x2 x22 x25) (fun x32 => Option.bind r31 (fun a33 => zg (zin ((64 * x22) + x25) (zL h3 a33)) (zlt (zsJ h3 a33 (zx ((64 * x22) + x25)) x32) (fun (h6 : Zh) => k27 h6))))))))
def gX12_layRows_L4 (a0 : Nat) (x1 : Int32) (x2 : Int32) (x3 : Int32) (x21 : Int32) : (Int32 → Zh → Option (Zh)) → Int32 → Zh → Option (Zh) :=
  fun (k23 : Int32 → Zh → Option (Zh)) (x22 : Int32) (h1 : Zh) => (if (x21 : Int32) ≤ x22 then some h1
  else zjn (gX12_layRows_J1 x22 k23) (fun (k24 : Zh → Option (Zh)) =>
  zlp (fun (_ : Int32) (_ : Zh) => (none : Option (Zh))) (gX12_layRows_L3 a0 x1 x2 x3 x21 x22 k24) zFU 0 h1))
def gX12_layRows (h : Zh) (a0 : Nat) (x1 : Int32) (x2 : Int32) (x3 : Int32) : Option (Zh) :=
  zlt ((1 : Int32) <<< (x2 &&& 31)) (fun x21 => zlp (fun (_ : Int32) (_ : Zh) => (none : Option (Zh))) (gX12_layRows_L4 a0 x1 x2 x3 x21) zFU 0 h)
set_option maxRecDepth 20000 in
theorem cX12_layRows_ok (l : Launch) (h : Zh) (a0 : Nat) (x1 : Int32) (x2 : Int32) (x3 : Int32) : Zc l yX12_layRows mX12_layRows 0 h [(.ref a0, 12), (.int x1, 0), (.int x2, 0), (.int x3, 0)] ((gX12_layRows h a0 x1 x2 x3).map zoV) := by
  refine zc_of2 (ls := [some (.ref a0, 12), some (.int x1, 0), some (.int x2, 0), some (.int x3, 0), none, none, none]) (j := 3) (by decide +kernel) rfl rfl (zEn_ca (zEn_ci (zEn_ci (zEn_ci rfl)))) (Nat.le_of_ble_eq_true rfl) rfl ?_
  unfold gX12_layRows
  refine zr_iconst (eX12_layRows 0 rfl) zk_iconst_1 ?_
  refine zr_iload_n (eX12_layRows 1 rfl) rfl rfl ?_
  refine zr_ishl (eX12_layRows 2 rfl) ?_
  refine v_leti (fun x21 => ?_)
  refine zr_istore (ls2 := [some (.ref a0, 12), some (.int x1, 0), some (.int x2, 0), some (.int x3, 0), some (.int x21, 0), none, none]) (eX12_layRows 3 rfl) (Nat.le_of_ble_eq_true rfl) rfl ?_
  refine zr_iconst (eX12_layRows 4 rfl) zk_iconst_0 ?_
  refine zr_istore (ls2 := [some (.ref a0, 12), some (.int x1, 0), some (.int x2, 0), some (.int x3, 0), some (.int x21, 0), some (.int 0, 0), none]) (eX12_layRows 5 rfl) (Nat.le_of_ble_eq_true rfl) rfl ?_
  refine v_drop [true, true, true, true, true, true, false] rfl ?_
  refine zlp_ind (fun (k23 : Int32 → Zh → Option (Zh)) => ∀ (x22 : Int32) (h1 : Zh), V l mX12_layRows (zN h) (zS h) 0 zoV 8 [some (.ref a0, 12), some (.int x1, 0), some (.int x2, 0), some (.int x3, 0), some (.int x21, 0), some (.int x22, 0), none] [] h1 (k23 x22 h1)) ?_ ?_ 0 h
  · exact fun _ _ => v_none
  intro k23 hk23 x22 h1
  unfold gX12_layRows_L4
  refine zr_iload (eX12_layRows 6 rfl) rfl ?_
  refine zr_iload (eX12_layRows 7 rfl) rfl ?_
  refine zr_icmp_ge (eX12_layRows 8 rfl) (t := 90) (by decide) ?_ ?_
  · exact zr_vret rfl rfl (eX12_layRows 49 rfl)
  · refine zr_iconst (eX12_layRows 9 rfl) zk_iconst_0 ?_
    refine zr_istore (ls2 := [some (.ref a0, 12), some (.int x1, 0), some (.int x2, 0), some (.int x3, 0), some (.int x21, 0), some (.int x22, 0), some (.int 0, 0)]) (eX12_layRows 10 rfl) (Nat.le_of_ble_eq_true rfl) rfl ?_
    refine v_jn (fun (k24 : Zh → Option (Zh)) => ∀ (h2 : Zh), V l mX12_layRows (zN h) (zS h) 0 zoV 84 [some (.ref a0, 12), some (.int x1, 0), some (.int x2, 0), some (.int x3, 0), some (.int x21, 0), some (.int x22, 0), none] [] h2 (k24 h2)) ?_ ?_
    · intro h2
      unfold gX12_layRows_J1
      refine zr_iinc (ls2 := [some (.ref a0, 12), some (.int x1, 0), some (.int x2, 0), some (.int x3, 0), some (.int x21, 0), some (.int (x22 + 1), 0), none]) (eX12_layRows 47 rfl) rfl (Nat.le_of_ble_eq_true rfl) zk_iconst_1 rfl ?_
      refine zr_goto (eX12_layRows 48 rfl) (t := 8) (by decide) ?_
      exact v_drop [true, true, true, true, true, true, false] rfl (hk23 (x22 + 1) h2)
    intro k24 hk24
    refine v_drop [true, true, true, true, true, true, true] rfl ?_
    refine zlp_ind (fun (k26 : Int32 → Zh → Option (Zh)) => ∀ (x25 : Int32) (h3 : Zh), V l mX12_layRows (zN h) (zS h) 0 zoV 18 [some (.ref a0, 12), some (.int x1, 0), some (.int x2, 0), some (.int x3, 0), some (.int x21, 0), some (.int x22, 0), some (.int x25, 0)] [] h3 (k26 x25 h3)) ?_ ?_ 0 h1
    · exact fun _ _ => v_none
    intro k26 hk26 x25 h3
    unfold gX12_layRows_L3
    refine zr_iload (eX12_layRows 11 rfl) rfl ?_
    refine zr_iload (eX12_layRows 12 rfl) rfl ?_
    refine zr_icmp_ge (eX12_layRows 13 rfl) (t := 84) (by decide) ?_ ?_
    · exact v_drop [true, true, true, true, true, true, false] rfl (hk24 h3)
    · refine zr_iload_n (eX12_layRows 14 rfl) rfl rfl ?_
      refine v_jn (fun (k27 : Zh → Option (Zh)) => ∀ (h4 : Zh), V l mX12_layRows (zN h) (zS h) 0 zoV 78 [some (.ref a0, 12), some (.int x1, 0), some (.int x2, 0), some (.int x3, 0), some (.int x21, 0), some (.int x22, 0), some (.int x25, 0)] [] h4 (k27 h4)) ?_ ?_
      · intro h4
        unfold gX12_layRows_J2
        refine zr_iinc (ls2 := [some (.ref a0, 12), some (.int x1, 0), some (.int x2, 0), some (.int x3, 0), some (.int x21, 0), some (.int x22, 0), some (.int (x25 + 1), 0)]) (eX12_layRows 45 rfl) rfl (Nat.le_of_ble_eq_true rfl) zk_iconst_1 rfl ?_
        refine zr_goto (eX12_layRows 46 rfl) (t := 18) (by decide) ?_
        exact v_drop [true, true, true, true, true, true, true] rfl (hk26 (x25 + 1) h4)
      intro k27 hk27
      refine zr_if_eq (eX12_layRows 15 rfl) (t := 55) (by decide) ?_ ?_
      · refine zr_aload_n (r := (some a0)) (eX12_layRows 31 rfl) rfl rfl ?_
        refine zr_getR2 zf_RX12_65 (τ2 := 21) rfl (eX12_layRows 32 rfl) ?_
        refine v_letr (fun r28 => ?_)
        refine zr_bipush (eX12_layRows 33 rfl) zk_bipush_64 ?_
        refine zr_iload (eX12_layRows 34 rfl) rfl ?_
        refine zr_imul (eX12_layRows 35 rfl) ?_
        refine zr_iload (eX12_layRows 36 rfl) rfl ?_
        refine zr_iadd (eX12_layRows 37 rfl) ?_
        refine zr_aload_n (r := (some a0)) (eX12_layRows 38 rfl) rfl rfl ?_
        refine zr_iload_n (eX12_layRows 39 rfl) rfl rfl ?_
        refine zr_iload_n (eX12_layRows 40 rfl) rfl rfl ?_
        refine zr_iload (eX12_layRows 41 rfl) rfl ?_
        refine zr_iload (eX12_layRows 42 rfl) rfl ?_
        refine zr_invV_j (as := [(.int x1, 0), (.int x2, 0), (.int x22, 0), (.int x25, 0)]) (cX12_rowOf_ok l h3 a0 x1 x2 x22 x25) rfl rfl ⟨by decide, by decide, by decide⟩ zcd_X12_rowOf rfl ⟨zw_1409, zw_1411, zw_36, zw_62⟩ ⟨Nat.le_of_ble_eq_true rfl, Nat.le_of_ble_eq_true rfl⟩ rfl (Nat.le_of_ble_eq_true rfl) (eX12_layRows 43 rfl) (fun x29 => ?_)
        refine v_nn (fun a30 ea30 => ?_)
        subst ea30
        refine zr_last (eX12_layRows 44 rfl) ?_
        refine v_leth (fun h5 => ?_)
        exact v_drop [true, true, true, true, true, true, true] rfl (hk27 h5)
      · refine zr_aload_n (r := (some a0)) (eX12_layRows 16 rfl) rfl rfl ?_
        refine zr_getR2 zf_RX12_62 (τ2 := 21) rfl (eX12_layRows 17 rfl) ?_
        refine v_letr (fun r31 => ?_)
        refine zr_bipush (eX12_layRows 18 rfl) zk_bipush_64 ?_
        refine zr_iload (eX12_layRows 19 rfl) rfl ?_
        refine zr_imul (eX12_layRows 20 rfl) ?_
        refine zr_iload (eX12_layRows 21 rfl) rfl ?_
        refine zr_iadd (eX12_layRows 22 rfl) ?_
        refine zr_aload_n (r := (some a0)) (eX12_layRows 23 rfl) rfl rfl ?_
        refine zr_iload_n (eX12_layRows 24 rfl) rfl rfl ?_
        refine zr_iload_n (eX12_layRows 25 rfl) rfl rfl ?_
        refine zr_iload (eX12_layRows 26 rfl) rfl ?_
        refine zr_iload (eX12_layRows 27 rfl) rfl ?_
        refine zr_invV_j (as := [(.int x1, 0), (.int x2, 0), (.int x22, 0), (.int x25, 0)]) (cX12_rowOf_ok l h3 a0 x1 x2 x22 x25) rfl rfl ⟨by decide, by decide, by decide⟩ zcd_X12_rowOf rfl ⟨zw_1409, zw_1411, zw_36, zw_62⟩ ⟨Nat.le_of_ble_eq_true rfl, Nat.le_of_ble_eq_true rfl⟩ rfl (Nat.le_of_ble_eq_true rfl) (eX12_layRows 28 rfl) (fun x32 => ?_)
        refine v_nn (fun a33 ea33 => ?_)
        subst ea33
        refine zr_last (eX12_layRows 29 rfl) ?_
        refine v_leth (fun h6 => ?_)
        refine zr_goto (eX12_layRows 30 rfl) (t := 78) (by decide) ?_
        exact v_drop [true, true, true, true, true, true, true] rfl (hk27 h6)
def gX12_unlike_J1 (x26 : Int32) (k27 : Int32 → Int32 → Option (Int32 × Zh)) : Int32 → Option (Int32 × Zh) :=
  fun (x28 : Int32) => k27 x28 (x26 + 1)
def gX12_unlike_J2 (x30 : Int32) (x31 : Int32) (k32 : Int32 → Int32 → Option (Int32 × Zh)) : Int32 → Option (Int32 × Zh) :=
  fun (x34 : Int32) => zlt (x30 + x34) (fun x35 => k32 x35 (x31 + 1))
def gX12_unlike_J3 (x30 : Int32) (x31 : Int32) (k32 : Int32 → Int32 → Option (Int32 × Zh)) : Int64 → Option (Int32 × Zh) :=
  fun (x33 : Int64) => zjn (gX12_unlike_J2 x30 x31 k32) (fun (k36 : Int32 → Option (Int32 × Zh)) =>
  (if ((lg_cmp x33 0) : Int32) = 0 then k36 0
  else k36 1))
def gX12_unlike_L4 (a0 : Nat) (h2 : Zh) (x24 : Int32) (x26 : Int32) (x31 : Int32) (k37 : Int64 → Option (Int32 × Zh)) : (Int64 → Int32 → Option (Int32 × Zh)) → Int64 → Int32 → Option (Int32 × Zh) :=
  fun (k40 : Int64 → Int32 → Option (Int32 × Zh)) (x38 : Int64) (x39 : Int32) => (if (x24 : Int32) ≤ x39 then k37 x38
  else zlt (zR h2 a0 24) (fun r41 => Option.bind r41 (fun a42 => zg (zin ((64 * x26) + x39) (zL h2 a42)) (zlt (zR h2 a0 25) (fun r43 => Option.bind r43 (fun a44 => zg (zin ((64 * x39) + x31) (zL h2 a44)) (zlt (zR h2 a0 25) (fun r45 => Option.bind r45 (fun a46 => zg (zin ((64 * x26) + x39) (zL h2 a46)) (zlt (zR h2 a0 24) (fun r47 => Option.bind r47 (fun a48 => zg (zin ((64 * x39) + x31) (zL h2 a48)) (zlt (x38 + (((zJ h2 a42 (zx ((64 * x26) + x39))) * (zJ h2 a44 (zx ((64 * x39) + x31)))) - ((zJ h2 a46 (zx ((64 * x26) + x39))) * (zJ h2 a48 (zx ((64 * x39) + x31)))))) (fun x49 => k40 x49 (x39 + 1)))))))))))))))
def gX12_unlike_L5 (a0 : Nat) (h2 : Zh) (x24 : Int32) (x26 : Int32) (k29 : Int32 → Option (Int32 × Zh)) : (Int32 → Int32 → Option (Int32 × Zh)) → Int32 → Int32 → Option (Int32 × Zh) :=
  fun (k32 : Int32 → Int32 → Option (Int32 × Zh)) (x30 : Int32) (x31 : Int32) => (if (x24 : Int32) ≤ x31 then k29 x30
  else zjn (gX12_unlike_J3 x30 x31 k32) (fun (k37 : Int64 → Option (Int32 × Zh)) =>
  zlp (fun (_ : Int64) (_ : Int32) => (none : Option (Int32 × Zh))) (gX12_unlike_L4 a0 h2 x24 x26 x31 k37) zFU 0 0))
def gX12_unlike_L6 (a0 : Nat) (h2 : Zh) (x24 : Int32) : (Int32 → Int32 → Option (Int32 × Zh)) → Int32 → Int32 → Option (Int32 × Zh) :=
  fun (k27 : Int32 → Int32 → Option (Int32 × Zh)) (x25 : Int32) (x26 : Int32) => (if (x24 : Int32) ≤ x26 then (some (x25, h2))
  else zjn (gX12_unlike_J1 x26 k27) (fun (k29 : Int32 → Option (Int32 × Zh)) =>
  zlp (fun (_ : Int32) (_ : Int32) => (none : Option (Int32 × Zh))) (gX12_unlike_L5 a0 h2 x24 x26 k29) zFU x25 0))
def gX12_unlike (h : Zh) (a0 : Nat) (x1 : Int32) (x2 : Int32) (x3 : Int32) : Option (Int32 × Zh) :=
  zbi (gX12_noWeights h a0 x1) (fun x21 => (if (x21 : Int32) = 0 then zbi (gX12_noWeights h a0 x2) (fun x22 => (if (x22 : Int32) = 0 then zbi (gX12_in ((x3 : Int32).toInt64) 2 6) (fun x23 => (if (x23 : Int32) = 0 then (some ((-2), h))
  else zbV (gX12_layRows h a0 x1 x3 1) (fun h1 => zbV (gX12_layRows h1 a0 x2 x3 0) (fun h2 => zlt ((1 : Int32) <<< (x3 &&& 31)) (fun x24 => zlp (fun (_ : Int32) (_ : Int32) => (none : Option (Int32 × Zh))) (gX12_unlike_L6 a0 h2 x24) zFU 0 0)))))
  else (some ((-1), h))))
  else (some ((-1), h))))
set_option maxRecDepth 20000 in
theorem cX12_unlike_ok (l : Launch) (h : Zh) (a0 : Nat) (x1 : Int32) (x2 : Int32) (x3 : Int32) : Zc l yX12_unlike mX12_unlike 0 h [(.ref a0, 12), (.int x1, 0), (.int x2, 0), (.int x3, 0)] ((gX12_unlike h a0 x1 x2 x3).map zoI) := by
  refine zc_of2 (ls := [some (.ref a0, 12), some (.int x1, 0), some (.int x2, 0), some (.int x3, 0), none, none, none, none, none, none, none]) (j := 7) (by decide +kernel) rfl rfl (zEn_ca (zEn_ci (zEn_ci (zEn_ci rfl)))) (Nat.le_of_ble_eq_true rfl) rfl ?_
  unfold gX12_unlike
  refine zr_aload_n (r := (some a0)) (eX12_unlike 0 rfl) rfl rfl ?_
  refine zr_iload_n (eX12_unlike 1 rfl) rfl rfl ?_
  refine zr_invV_i (as := [(.int x1, 0)]) (cX12_noWeights_ok l h a0 x1) rfl rfl ⟨by decide, by decide, by decide⟩ zcd_X12_noWeights rfl ⟨zw_1400, zw_1402, zw_35, zw_62⟩ ⟨Nat.le_of_ble_eq_true rfl, Nat.le_of_ble_eq_true rfl⟩ rfl (Nat.le_of_ble_eq_true rfl) (eX12_unlike 2 rfl) (fun x21 => ?_)
  refine zr_if_ne (eX12_unlike 3 rfl) (t := 16) (by decide) ?_ ?_
  · refine zr_iconst (eX12_unlike 8 rfl) zk_iconst_m1 ?_
    exact zr_iret rfl rfl (eX12_unlike 9 rfl)
  · refine zr_aload_n (r := (some a0)) (eX12_unlike 4 rfl) rfl rfl ?_
    refine zr_iload_n (eX12_unlike 5 rfl) rfl rfl ?_
    refine zr_invV_i (as := [(.int x2, 0)]) (cX12_noWeights_ok l h a0 x2) rfl rfl ⟨by decide, by decide, by decide⟩ zcd_X12_noWeights rfl ⟨zw_1400, zw_1402, zw_35, zw_62⟩ ⟨Nat.le_of_ble_eq_true rfl, Nat.le_of_ble_eq_true rfl⟩ rfl (Nat.le_of_ble_eq_true rfl) (eX12_unlike 6 rfl) (fun x22 => ?_)
    refine zr_if_eq (eX12_unlike 7 rfl) (t := 18) (by decide) ?_ ?_
    · refine zr_iload_n (eX12_unlike 10 rfl) rfl rfl ?_
      refine zr_i2l (eX12_unlike 11 rfl) ?_
      refine zr_ldc2 (eX12_unlike 12 rfl) zw_1201 ?_
      refine zr_ldc2 (eX12_unlike 13 rfl) zw_1408 ?_
      refine zr_invS_i (as := [(.long ((x3 : Int32).toInt64), 0), (.long 2, 0), (.long 6, 0)]) (cX12_in_ok l h ((x3 : Int32).toInt64) 2 6) rfl zcd_X12_in ⟨zw_1203, zw_1204, zw_62⟩ ⟨Nat.le_of_ble_eq_true rfl, Nat.le_of_ble_eq_true rfl⟩ rfl (Nat.le_of_ble_eq_true rfl) (eX12_unlike 14 rfl) (fun x23 => ?_)
      refine zr_if_ne (eX12_unlike 15 rfl) (t := 35) (by decide) ?_ ?_
      · refine zr_aload_n (r := (some a0)) (eX12_unlike 18 rfl) rfl rfl ?_
        refine zr_iload_n (eX12_unlike 19 rfl) rfl rfl ?_
        refine zr_iload_n (eX12_unlike 20 rfl) rfl rfl ?_
        refine zr_iconst (eX12_unlike 21 rfl) zk_iconst_1 ?_
        refine zr_invV_V (as := [(.int x1, 0), (.int x3, 0), (.int 1, 0)]) (cX12_layRows_ok l h a0 x1 x3 1) rfl rfl ⟨by decide, by decide, by decide⟩ zcd_X12_layRows rfl ⟨zw_1425, zw_1427, zw_39, zw_62⟩ ⟨Nat.le_of_ble_eq_true rfl, Nat.le_of_ble_eq_true rfl⟩ rfl (Nat.le_of_ble_eq_true rfl) (eX12_unlike 22 rfl) (fun h1 => ?_)
        refine zr_aload_n (r := (some a0)) (eX12_unlike 23 rfl) rfl rfl ?_
        refine zr_iload_n (eX12_unlike 24 rfl) rfl rfl ?_
        refine zr_iload_n (eX12_unlike 25 rfl) rfl rfl ?_
        refine zr_iconst (eX12_unlike 26 rfl) zk_iconst_0 ?_
        refine zr_invV_V (as := [(.int x2, 0), (.int x3, 0), (.int 0, 0)]) (cX12_layRows_ok l h1 a0 x2 x3 0) rfl rfl ⟨by decide, by decide, by decide⟩ zcd_X12_layRows rfl ⟨zw_1425, zw_1427, zw_39, zw_62⟩ ⟨Nat.le_of_ble_eq_true rfl, Nat.le_of_ble_eq_true rfl⟩ rfl (Nat.le_of_ble_eq_true rfl) (eX12_unlike 27 rfl) (fun h2 => ?_)
        refine zr_iconst (eX12_unlike 28 rfl) zk_iconst_1 ?_
        refine zr_iload_n (eX12_unlike 29 rfl) rfl rfl ?_
        refine zr_ishl (eX12_unlike 30 rfl) ?_
        refine v_leti (fun x24 => ?_)
        refine zr_istore (ls2 := [some (.ref a0, 12), some (.int x1, 0), some (.int x2, 0), some (.int x3, 0), some (.int x24, 0), none, none, none, none, none, none]) (eX12_unlike 31 rfl) (Nat.le_of_ble_eq_true rfl) rfl ?_
        refine zr_iconst (eX12_unlike 32 rfl) zk_iconst_0 ?_
        refine zr_istore (ls2 := [some (.ref a0, 12), some (.int x1, 0), some (.int x2, 0), some (.int x3, 0), some (.int x24, 0), some (.int 0, 0), none, none, none, none, none]) (eX12_unlike 33 rfl) (Nat.le_of_ble_eq_true rfl) rfl ?_
        refine zr_iconst (eX12_unlike 34 rfl) zk_iconst_0 ?_
        refine zr_istore (ls2 := [some (.ref a0, 12), some (.int x1, 0), some (.int x2, 0), some (.int x3, 0), some (.int x24, 0), some (.int 0, 0), some (.int 0, 0), none, none, none, none]) (eX12_unlike 35 rfl) (Nat.le_of_ble_eq_true rfl) rfl ?_
        refine v_drop [true, false, false, false, true, true, true, false, false, false, false] rfl ?_
        refine zlp_ind (fun (k27 : Int32 → Int32 → Option (Int32 × Zh)) => ∀ (x25 : Int32) (x26 : Int32), V l mX12_unlike (zN h) (zS h) 0 zoI 60 [some (.ref a0, 12), none, none, none, some (.int x24, 0), some (.int x25, 0), some (.int x26, 0), none, none, none, none] [] h2 (k27 x25 x26)) ?_ ?_ 0 0
        · exact fun _ _ => v_none
        intro k27 hk27 x25 x26
        unfold gX12_unlike_L6
        refine zr_iload (eX12_unlike 36 rfl) rfl ?_
        refine zr_iload (eX12_unlike 37 rfl) rfl ?_
        refine zr_icmp_ge (eX12_unlike 38 rfl) (t := 185) (by decide) ?_ ?_
        · refine zr_iload (eX12_unlike 105 rfl) rfl ?_
          exact zr_iret rfl rfl (eX12_unlike 106 rfl)
        · refine zr_iconst (eX12_unlike 39 rfl) zk_iconst_0 ?_
          refine zr_istore (ls2 := [some (.ref a0, 12), none, none, none, some (.int x24, 0), some (.int x25, 0), some (.int x26, 0), some (.int 0, 0), none, none, none]) (eX12_unlike 40 rfl) (Nat.le_of_ble_eq_true rfl) rfl ?_
          refine v_jn (fun (k29 : Int32 → Option (Int32 × Zh)) => ∀ (x28 : Int32), V l mX12_unlike (zN h) (zS h) 0 zoI 179 [some (.ref a0, 12), none, none, none, some (.int x24, 0), some (.int x28, 0), some (.int x26, 0), none, none, none, none] [] h2 (k29 x28)) ?_ ?_
          · intro x28
            unfold gX12_unlike_J1
            refine zr_iinc (ls2 := [some (.ref a0, 12), none, none, none, some (.int x24, 0), some (.int x28, 0), some (.int (x26 + 1), 0), none, none, none, none]) (eX12_unlike 103 rfl) rfl (Nat.le_of_ble_eq_true rfl) zk_iconst_1 rfl ?_
            refine zr_goto (eX12_unlike 104 rfl) (t := 60) (by decide) ?_
            exact v_drop [true, false, false, false, true, true, true, false, false, false, false] rfl (hk27 x28 (x26 + 1))
          intro k29 hk29
          refine v_drop [true, false, false, false, true, true, true, true, false, false, false] rfl ?_
          refine zlp_ind (fun (k32 : Int32 → Int32 → Option (Int32 × Zh)) => ∀ (x30 : Int32) (x31 : Int32), V l mX12_unlike (zN h) (zS h) 0 zoI 70 [some (.ref a0, 12), none, none, none, some (.int x24, 0), some (.int x30, 0), some (.int x26, 0), some (.int x31, 0), none, none, none] [] h2 (k32 x30 x31)) ?_ ?_ x25 0
          · exact fun _ _ => v_none
          intro k32 hk32 x30 x31
          unfold gX12_unlike_L5
          refine zr_iload (eX12_unlike 41 rfl) rfl ?_
          refine zr_iload (eX12_unlike 42 rfl) rfl ?_
          refine zr_icmp_ge (eX12_unlike 43 rfl) (t := 179) (by decide) ?_ ?_
          · exact v_drop [true, false, false, false, true, true, true, false, false, false, false] rfl (hk29 x30)
          · refine zr_lconst (eX12_unlike 44 rfl) zk_lconst_0 ?_
            refine zr_lstore (ls2 := [some (.ref a0, 12), none, none, none, some (.int x24, 0), some (.int x30, 0), some (.int x26, 0), some (.int x31, 0), some (.long 0, 0), none, none]) (eX12_unlike 45 rfl) (Nat.le_of_ble_eq_true rfl) rfl ?_
            refine zr_iconst (eX12_unlike 46 rfl) zk_iconst_0 ?_
            refine zr_istore (ls2 := [some (.ref a0, 12), none, none, none, some (.int x24, 0), some (.int x30, 0), some (.int x26, 0), some (.int x31, 0), some (.long 0, 0), none, some (.int 0, 0)]) (eX12_unlike 47 rfl) (Nat.le_of_ble_eq_true rfl) rfl ?_
            refine v_jn (fun (k37 : Int64 → Option (Int32 × Zh)) => ∀ (x33 : Int64), V l mX12_unlike (zN h) (zS h) 0 zoI 156 [some (.ref a0, 12), none, none, none, some (.int x24, 0), some (.int x30, 0), some (.int x26, 0), some (.int x31, 0), some (.long x33, 0), none, none] [] h2 (k37 x33)) ?_ ?_
            · intro x33
              unfold gX12_unlike_J3
              refine zr_iload (eX12_unlike 91 rfl) rfl ?_
              refine zr_lload (eX12_unlike 92 rfl) rfl ?_
              refine zr_lconst (eX12_unlike 93 rfl) zk_lconst_0 ?_
              refine zr_lcmp (eX12_unlike 94 rfl) ?_
              refine v_jn (fun (k36 : Int32 → Option (Int32 × Zh)) => ∀ (x34 : Int32), V l mX12_unlike (zN h) (zS h) 0 zoI 170 [some (.ref a0, 12), none, none, none, some (.int x24, 0), none, some (.int x26, 0), some (.int x31, 0), none, none, none] [(.int x34, 0), (.int x30, 0)] h2 (k36 x34)) ?_ ?_
              · intro x34
                unfold gX12_unlike_J2
                refine zr_iadd (eX12_unlike 99 rfl) ?_
                refine v_leti (fun x35 => ?_)
                refine zr_istore (ls2 := [some (.ref a0, 12), none, none, none, some (.int x24, 0), some (.int x35, 0), some (.int x26, 0), some (.int x31, 0), none, none, none]) (eX12_unlike 100 rfl) (Nat.le_of_ble_eq_true rfl) rfl ?_
                refine zr_iinc (ls2 := [some (.ref a0, 12), none, none, none, some (.int x24, 0), some (.int x35, 0), some (.int x26, 0), some (.int (x31 + 1), 0), none, none, none]) (eX12_unlike 101 rfl) rfl (Nat.le_of_ble_eq_true rfl) zk_iconst_1 rfl ?_
                refine zr_goto (eX12_unlike 102 rfl) (t := 70) (by decide) ?_
                exact v_drop [true, false, false, false, true, true, true, true, false, false, false] rfl (hk32 x35 (x31 + 1))
              intro k36 hk36
              refine zr_if_ne (eX12_unlike 95 rfl) (t := 169) (by decide) ?_ ?_
              · refine zr_iconst (eX12_unlike 98 rfl) zk_iconst_1 ?_
                exact v_drop [true, false, false, false, true, false, true, true, false, false, false] rfl (hk36 1)
              · refine zr_iconst (eX12_unlike 96 rfl) zk_iconst_0 ?_
                refine zr_goto (eX12_unlike 97 rfl) (t := 170) (by decide) ?_
                exact v_drop [true, false, false, false, true, false, true, true, false, false, false] rfl (hk36 0)
            intro k37 hk37
            refine v_drop [true, false, false, false, true, true, true, true, true, false, true] rfl ?_
            refine zlp_ind (fun (k40 : Int64 → Int32 → Option (Int32 × Zh)) => ∀ (x38 : Int64) (x39 : Int32), V l mX12_unlike (zN h) (zS h) 0 zoI 83 [some (.ref a0, 12), none, none, none, some (.int x24, 0), some (.int x30, 0), some (.int x26, 0), some (.int x31, 0), some (.long x38, 0), none, some (.int x39, 0)] [] h2 (k40 x38 x39)) ?_ ?_ 0 0
            · exact fun _ _ => v_none
            intro k40 hk40 x38 x39
            unfold gX12_unlike_L4
            refine zr_iload (eX12_unlike 48 rfl) rfl ?_
            refine zr_iload (eX12_unlike 49 rfl) rfl ?_
            refine zr_icmp_ge (eX12_unlike 50 rfl) (t := 156) (by decide) ?_ ?_
            · exact v_drop [true, false, false, false, true, true, true, true, true, false, false] rfl (hk37 x38)
            · refine zr_lload (eX12_unlike 51 rfl) rfl ?_
              refine zr_aload_n (r := (some a0)) (eX12_unlike 52 rfl) rfl rfl ?_
              refine zr_getR2 zf_RX12_62 (τ2 := 21) rfl (eX12_unlike 53 rfl) ?_
              refine v_letr (fun r41 => ?_)
              refine zr_bipush (eX12_unlike 54 rfl) zk_bipush_64 ?_
              refine zr_iload (eX12_unlike 55 rfl) rfl ?_
              refine zr_imul (eX12_unlike 56 rfl) ?_
              refine zr_iload (eX12_unlike 57 rfl) rfl ?_
              refine zr_iadd (eX12_unlike 58 rfl) ?_
              refine v_nn (fun a42 ea42 => ?_)
              subst ea42
              refine zr_lald (eX12_unlike 59 rfl) ?_
              refine zr_aload_n (r := (some a0)) (eX12_unlike 60 rfl) rfl rfl ?_
              refine zr_getR2 zf_RX12_65 (τ2 := 21) rfl (eX12_unlike 61 rfl) ?_
              refine v_letr (fun r43 => ?_)
              refine zr_bipush (eX12_unlike 62 rfl) zk_bipush_64 ?_
              refine zr_iload (eX12_unlike 63 rfl) rfl ?_
              refine zr_imul (eX12_unlike 64 rfl) ?_
              refine zr_iload (eX12_unlike 65 rfl) rfl ?_
              refine zr_iadd (eX12_unlike 66 rfl) ?_
              refine v_nn (fun a44 ea44 => ?_)
              subst ea44
              refine zr_lald (eX12_unlike 67 rfl) ?_
              refine zr_lmul (eX12_unlike 68 rfl) ?_
              refine zr_aload_n (r := (some a0)) (eX12_unlike 69 rfl) rfl rfl ?_
              refine zr_getR2 zf_RX12_65 (τ2 := 21) rfl (eX12_unlike 70 rfl) ?_
              refine v_letr (fun r45 => ?_)
              refine zr_bipush (eX12_unlike 71 rfl) zk_bipush_64 ?_
              refine zr_iload (eX12_unlike 72 rfl) rfl ?_
              refine zr_imul (eX12_unlike 73 rfl) ?_
              refine zr_iload (eX12_unlike 74 rfl) rfl ?_
              refine zr_iadd (eX12_unlike 75 rfl) ?_
              refine v_nn (fun a46 ea46 => ?_)
              subst ea46
              refine zr_lald (eX12_unlike 76 rfl) ?_
              refine zr_aload_n (r := (some a0)) (eX12_unlike 77 rfl) rfl rfl ?_
              refine zr_getR2 zf_RX12_62 (τ2 := 21) rfl (eX12_unlike 78 rfl) ?_
              refine v_letr (fun r47 => ?_)
              refine zr_bipush (eX12_unlike 79 rfl) zk_bipush_64 ?_
              refine zr_iload (eX12_unlike 80 rfl) rfl ?_
              refine zr_imul (eX12_unlike 81 rfl) ?_
              refine zr_iload (eX12_unlike 82 rfl) rfl ?_
              refine zr_iadd (eX12_unlike 83 rfl) ?_
              refine v_nn (fun a48 ea48 => ?_)
              subst ea48
              refine zr_lald (eX12_unlike 84 rfl) ?_
              refine zr_lmul (eX12_unlike 85 rfl) ?_
              refine zr_lsub (eX12_unlike 86 rfl) ?_
              refine zr_ladd (eX12_unlike 87 rfl) ?_
              refine v_letj (fun x49 => ?_)
              refine zr_lstore (ls2 := [some (.ref a0, 12), none, none, none, some (.int x24, 0), some (.int x30, 0), some (.int x26, 0), some (.int x31, 0), some (.long x49, 0), none, some (.int x39, 0)]) (eX12_unlike 88 rfl) (Nat.le_of_ble_eq_true rfl) rfl ?_
              refine zr_iinc (ls2 := [some (.ref a0, 12), none, none, none, some (.int x24, 0), some (.int x30, 0), some (.int x26, 0), some (.int x31, 0), some (.long x49, 0), none, some (.int (x39 + 1), 0)]) (eX12_unlike 89 rfl) rfl (Nat.le_of_ble_eq_true rfl) zk_iconst_1 rfl ?_
              refine zr_goto (eX12_unlike 90 rfl) (t := 83) (by decide) ?_
              exact v_drop [true, false, false, false, true, true, true, true, true, false, true] rfl (hk40 x49 (x39 + 1))
      · refine zr_bipush (eX12_unlike 16 rfl) zk_bipush_m2 ?_
        exact zr_iret rfl rfl (eX12_unlike 17 rfl)
    · refine zr_iconst (eX12_unlike 8 rfl) zk_iconst_m1 ?_
      exact zr_iret rfl rfl (eX12_unlike 9 rfl)
def gX12_restBy (x0 : Int64) : Option (Int64) :=
  (if (1000000007 : Int64) = 0 then none else (if (1000000007 : Int64) = 0 then none else (some (((x0 - x0 / 1000000007 * 1000000007) + 1000000007) - ((x0 - x0 / 1000000007 * 1000000007) + 1000000007) / 1000000007 * 1000000007))))
set_option maxRecDepth 20000 in
theorem cX12_restBy_ok (l : Launch) (h : Zh) (x0 : Int64) : Zc l yX12_restBy mX12_restBy 0 h [(.long x0, 0)] ((gX12_restBy x0).map (zoj h)) := by
  refine zc_of2 (ls := [some (.long x0, 0), none]) (j := 0) (by decide +kernel) rfl rfl (zEn_cj rfl) (Nat.le_of_ble_eq_true rfl) rfl ?_
  unfold gX12_restBy
  refine zr_lload_n (eX12_restBy 0 rfl) rfl rfl ?_
  refine zr_ldc2 (eX12_restBy 1 rfl) zw_1436 ?_
  refine zr_lrem (eX12_restBy 2 rfl) ?_
  refine zr_ldc2 (eX12_restBy 3 rfl) zw_1436 ?_
  refine zr_ladd (eX12_restBy 4 rfl) ?_
  refine zr_ldc2 (eX12_restBy 5 rfl) zw_1436 ?_
  refine zr_lrem (eX12_restBy 6 rfl) ?_
  exact zr_lret rfl rfl (eX12_restBy 7 rfl)
def gX12_ice_J1 : Int64 → Zh → Option (Int32 × Zh) :=
  fun (x25 : Int64) (h2 : Zh) => (some (((x25 : Int64).toInt32), h2))
def gX12_ice_J2 (a0 : Nat) (x27 : Int64) (x28 : Int32) (k29 : Int64 → Int32 → Zh → Option (Int32 × Zh)) : Zh → Option (Int32 × Zh) :=
  fun (h5 : Zh) => zlt (zR h5 a0 16) (fun r30 => Option.bind r30 (fun a31 => zg (zin x28 (zL h5 a31)) (zbj (gX12_restBy (x27 + (zJ h5 a31 (zx x28)))) (fun x32 => k29 x32 (x28 + 1) h5))))
def gX12_ice_J3 (x34 : Int32) (k35 : Int32 → Zh → Option (Int32 × Zh)) : Zh → Option (Int32 × Zh) :=
  fun (h8 : Zh) => k35 (x34 + 1) h8
def gX12_ice_L4 (a0 : Nat) (x24 : Int32) (k36 : Zh → Option (Int32 × Zh)) : (Int32 → Zh → Option (Int32 × Zh)) → Int32 → Zh → Option (Int32 × Zh) :=
  fun (k38 : Int32 → Zh → Option (Int32 × Zh)) (x37 : Int32) (h9 : Zh) => (if (x24 : Int32) ≤ x37 then k36 h9
  else zlt (zR h9 a0 16) (fun r39 => zlt (zR h9 a0 17) (fun r40 => Option.bind r40 (fun a41 => zg (zin x37 (zL h9 a41)) (Option.bind r39 (fun a42 => zg (zin x37 (zL h9 a42)) (zlt (zsJ h9 a42 (zx x37) (zJ h9 a41 (zx x37))) (fun (h10 : Zh) => k38 (x37 + 1) h10))))))))
def gX12_ice_J5 (a0 : Nat) (x24 : Int32) (x34 : Int32) (k35 : Int32 → Zh → Option (Int32 × Zh)) : Zh → Option (Int32 × Zh) :=
  fun (h7 : Zh) => zjn (gX12_ice_J3 x34 k35) (fun (k36 : Zh → Option (Int32 × Zh)) =>
  zlp (fun (_ : Int32) (_ : Zh) => (none : Option (Int32 × Zh))) (gX12_ice_L4 a0 x24 k36) zFU 0 h7)
def gX12_ice_J6 (x44 : Int32) (k45 : Int32 → Zh → Option (Int32 × Zh)) : Zh → Option (Int32 × Zh) :=
  fun (h13 : Zh) => k45 (x44 + 1) h13
def gX12_ice_L7 (a0 : Nat) (x24 : Int32) (x44 : Int32) (k48 : Zh → Option (Int32 × Zh)) : (Int32 → Zh → Option (Int32 × Zh)) → Int32 → Zh → Option (Int32 × Zh) :=
  fun (k50 : Int32 → Zh → Option (Int32 × Zh)) (x49 : Int32) (h14 : Zh) => (if (x24 : Int32) ≤ x49 then k48 h14
  else zlt (zR h14 a0 17) (fun r51 => zlt (zR h14 a0 17) (fun r52 => Option.bind r52 (fun a53 => zg (zin x44 (zL h14 a53)) (zlt (zR h14 a0 16) (fun r54 => Option.bind r54 (fun a55 => zg (zin x49 (zL h14 a55)) (zlt (zR h14 a0 24) (fun r56 => Option.bind r56 (fun a57 => zg (zin ((64 * x49) + x44) (zL h14 a57)) (zbj (gX12_restBy (zJ h14 a57 (zx ((64 * x49) + x44)))) (fun x58 => zbj (gX12_restBy ((zJ h14 a53 (zx x44)) + ((zJ h14 a55 (zx x49)) * x58))) (fun x59 => Option.bind r51 (fun a60 => zg (zin x44 (zL h14 a60)) (zlt (zsJ h14 a60 (zx x44) x59) (fun (h15 : Zh) => k50 (x49 + 1) h15))))))))))))))))
def gX12_ice_L8 (a0 : Nat) (x24 : Int32) (k43 : Zh → Option (Int32 × Zh)) : (Int32 → Zh → Option (Int32 × Zh)) → Int32 → Zh → Option (Int32 × Zh) :=
  fun (k45 : Int32 → Zh → Option (Int32 × Zh)) (x44 : Int32) (h11 : Zh) => (if (x24 : Int32) ≤ x44 then k43 h11
  else zlt (zR h11 a0 17) (fun r46 => Option.bind r46 (fun a47 => zg (zin x44 (zL h11 a47)) (zlt (zsJ h11 a47 (zx x44) 0) (fun (h12 : Zh) => zjn (gX12_ice_J6 x44 k45) (fun (k48 : Zh → Option (Int32 × Zh)) =>
  zlp (fun (_ : Int32) (_ : Zh) => (none : Option (Int32 × Zh))) (gX12_ice_L7 a0 x24 x44 k48) zFU 0 h12))))))
def gX12_ice_L9 (a0 : Nat) (x3 : Int32) (x24 : Int32) (k33 : Zh → Option (Int32 × Zh)) : (Int32 → Zh → Option (Int32 × Zh)) → Int32 → Zh → Option (Int32 × Zh) :=
  fun (k35 : Int32 → Zh → Option (Int32 × Zh)) (x34 : Int32) (h6 : Zh) => (if (x3 : Int32) ≤ x34 then k33 h6
  else zjn (gX12_ice_J5 a0 x24 x34 k35) (fun (k43 : Zh → Option (Int32 × Zh)) =>
  zlp (fun (_ : Int32) (_ : Zh) => (none : Option (Int32 × Zh))) (gX12_ice_L8 a0 x24 k43) zFU 0 h6))
def gX12_ice_J10 (a0 : Nat) (x3 : Int32) (x24 : Int32) (x27 : Int64) (x28 : Int32) (k29 : Int64 → Int32 → Zh → Option (Int32 × Zh)) : Zh → Option (Int32 × Zh) :=
  fun (h4 : Zh) => zjn (gX12_ice_J2 a0 x27 x28 k29) (fun (k33 : Zh → Option (Int32 × Zh)) =>
  zlp (fun (_ : Int32) (_ : Zh) => (none : Option (Int32 × Zh))) (gX12_ice_L9 a0 x3 x24 k33) zFU 0 h4)
def gX12_ice_J11 (x62 : Int32) (h16 : Zh) (k63 : Int32 → Zh → Option (Int32 × Zh)) (r64 : Option Nat) : Int64 → Option (Int32 × Zh) :=
  fun (x65 : Int64) => Option.bind r64 (fun a66 => zg (zin x62 (zL h16 a66)) (zlt (zsJ h16 a66 (zx x62) x65) (fun (h17 : Zh) => k63 (x62 + 1) h17)))
def gX12_ice_L12 (a0 : Nat) (x24 : Int32) (x28 : Int32) (k61 : Zh → Option (Int32 × Zh)) : (Int32 → Zh → Option (Int32 × Zh)) → Int32 → Zh → Option (Int32 × Zh) :=
  fun (k63 : Int32 → Zh → Option (Int32 × Zh)) (x62 : Int32) (h16 : Zh) => (if (x24 : Int32) ≤ x62 then k61 h16
  else zlt (zR h16 a0 16) (fun r64 => zjn (gX12_ice_J11 x62 h16 k63 r64) (fun (k67 : Int64 → Option (Int32 × Zh)) =>
  (if (x62 : Int32) = x28 then k67 1
  else k67 0))))
def gX12_ice_L13 (a0 : Nat) (x3 : Int32) (x24 : Int32) (k26 : Int64 → Zh → Option (Int32 × Zh)) : (Int64 → Int32 → Zh → Option (Int32 × Zh)) → Int64 → Int32 → Zh → Option (Int32 × Zh) :=
  fun (k29 : Int64 → Int32 → Zh → Option (Int32 × Zh)) (x27 : Int64) (x28 : Int32) (h3 : Zh) => (if (x24 : Int32) ≤ x28 then k26 x27 h3
  else zjn (gX12_ice_J10 a0 x3 x24 x27 x28 k29) (fun (k61 : Zh → Option (Int32 × Zh)) =>
  zlp (fun (_ : Int32) (_ : Zh) => (none : Option (Int32 × Zh))) (gX12_ice_L12 a0 x24 x28 k61) zFU 0 h3))
def gX12_ice (h : Zh) (a0 : Nat) (x1 : Int32) (x2 : Int32) (x3 : Int32) : Option (Int32 × Zh) :=
  zbi (gX12_noWeights h a0 x1) (fun x21 => (if (x21 : Int32) = 0 then zbi (gX12_in ((x2 : Int32).toInt64) 2 6) (fun x22 => (if (x22 : Int32) = 0 then (some ((-2), h))
  else zbi (gX12_in ((x3 : Int32).toInt64) 1 8) (fun x23 => (if (x23 : Int32) = 0 then (some ((-2), h))
  else zbV (gX12_layRows h a0 x1 x2 1) (fun h1 => zlt ((1 : Int32) <<< (x2 &&& 31)) (fun x24 => zjn gX12_ice_J1 (fun (k26 : Int64 → Zh → Option (Int32 × Zh)) =>
  zlp (fun (_ : Int64) (_ : Int32) (_ : Zh) => (none : Option (Int32 × Zh))) (gX12_ice_L13 a0 x3 x24 k26) zFU 0 0 h1)))))))
  else (some ((-1), h))))
set_option maxRecDepth 20000 in
theorem cX12_ice_ok (l : Launch) (h : Zh) (a0 : Nat) (x1 : Int32) (x2 : Int32) (x3 : Int32) : Zc l yX12_ice mX12_ice 0 h [(.ref a0, 12), (.int x1, 0), (.int x2, 0), (.int x3, 0)] ((gX12_ice h a0 x1 x2 x3).map zoI) := by
  refine zc_of2 (ls := [some (.ref a0, 12), some (.int x1, 0), some (.int x2, 0), some (.int x3, 0), none, none, none, none, none, none, none]) (j := 7) (by decide +kernel) rfl rfl (zEn_ca (zEn_ci (zEn_ci (zEn_ci rfl)))) (Nat.le_of_ble_eq_true rfl) rfl ?_
  unfold gX12_ice
  refine zr_aload_n (r := (some a0)) (eX12_ice 0 rfl) rfl rfl ?_
  refine zr_iload_n (eX12_ice 1 rfl) rfl rfl ?_
  refine zr_invV_i (as := [(.int x1, 0)]) (cX12_noWeights_ok l h a0 x1) rfl rfl ⟨by decide, by decide, by decide⟩ zcd_X12_noWeights rfl ⟨zw_1400, zw_1402, zw_35, zw_62⟩ ⟨Nat.le_of_ble_eq_true rfl, Nat.le_of_ble_eq_true rfl⟩ rfl (Nat.le_of_ble_eq_true rfl) (eX12_ice 2 rfl) (fun x21 => ?_)
  refine zr_if_eq (eX12_ice 3 rfl) (t := 10) (by decide) ?_ ?_
  · refine zr_iload_n (eX12_ice 6 rfl) rfl rfl ?_
    refine zr_i2l (eX12_ice 7 rfl) ?_
    refine zr_ldc2 (eX12_ice 8 rfl) zw_1201 ?_
    refine zr_ldc2 (eX12_ice 9 rfl) zw_1408 ?_
    refine zr_invS_i (as := [(.long ((x2 : Int32).toInt64), 0), (.long 2, 0), (.long 6, 0)]) (cX12_in_ok l h ((x2 : Int32).toInt64) 2 6) rfl zcd_X12_in ⟨zw_1203, zw_1204, zw_62⟩ ⟨Nat.le_of_ble_eq_true rfl, Nat.le_of_ble_eq_true rfl⟩ rfl (Nat.le_of_ble_eq_true rfl) (eX12_ice 10 rfl) (fun x22 => ?_)
    refine zr_if_eq (eX12_ice 11 rfl) (t := 36) (by decide) ?_ ?_
    · refine zr_bipush (eX12_ice 18 rfl) zk_bipush_m2 ?_
      exact zr_iret rfl rfl (eX12_ice 19 rfl)
    · refine zr_iload_n (eX12_ice 12 rfl) rfl rfl ?_
      refine zr_i2l (eX12_ice 13 rfl) ?_
      refine zr_lconst (eX12_ice 14 rfl) zk_lconst_1 ?_
      refine zr_ldc2 (eX12_ice 15 rfl) zw_1202 ?_
      refine zr_invS_i (as := [(.long ((x3 : Int32).toInt64), 0), (.long 1, 0), (.long 8, 0)]) (cX12_in_ok l h ((x3 : Int32).toInt64) 1 8) rfl zcd_X12_in ⟨zw_1203, zw_1204, zw_62⟩ ⟨Nat.le_of_ble_eq_true rfl, Nat.le_of_ble_eq_true rfl⟩ rfl (Nat.le_of_ble_eq_true rfl) (eX12_ice 16 rfl) (fun x23 => ?_)
      refine zr_if_ne (eX12_ice 17 rfl) (t := 39) (by decide) ?_ ?_
      · refine zr_aload_n (r := (some a0)) (eX12_ice 20 rfl) rfl rfl ?_
        refine zr_iload_n (eX12_ice 21 rfl) rfl rfl ?_
        refine zr_iload_n (eX12_ice 22 rfl) rfl rfl ?_
        refine zr_iconst (eX12_ice 23 rfl) zk_iconst_1 ?_
        refine zr_invV_V (as := [(.int x1, 0), (.int x2, 0), (.int 1, 0)]) (cX12_layRows_ok l h a0 x1 x2 1) rfl rfl ⟨by decide, by decide, by decide⟩ zcd_X12_layRows rfl ⟨zw_1425, zw_1427, zw_39, zw_62⟩ ⟨Nat.le_of_ble_eq_true rfl, Nat.le_of_ble_eq_true rfl⟩ rfl (Nat.le_of_ble_eq_true rfl) (eX12_ice 24 rfl) (fun h1 => ?_)
        refine zr_iconst (eX12_ice 25 rfl) zk_iconst_1 ?_
        refine zr_iload_n (eX12_ice 26 rfl) rfl rfl ?_
        refine zr_ishl (eX12_ice 27 rfl) ?_
        refine v_leti (fun x24 => ?_)
        refine zr_istore (ls2 := [some (.ref a0, 12), some (.int x1, 0), some (.int x2, 0), some (.int x3, 0), some (.int x24, 0), none, none, none, none, none, none]) (eX12_ice 28 rfl) (Nat.le_of_ble_eq_true rfl) rfl ?_
        refine zr_lconst (eX12_ice 29 rfl) zk_lconst_0 ?_
        refine zr_lstore (ls2 := [some (.ref a0, 12), some (.int x1, 0), some (.int x2, 0), some (.int x3, 0), some (.int x24, 0), some (.long 0, 0), none, none, none, none, none]) (eX12_ice 30 rfl) (Nat.le_of_ble_eq_true rfl) rfl ?_
        refine zr_iconst (eX12_ice 31 rfl) zk_iconst_0 ?_
        refine zr_istore (ls2 := [some (.ref a0, 12), some (.int x1, 0), some (.int x2, 0), some (.int x3, 0), some (.int x24, 0), some (.long 0, 0), none, some (.int 0, 0), none, none, none]) (eX12_ice 32 rfl) (Nat.le_of_ble_eq_true rfl) rfl ?_
        refine v_jn (fun (k26 : Int64 → Zh → Option (Int32 × Zh)) => ∀ (x25 : Int64) (h2 : Zh), V l mX12_ice (zN h) (zS h) 0 zoI 247 [none, none, none, none, none, some (.long x25, 0), none, none, none, none, none] [] h2 (k26 x25 h2)) ?_ ?_
        · intro x25 h2
          unfold gX12_ice_J1
          refine zr_lload (eX12_ice 128 rfl) rfl ?_
          refine zr_l2i (eX12_ice 129 rfl) ?_
          exact zr_iret rfl rfl (eX12_ice 130 rfl)
        intro k26 hk26
        refine v_drop [true, false, false, true, true, true, false, true, false, false, false] rfl ?_
        refine zlp_ind (fun (k29 : Int64 → Int32 → Zh → Option (Int32 × Zh)) => ∀ (x27 : Int64) (x28 : Int32) (h3 : Zh), V l mX12_ice (zN h) (zS h) 0 zoI 57 [some (.ref a0, 12), none, none, some (.int x3, 0), some (.int x24, 0), some (.long x27, 0), none, some (.int x28, 0), none, none, none] [] h3 (k29 x27 x28 h3)) ?_ ?_ 0 0 h1
        · exact fun _ _ _ => v_none
        intro k29 hk29 x27 x28 h3
        unfold gX12_ice_L13
        refine zr_iload (eX12_ice 33 rfl) rfl ?_
        refine zr_iload (eX12_ice 34 rfl) rfl ?_
        refine zr_icmp_ge (eX12_ice 35 rfl) (t := 247) (by decide) ?_ ?_
        · exact v_drop [false, false, false, false, false, true, false, false, false, false, false] rfl (hk26 x27 h3)
        · refine zr_iconst (eX12_ice 36 rfl) zk_iconst_0 ?_
          refine zr_istore (ls2 := [some (.ref a0, 12), none, none, some (.int x3, 0), some (.int x24, 0), some (.long x27, 0), none, some (.int x28, 0), some (.int 0, 0), none, none]) (eX12_ice 37 rfl) (Nat.le_of_ble_eq_true rfl) rfl ?_
          refine v_jn (fun (k61 : Zh → Option (Int32 × Zh)) => ∀ (h4 : Zh), V l mX12_ice (zN h) (zS h) 0 zoI 99 [some (.ref a0, 12), none, none, some (.int x3, 0), some (.int x24, 0), some (.long x27, 0), none, some (.int x28, 0), none, none, none] [] h4 (k61 h4)) ?_ ?_
          · intro h4
            unfold gX12_ice_J10
            refine zr_iconst (eX12_ice 53 rfl) zk_iconst_0 ?_
            refine zr_istore (ls2 := [some (.ref a0, 12), none, none, some (.int x3, 0), some (.int x24, 0), some (.long x27, 0), none, some (.int x28, 0), some (.int 0, 0), none, none]) (eX12_ice 54 rfl) (Nat.le_of_ble_eq_true rfl) rfl ?_
            refine v_jn (fun (k33 : Zh → Option (Int32 × Zh)) => ∀ (h5 : Zh), V l mX12_ice (zN h) (zS h) 0 zoI 226 [some (.ref a0, 12), none, none, some (.int x3, 0), some (.int x24, 0), some (.long x27, 0), none, some (.int x28, 0), none, none, none] [] h5 (k33 h5)) ?_ ?_
            · intro h5
              unfold gX12_ice_J2
              refine zr_lload (eX12_ice 118 rfl) rfl ?_
              refine zr_aload_n (r := (some a0)) (eX12_ice 119 rfl) rfl rfl ?_
              refine zr_getR2 zf_RX12_41 (τ2 := 21) rfl (eX12_ice 120 rfl) ?_
              refine v_letr (fun r30 => ?_)
              refine zr_iload (eX12_ice 121 rfl) rfl ?_
              refine v_nn (fun a31 ea31 => ?_)
              subst ea31
              refine zr_lald (eX12_ice 122 rfl) ?_
              refine zr_ladd (eX12_ice 123 rfl) ?_
              refine zr_invS_j (as := [(.long (x27 + (zJ h5 a31 (zx x28))), 0)]) (cX12_restBy_ok l h5 (x27 + (zJ h5 a31 (zx x28)))) rfl zcd_X12_restBy ⟨zw_1433, zw_1434, zw_62⟩ ⟨Nat.le_of_ble_eq_true rfl, Nat.le_of_ble_eq_true rfl⟩ rfl (Nat.le_of_ble_eq_true rfl) (eX12_ice 124 rfl) (fun x32 => ?_)
              refine zr_lstore (ls2 := [some (.ref a0, 12), none, none, some (.int x3, 0), some (.int x24, 0), some (.long x32, 0), none, some (.int x28, 0), none, none, none]) (eX12_ice 125 rfl) (Nat.le_of_ble_eq_true rfl) rfl ?_
              refine zr_iinc (ls2 := [some (.ref a0, 12), none, none, some (.int x3, 0), some (.int x24, 0), some (.long x32, 0), none, some (.int (x28 + 1), 0), none, none, none]) (eX12_ice 126 rfl) rfl (Nat.le_of_ble_eq_true rfl) zk_iconst_1 rfl ?_
              refine zr_goto (eX12_ice 127 rfl) (t := 57) (by decide) ?_
              exact v_drop [true, false, false, true, true, true, false, true, false, false, false] rfl (hk29 x32 (x28 + 1) h5)
            intro k33 hk33
            refine v_drop [true, false, false, true, true, true, false, true, true, false, false] rfl ?_
            refine zlp_ind (fun (k35 : Int32 → Zh → Option (Int32 × Zh)) => ∀ (x34 : Int32) (h6 : Zh), V l mX12_ice (zN h) (zS h) 0 zoI 102 [some (.ref a0, 12), none, none, some (.int x3, 0), some (.int x24, 0), some (.long x27, 0), none, some (.int x28, 0), some (.int x34, 0), none, none] [] h6 (k35 x34 h6)) ?_ ?_ 0 h4
            · exact fun _ _ => v_none
            intro k35 hk35 x34 h6
            unfold gX12_ice_L9
            refine zr_iload (eX12_ice 55 rfl) rfl ?_
            refine zr_iload_n (eX12_ice 56 rfl) rfl rfl ?_
            refine zr_icmp_ge (eX12_ice 57 rfl) (t := 226) (by decide) ?_ ?_
            · exact v_drop [true, false, false, true, true, true, false, true, false, false, false] rfl (hk33 h6)
            · refine zr_iconst (eX12_ice 58 rfl) zk_iconst_0 ?_
              refine zr_istore (ls2 := [some (.ref a0, 12), none, none, some (.int x3, 0), some (.int x24, 0), some (.long x27, 0), none, some (.int x28, 0), some (.int x34, 0), some (.int 0, 0), none]) (eX12_ice 59 rfl) (Nat.le_of_ble_eq_true rfl) rfl ?_
              refine v_jn (fun (k43 : Zh → Option (Int32 × Zh)) => ∀ (h7 : Zh), V l mX12_ice (zN h) (zS h) 0 zoI 190 [some (.ref a0, 12), none, none, some (.int x3, 0), some (.int x24, 0), some (.long x27, 0), none, some (.int x28, 0), some (.int x34, 0), none, none] [] h7 (k43 h7)) ?_ ?_
              · intro h7
                unfold gX12_ice_J5
                refine zr_iconst (eX12_ice 101 rfl) zk_iconst_0 ?_
                refine zr_istore (ls2 := [some (.ref a0, 12), none, none, some (.int x3, 0), some (.int x24, 0), some (.long x27, 0), none, some (.int x28, 0), some (.int x34, 0), some (.int 0, 0), none]) (eX12_ice 102 rfl) (Nat.le_of_ble_eq_true rfl) rfl ?_
                refine v_jn (fun (k36 : Zh → Option (Int32 × Zh)) => ∀ (h8 : Zh), V l mX12_ice (zN h) (zS h) 0 zoI 220 [some (.ref a0, 12), none, none, some (.int x3, 0), some (.int x24, 0), some (.long x27, 0), none, some (.int x28, 0), some (.int x34, 0), none, none] [] h8 (k36 h8)) ?_ ?_
                · intro h8
                  unfold gX12_ice_J3
                  refine zr_iinc (ls2 := [some (.ref a0, 12), none, none, some (.int x3, 0), some (.int x24, 0), some (.long x27, 0), none, some (.int x28, 0), some (.int (x34 + 1), 0), none, none]) (eX12_ice 116 rfl) rfl (Nat.le_of_ble_eq_true rfl) zk_iconst_1 rfl ?_
                  refine zr_goto (eX12_ice 117 rfl) (t := 102) (by decide) ?_
                  exact v_drop [true, false, false, true, true, true, false, true, true, false, false] rfl (hk35 (x34 + 1) h8)
                intro k36 hk36
                refine v_drop [true, false, false, true, true, true, false, true, true, true, false] rfl ?_
                refine zlp_ind (fun (k38 : Int32 → Zh → Option (Int32 × Zh)) => ∀ (x37 : Int32) (h9 : Zh), V l mX12_ice (zN h) (zS h) 0 zoI 193 [some (.ref a0, 12), none, none, some (.int x3, 0), some (.int x24, 0), some (.long x27, 0), none, some (.int x28, 0), some (.int x34, 0), some (.int x37, 0), none] [] h9 (k38 x37 h9)) ?_ ?_ 0 h7
                · exact fun _ _ => v_none
                intro k38 hk38 x37 h9
                unfold gX12_ice_L4
                refine zr_iload (eX12_ice 103 rfl) rfl ?_
                refine zr_iload (eX12_ice 104 rfl) rfl ?_
                refine zr_icmp_ge (eX12_ice 105 rfl) (t := 220) (by decide) ?_ ?_
                · exact v_drop [true, false, false, true, true, true, false, true, true, false, false] rfl (hk36 h9)
                · refine zr_aload_n (r := (some a0)) (eX12_ice 106 rfl) rfl rfl ?_
                  refine zr_getR2 zf_RX12_41 (τ2 := 21) rfl (eX12_ice 107 rfl) ?_
                  refine v_letr (fun r39 => ?_)
                  refine zr_iload (eX12_ice 108 rfl) rfl ?_
                  refine zr_aload_n (r := (some a0)) (eX12_ice 109 rfl) rfl rfl ?_
                  refine zr_getR2 zf_RX12_44 (τ2 := 21) rfl (eX12_ice 110 rfl) ?_
                  refine v_letr (fun r40 => ?_)
                  refine zr_iload (eX12_ice 111 rfl) rfl ?_
                  refine v_nn (fun a41 ea41 => ?_)
                  subst ea41
                  refine zr_lald (eX12_ice 112 rfl) ?_
                  refine v_nn (fun a42 ea42 => ?_)
                  subst ea42
                  refine zr_last (eX12_ice 113 rfl) ?_
                  refine v_leth (fun h10 => ?_)
                  refine zr_iinc (ls2 := [some (.ref a0, 12), none, none, some (.int x3, 0), some (.int x24, 0), some (.long x27, 0), none, some (.int x28, 0), some (.int x34, 0), some (.int (x37 + 1), 0), none]) (eX12_ice 114 rfl) rfl (Nat.le_of_ble_eq_true rfl) zk_iconst_1 rfl ?_
                  refine zr_goto (eX12_ice 115 rfl) (t := 193) (by decide) ?_
                  exact v_drop [true, false, false, true, true, true, false, true, true, true, false] rfl (hk38 (x37 + 1) h10)
              intro k43 hk43
              refine v_drop [true, false, false, true, true, true, false, true, true, true, false] rfl ?_
              refine zlp_ind (fun (k45 : Int32 → Zh → Option (Int32 × Zh)) => ∀ (x44 : Int32) (h11 : Zh), V l mX12_ice (zN h) (zS h) 0 zoI 111 [some (.ref a0, 12), none, none, some (.int x3, 0), some (.int x24, 0), some (.long x27, 0), none, some (.int x28, 0), some (.int x34, 0), some (.int x44, 0), none] [] h11 (k45 x44 h11)) ?_ ?_ 0 h6
              · exact fun _ _ => v_none
              intro k45 hk45 x44 h11
              unfold gX12_ice_L8
              refine zr_iload (eX12_ice 60 rfl) rfl ?_
              refine zr_iload (eX12_ice 61 rfl) rfl ?_
              refine zr_icmp_ge (eX12_ice 62 rfl) (t := 190) (by decide) ?_ ?_
              · exact v_drop [true, false, false, true, true, true, false, true, true, false, false] rfl (hk43 h11)
              · refine zr_aload_n (r := (some a0)) (eX12_ice 63 rfl) rfl rfl ?_
                refine zr_getR2 zf_RX12_44 (τ2 := 21) rfl (eX12_ice 64 rfl) ?_
                refine v_letr (fun r46 => ?_)
                refine zr_iload (eX12_ice 65 rfl) rfl ?_
                refine zr_lconst (eX12_ice 66 rfl) zk_lconst_0 ?_
                refine v_nn (fun a47 ea47 => ?_)
                subst ea47
                refine zr_last (eX12_ice 67 rfl) ?_
                refine v_leth (fun h12 => ?_)
                refine zr_iconst (eX12_ice 68 rfl) zk_iconst_0 ?_
                refine zr_istore (ls2 := [some (.ref a0, 12), none, none, some (.int x3, 0), some (.int x24, 0), some (.long x27, 0), none, some (.int x28, 0), some (.int x34, 0), some (.int x44, 0), some (.int 0, 0)]) (eX12_ice 69 rfl) (Nat.le_of_ble_eq_true rfl) rfl ?_
                refine v_jn (fun (k48 : Zh → Option (Int32 × Zh)) => ∀ (h13 : Zh), V l mX12_ice (zN h) (zS h) 0 zoI 184 [some (.ref a0, 12), none, none, some (.int x3, 0), some (.int x24, 0), some (.long x27, 0), none, some (.int x28, 0), some (.int x34, 0), some (.int x44, 0), none] [] h13 (k48 h13)) ?_ ?_
                · intro h13
                  unfold gX12_ice_J6
                  refine zr_iinc (ls2 := [some (.ref a0, 12), none, none, some (.int x3, 0), some (.int x24, 0), some (.long x27, 0), none, some (.int x28, 0), some (.int x34, 0), some (.int (x44 + 1), 0), none]) (eX12_ice 99 rfl) rfl (Nat.le_of_ble_eq_true rfl) zk_iconst_1 rfl ?_
                  refine zr_goto (eX12_ice 100 rfl) (t := 111) (by decide) ?_
                  exact v_drop [true, false, false, true, true, true, false, true, true, true, false] rfl (hk45 (x44 + 1) h13)
                intro k48 hk48
                refine v_drop [true, false, false, true, true, true, false, true, true, true, true] rfl ?_
                refine zlp_ind (fun (k50 : Int32 → Zh → Option (Int32 × Zh)) => ∀ (x49 : Int32) (h14 : Zh), V l mX12_ice (zN h) (zS h) 0 zoI 129 [some (.ref a0, 12), none, none, some (.int x3, 0), some (.int x24, 0), some (.long x27, 0), none, some (.int x28, 0), some (.int x34, 0), some (.int x44, 0), some (.int x49, 0)] [] h14 (k50 x49 h14)) ?_ ?_ 0 h12
                · exact fun _ _ => v_none
                intro k50 hk50 x49 h14
                unfold gX12_ice_L7
                refine zr_iload (eX12_ice 70 rfl) rfl ?_
                refine zr_iload (eX12_ice 71 rfl) rfl ?_
                refine zr_icmp_ge (eX12_ice 72 rfl) (t := 184) (by decide) ?_ ?_
                · exact v_drop [true, false, false, true, true, true, false, true, true, true, false] rfl (hk48 h14)
                · refine zr_aload_n (r := (some a0)) (eX12_ice 73 rfl) rfl rfl ?_
                  refine zr_getR2 zf_RX12_44 (τ2 := 21) rfl (eX12_ice 74 rfl) ?_
                  refine v_letr (fun r51 => ?_)
                  refine zr_iload (eX12_ice 75 rfl) rfl ?_
                  refine zr_aload_n (r := (some a0)) (eX12_ice 76 rfl) rfl rfl ?_
                  refine zr_getR2 zf_RX12_44 (τ2 := 21) rfl (eX12_ice 77 rfl) ?_
                  refine v_letr (fun r52 => ?_)
                  refine zr_iload (eX12_ice 78 rfl) rfl ?_
                  refine v_nn (fun a53 ea53 => ?_)
                  subst ea53
                  refine zr_lald (eX12_ice 79 rfl) ?_
                  refine zr_aload_n (r := (some a0)) (eX12_ice 80 rfl) rfl rfl ?_
                  refine zr_getR2 zf_RX12_41 (τ2 := 21) rfl (eX12_ice 81 rfl) ?_
                  refine v_letr (fun r54 => ?_)
                  refine zr_iload (eX12_ice 82 rfl) rfl ?_
                  refine v_nn (fun a55 ea55 => ?_)
                  subst ea55
                  refine zr_lald (eX12_ice 83 rfl) ?_
                  refine zr_aload_n (r := (some a0)) (eX12_ice 84 rfl) rfl rfl ?_
                  refine zr_getR2 zf_RX12_62 (τ2 := 21) rfl (eX12_ice 85 rfl) ?_
                  refine v_letr (fun r56 => ?_)
                  refine zr_bipush (eX12_ice 86 rfl) zk_bipush_64 ?_
                  refine zr_iload (eX12_ice 87 rfl) rfl ?_
                  refine zr_imul (eX12_ice 88 rfl) ?_
                  refine zr_iload (eX12_ice 89 rfl) rfl ?_
                  refine zr_iadd (eX12_ice 90 rfl) ?_
                  refine v_nn (fun a57 ea57 => ?_)
                  subst ea57
                  refine zr_lald (eX12_ice 91 rfl) ?_
                  refine zr_invS_j (as := [(.long (zJ h14 a57 (zx ((64 * x49) + x44))), 0)]) (cX12_restBy_ok l h14 (zJ h14 a57 (zx ((64 * x49) + x44)))) rfl zcd_X12_restBy ⟨zw_1433, zw_1434, zw_62⟩ ⟨Nat.le_of_ble_eq_true rfl, Nat.le_of_ble_eq_true rfl⟩ rfl (Nat.le_of_ble_eq_true rfl) (eX12_ice 92 rfl) (fun x58 => ?_)
                  refine zr_lmul (eX12_ice 93 rfl) ?_
                  refine zr_ladd (eX12_ice 94 rfl) ?_
                  refine zr_invS_j (as := [(.long ((zJ h14 a53 (zx x44)) + ((zJ h14 a55 (zx x49)) * x58)), 0)]) (cX12_restBy_ok l h14 ((zJ h14 a53 (zx x44)) + ((zJ h14 a55 (zx x49)) * x58))) rfl zcd_X12_restBy ⟨zw_1433, zw_1434, zw_62⟩ ⟨Nat.le_of_ble_eq_true rfl, Nat.le_of_ble_eq_true rfl⟩ rfl (Nat.le_of_ble_eq_true rfl) (eX12_ice 95 rfl) (fun x59 => ?_)
                  refine v_nn (fun a60 ea60 => ?_)
                  subst ea60
                  refine zr_last (eX12_ice 96 rfl) ?_
                  refine v_leth (fun h15 => ?_)
                  refine zr_iinc (ls2 := [some (.ref a0, 12), none, none, some (.int x3, 0), some (.int x24, 0), some (.long x27, 0), none, some (.int x28, 0), some (.int x34, 0), some (.int x44, 0), some (.int (x49 + 1), 0)]) (eX12_ice 97 rfl) rfl (Nat.le_of_ble_eq_true rfl) zk_iconst_1 rfl ?_
                  refine zr_goto (eX12_ice 98 rfl) (t := 129) (by decide) ?_
                  exact v_drop [true, false, false, true, true, true, false, true, true, true, true] rfl (hk50 (x49 + 1) h15)
          intro k61 hk61
          refine v_drop [true, false, false, true, true, true, false, true, true, false, false] rfl ?_
          refine zlp_ind (fun (k63 : Int32 → Zh → Option (Int32 × Zh)) => ∀ (x62 : Int32) (h16 : Zh), V l mX12_ice (zN h) (zS h) 0 zoI 67 [some (.ref a0, 12), none, none, some (.int x3, 0), some (.int x24, 0), some (.long x27, 0), none, some (.int x28, 0), some (.int x62, 0), none, none] [] h16 (k63 x62 h16)) ?_ ?_ 0 h3
          · exact fun _ _ => v_none
          intro k63 hk63 x62 h16
          unfold gX12_ice_L12
          refine zr_iload (eX12_ice 38 rfl) rfl ?_
          refine zr_iload (eX12_ice 39 rfl) rfl ?_
          refine zr_icmp_ge (eX12_ice 40 rfl) (t := 99) (by decide) ?_ ?_
          · exact v_drop [true, false, false, true, true, true, false, true, false, false, false] rfl (hk61 h16)
          · refine zr_aload_n (r := (some a0)) (eX12_ice 41 rfl) rfl rfl ?_
            refine zr_getR2 zf_RX12_41 (τ2 := 21) rfl (eX12_ice 42 rfl) ?_
            refine v_letr (fun r64 => ?_)
            refine zr_iload (eX12_ice 43 rfl) rfl ?_
            refine zr_iload (eX12_ice 44 rfl) rfl ?_
            refine zr_iload (eX12_ice 45 rfl) rfl ?_
            refine v_jn (fun (k67 : Int64 → Option (Int32 × Zh)) => ∀ (x65 : Int64), V l mX12_ice (zN h) (zS h) 0 zoI 92 [some (.ref a0, 12), none, none, some (.int x3, 0), some (.int x24, 0), some (.long x27, 0), none, some (.int x28, 0), some (.int x62, 0), none, none] [(.long x65, 0), (.int x62, 0), (va_rf r64, 21)] h16 (k67 x65)) ?_ ?_
            · intro x65
              unfold gX12_ice_J11
              refine v_nn (fun a66 ea66 => ?_)
              subst ea66
              refine zr_last (eX12_ice 50 rfl) ?_
              refine v_leth (fun h17 => ?_)
              refine zr_iinc (ls2 := [some (.ref a0, 12), none, none, some (.int x3, 0), some (.int x24, 0), some (.long x27, 0), none, some (.int x28, 0), some (.int (x62 + 1), 0), none, none]) (eX12_ice 51 rfl) rfl (Nat.le_of_ble_eq_true rfl) zk_iconst_1 rfl ?_
              refine zr_goto (eX12_ice 52 rfl) (t := 67) (by decide) ?_
              exact v_drop [true, false, false, true, true, true, false, true, true, false, false] rfl (hk63 (x62 + 1) h17)
            intro k67 hk67
            refine zr_icmp_ne (eX12_ice 46 rfl) (t := 91) (by decide) ?_ ?_
            · refine zr_lconst (eX12_ice 49 rfl) zk_lconst_0 ?_
              exact v_drop [true, false, false, true, true, true, false, true, true, false, false] rfl (hk67 0)
            · refine zr_lconst (eX12_ice 47 rfl) zk_lconst_1 ?_
              refine zr_goto (eX12_ice 48 rfl) (t := 92) (by decide) ?_
              exact v_drop [true, false, false, true, true, true, false, true, true, false, false] rfl (hk67 1)
      · refine zr_bipush (eX12_ice 18 rfl) zk_bipush_m2 ?_
        exact zr_iret rfl rfl (eX12_ice 19 rfl)
  · refine zr_iconst (eX12_ice 4 rfl) zk_iconst_m1 ?_
    exact zr_iret rfl rfl (eX12_ice 5 rfl)
def gX12_walls_J1 (a0 : Nat) (x23 : Int32) : Zh → Option (Int32 × Zh) :=
  fun (h2 : Zh) => zlt (zR h2 a0 16) (fun r24 => Option.bind r24 (fun a25 => zg (zin (x23 - 1) (zL h2 a25)) ((some ((((zJ h2 a25 (zx (x23 - 1))) : Int64).toInt32), h2)))))
def gX12_walls_J2 (x27 : Int32) (k28 : Int32 → Zh → Option (Int32 × Zh)) : Zh → Option (Int32 × Zh) :=
  fun (h5 : Zh) => k28 (x27 + 1) h5
def gX12_walls_L3 (a0 : Nat) (x23 : Int32) (k29 : Zh → Option (Int32 × Zh)) : (Int32 → Zh → Option (Int32 × Zh)) → Int32 → Zh → Option (Int32 × Zh) :=
  fun (k31 : Int32 → Zh → Option (Int32 × Zh)) (x30 : Int32) (h6 : Zh) => (if (x23 : Int32) ≤ x30 then k29 h6
  else zlt (zR h6 a0 16) (fun r32 => zlt (zR h6 a0 17) (fun r33 => Option.bind r33 (fun a34 => zg (zin x30 (zL h6 a34)) (Option.bind r32 (fun a35 => zg (zin x30 (zL h6 a35)) (zlt (zsJ h6 a35 (zx x30) (zJ h6 a34 (zx x30))) (fun (h7 : Zh) => k31 (x30 + 1) h7))))))))
def gX12_walls_J4 (a0 : Nat) (x23 : Int32) (x27 : Int32) (k28 : Int32 → Zh → Option (Int32 × Zh)) : Zh → Option (Int32 × Zh) :=
  fun (h4 : Zh) => zjn (gX12_walls_J2 x27 k28) (fun (k29 : Zh → Option (Int32 × Zh)) =>
  zlp (fun (_ : Int32) (_ : Zh) => (none : Option (Int32 × Zh))) (gX12_walls_L3 a0 x23 k29) zFU 0 h4)
def gX12_walls_J5 (x37 : Int32) (k38 : Int32 → Zh → Option (Int32 × Zh)) : Zh → Option (Int32 × Zh) :=
  fun (h10 : Zh) => k38 (x37 + 1) h10
def gX12_walls_L6 (a0 : Nat) (x1 : Int32) (x2 : Int32) (x23 : Int32) (x37 : Int32) (k41 : Zh → Option (Int32 × Zh)) : (Int32 → Zh → Option (Int32 × Zh)) → Int32 → Zh → Option (Int32 × Zh) :=
  fun (k43 : Int32 → Zh → Option (Int32 × Zh)) (x42 : Int32) (h11 : Zh) => (if (x23 : Int32) ≤ x42 then k41 h11
  else zlt (zR h11 a0 17) (fun r44 => zlt (zR h11 a0 17) (fun r45 => Option.bind r45 (fun a46 => zg (zin x37 (zL h11 a46)) (zlt (zR h11 a0 16) (fun r47 => Option.bind r47 (fun a48 => zg (zin x42 (zL h11 a48)) (zbj (gX12_along h11 a0 x1 x2 x42 x37 1 0) (fun x49 => zbj (gX12_restBy x49) (fun x50 => zbj (gX12_restBy ((zJ h11 a46 (zx x37)) + ((zJ h11 a48 (zx x42)) * x50))) (fun x51 => Option.bind r44 (fun a52 => zg (zin x37 (zL h11 a52)) (zlt (zsJ h11 a52 (zx x37) x51) (fun (h12 : Zh) => k43 (x42 + 1) h12))))))))))))))
def gX12_walls_L7 (a0 : Nat) (x1 : Int32) (x2 : Int32) (x23 : Int32) (k36 : Zh → Option (Int32 × Zh)) : (Int32 → Zh → Option (Int32 × Zh)) → Int32 → Zh → Option (Int32 × Zh) :=
  fun (k38 : Int32 → Zh → Option (Int32 × Zh)) (x37 : Int32) (h8 : Zh) => (if (x23 : Int32) ≤ x37 then k36 h8
  else zlt (zR h8 a0 17) (fun r39 => Option.bind r39 (fun a40 => zg (zin x37 (zL h8 a40)) (zlt (zsJ h8 a40 (zx x37) 0) (fun (h9 : Zh) => zjn (gX12_walls_J5 x37 k38) (fun (k41 : Zh → Option (Int32 × Zh)) =>
  zlp (fun (_ : Int32) (_ : Zh) => (none : Option (Int32 × Zh))) (gX12_walls_L6 a0 x1 x2 x23 x37 k41) zFU 0 h9))))))
def gX12_walls_L8 (a0 : Nat) (x1 : Int32) (x2 : Int32) (x23 : Int32) (k26 : Zh → Option (Int32 × Zh)) : (Int32 → Zh → Option (Int32 × Zh)) → Int32 → Zh → Option (Int32 × Zh) :=
  fun (k28 : Int32 → Zh → Option (Int32 × Zh)) (x27 : Int32) (h3 : Zh) => (if (x2 : Int32) ≤ x27 then k26 h3
  else zjn (gX12_walls_J4 a0 x23 x27 k28) (fun (k36 : Zh → Option (Int32 × Zh)) =>
  zlp (fun (_ : Int32) (_ : Zh) => (none : Option (Int32 × Zh))) (gX12_walls_L7 a0 x1 x2 x23 k36) zFU 0 h3))
def gX12_walls_J9 (a0 : Nat) (x1 : Int32) (x2 : Int32) (x23 : Int32) : Zh → Option (Int32 × Zh) :=
  fun (h1 : Zh) => zjn (gX12_walls_J1 a0 x23) (fun (k26 : Zh → Option (Int32 × Zh)) =>
  zlp (fun (_ : Int32) (_ : Zh) => (none : Option (Int32 × Zh))) (gX12_walls_L8 a0 x1 x2 x23 k26) zFU 0 h1)
def gX12_walls_J10 (x54 : Int32) (h13 : Zh) (k55 : Int32 → Zh → Option (Int32 × Zh)) (r56 : Option Nat) : Int64 → Option (Int32 × Zh) :=
  fun (x57 : Int64) => Option.bind r56 (fun a58 => zg (zin x54 (zL h13 a58)) (zlt (zsJ h13 a58 (zx x54) x57) (fun (h14 : Zh) => k55 (x54 + 1) h14)))
def gX12_walls_L11 (a0 : Nat) (x23 : Int32) (k53 : Zh → Option (Int32 × Zh)) : (Int32 → Zh → Option (Int32 × Zh)) → Int32 → Zh → Option (Int32 × Zh) :=
  fun (k55 : Int32 → Zh → Option (Int32 × Zh)) (x54 : Int32) (h13 : Zh) => (if (x23 : Int32) ≤ x54 then k53 h13
  else zlt (zR h13 a0 16) (fun r56 => zjn (gX12_walls_J10 x54 h13 k55 r56) (fun (k59 : Int64 → Option (Int32 × Zh)) =>
  (if (x54 : Int32) = 0 then k59 1
  else k59 0))))
def gX12_walls (h : Zh) (a0 : Nat) (x1 : Int32) (x2 : Int32) : Option (Int32 × Zh) :=
  zbi (gX12_noWeights h a0 x1) (fun x21 => (if (x21 : Int32) = 0 then zbi (gX12_in ((x2 : Int32).toInt64) 1 6) (fun x22 => (if (x22 : Int32) = 0 then (some ((-2), h))
  else zlt ((1 : Int32) <<< (x2 &&& 31)) (fun x23 => zjn (gX12_walls_J9 a0 x1 x2 x23) (fun (k53 : Zh → Option (Int32 × Zh)) =>
  zlp (fun (_ : Int32) (_ : Zh) => (none : Option (Int32 × Zh))) (gX12_walls_L11 a0 x23 k53) zFU 0 h))))
  else (some ((-1), h))))
set_option maxRecDepth 20000 in
theorem cX12_walls_ok (l : Launch) (h : Zh) (a0 : Nat) (x1 : Int32) (x2 : Int32) : Zc l yX12_walls mX12_walls 0 h [(.ref a0, 12), (.int x1, 0), (.int x2, 0)] ((gX12_walls h a0 x1 x2).map zoI) := by
  refine zc_of2 (ls := [some (.ref a0, 12), some (.int x1, 0), some (.int x2, 0), none, none, none, none]) (j := 4) (by decide +kernel) rfl rfl (zEn_ca (zEn_ci (zEn_ci rfl))) (Nat.le_of_ble_eq_true rfl) rfl ?_
  unfold gX12_walls
  refine zr_aload_n (r := (some a0)) (eX12_walls 0 rfl) rfl rfl ?_
  refine zr_iload_n (eX12_walls 1 rfl) rfl rfl ?_
  refine zr_invV_i (as := [(.int x1, 0)]) (cX12_noWeights_ok l h a0 x1) rfl rfl ⟨by decide, by decide, by decide⟩ zcd_X12_noWeights rfl ⟨zw_1400, zw_1402, zw_35, zw_62⟩ ⟨Nat.le_of_ble_eq_true rfl, Nat.le_of_ble_eq_true rfl⟩ rfl (Nat.le_of_ble_eq_true rfl) (eX12_walls 2 rfl) (fun x21 => ?_)
  refine zr_if_eq (eX12_walls 3 rfl) (t := 10) (by decide) ?_ ?_
  · refine zr_iload_n (eX12_walls 6 rfl) rfl rfl ?_
    refine zr_i2l (eX12_walls 7 rfl) ?_
    refine zr_lconst (eX12_walls 8 rfl) zk_lconst_1 ?_
    refine zr_ldc2 (eX12_walls 9 rfl) zw_1408 ?_
    refine zr_invS_i (as := [(.long ((x2 : Int32).toInt64), 0), (.long 1, 0), (.long 6, 0)]) (cX12_in_ok l h ((x2 : Int32).toInt64) 1 6) rfl zcd_X12_in ⟨zw_1203, zw_1204, zw_62⟩ ⟨Nat.le_of_ble_eq_true rfl, Nat.le_of_ble_eq_true rfl⟩ rfl (Nat.le_of_ble_eq_true rfl) (eX12_walls 10 rfl) (fun x22 => ?_)
    refine zr_if_ne (eX12_walls 11 rfl) (t := 25) (by decide) ?_ ?_
    · refine zr_iconst (eX12_walls 14 rfl) zk_iconst_1 ?_
      refine zr_iload_n (eX12_walls 15 rfl) rfl rfl ?_
      refine zr_ishl (eX12_walls 16 rfl) ?_
      refine v_leti (fun x23 => ?_)
      refine zr_istore_n (ls2 := [some (.ref a0, 12), some (.int x1, 0), some (.int x2, 0), some (.int x23, 0), none, none, none]) (eX12_walls 17 rfl) rfl (Nat.le_of_ble_eq_true rfl) rfl ?_
      refine zr_iconst (eX12_walls 18 rfl) zk_iconst_0 ?_
      refine zr_istore (ls2 := [some (.ref a0, 12), some (.int x1, 0), some (.int x2, 0), some (.int x23, 0), some (.int 0, 0), none, none]) (eX12_walls 19 rfl) (Nat.le_of_ble_eq_true rfl) rfl ?_
      refine v_jn (fun (k53 : Zh → Option (Int32 × Zh)) => ∀ (h1 : Zh), V l mX12_walls (zN h) (zS h) 0 zoI 61 [some (.ref a0, 12), some (.int x1, 0), some (.int x2, 0), some (.int x23, 0), none, none, none] [] h1 (k53 h1)) ?_ ?_
      · intro h1
        unfold gX12_walls_J9
        refine zr_iconst (eX12_walls 34 rfl) zk_iconst_0 ?_
        refine zr_istore (ls2 := [some (.ref a0, 12), some (.int x1, 0), some (.int x2, 0), some (.int x23, 0), some (.int 0, 0), none, none]) (eX12_walls 35 rfl) (Nat.le_of_ble_eq_true rfl) rfl ?_
        refine v_jn (fun (k26 : Zh → Option (Int32 × Zh)) => ∀ (h2 : Zh), V l mX12_walls (zN h) (zS h) 0 zoI 184 [some (.ref a0, 12), none, none, some (.int x23, 0), none, none, none] [] h2 (k26 h2)) ?_ ?_
        · intro h2
          unfold gX12_walls_J1
          refine zr_aload_n (r := (some a0)) (eX12_walls 99 rfl) rfl rfl ?_
          refine zr_getR2 zf_RX12_41 (τ2 := 21) rfl (eX12_walls 100 rfl) ?_
          refine v_letr (fun r24 => ?_)
          refine zr_iload_n (eX12_walls 101 rfl) rfl rfl ?_
          refine zr_iconst (eX12_walls 102 rfl) zk_iconst_1 ?_
          refine zr_isub (eX12_walls 103 rfl) ?_
          refine v_nn (fun a25 ea25 => ?_)
          subst ea25
          refine zr_lald (eX12_walls 104 rfl) ?_
          refine zr_l2i (eX12_walls 105 rfl) ?_
          exact zr_iret rfl rfl (eX12_walls 106 rfl)
        intro k26 hk26
        refine v_drop [true, true, true, true, true, false, false] rfl ?_
        refine zlp_ind (fun (k28 : Int32 → Zh → Option (Int32 × Zh)) => ∀ (x27 : Int32) (h3 : Zh), V l mX12_walls (zN h) (zS h) 0 zoI 64 [some (.ref a0, 12), some (.int x1, 0), some (.int x2, 0), some (.int x23, 0), some (.int x27, 0), none, none] [] h3 (k28 x27 h3)) ?_ ?_ 0 h1
        · exact fun _ _ => v_none
        intro k28 hk28 x27 h3
        unfold gX12_walls_L8
        refine zr_iload (eX12_walls 36 rfl) rfl ?_
        refine zr_iload_n (eX12_walls 37 rfl) rfl rfl ?_
        refine zr_icmp_ge (eX12_walls 38 rfl) (t := 184) (by decide) ?_ ?_
        · exact v_drop [true, false, false, true, false, false, false] rfl (hk26 h3)
        · refine zr_iconst (eX12_walls 39 rfl) zk_iconst_0 ?_
          refine zr_istore (ls2 := [some (.ref a0, 12), some (.int x1, 0), some (.int x2, 0), some (.int x23, 0), some (.int x27, 0), some (.int 0, 0), none]) (eX12_walls 40 rfl) (Nat.le_of_ble_eq_true rfl) rfl ?_
          refine v_jn (fun (k36 : Zh → Option (Int32 × Zh)) => ∀ (h4 : Zh), V l mX12_walls (zN h) (zS h) 0 zoI 149 [some (.ref a0, 12), some (.int x1, 0), some (.int x2, 0), some (.int x23, 0), some (.int x27, 0), none, none] [] h4 (k36 h4)) ?_ ?_
          · intro h4
            unfold gX12_walls_J4
            refine zr_iconst (eX12_walls 82 rfl) zk_iconst_0 ?_
            refine zr_istore (ls2 := [some (.ref a0, 12), some (.int x1, 0), some (.int x2, 0), some (.int x23, 0), some (.int x27, 0), some (.int 0, 0), none]) (eX12_walls 83 rfl) (Nat.le_of_ble_eq_true rfl) rfl ?_
            refine v_jn (fun (k29 : Zh → Option (Int32 × Zh)) => ∀ (h5 : Zh), V l mX12_walls (zN h) (zS h) 0 zoI 178 [some (.ref a0, 12), some (.int x1, 0), some (.int x2, 0), some (.int x23, 0), some (.int x27, 0), none, none] [] h5 (k29 h5)) ?_ ?_
            · intro h5
              unfold gX12_walls_J2
              refine zr_iinc (ls2 := [some (.ref a0, 12), some (.int x1, 0), some (.int x2, 0), some (.int x23, 0), some (.int (x27 + 1), 0), none, none]) (eX12_walls 97 rfl) rfl (Nat.le_of_ble_eq_true rfl) zk_iconst_1 rfl ?_
              refine zr_goto (eX12_walls 98 rfl) (t := 64) (by decide) ?_
              exact v_drop [true, true, true, true, true, false, false] rfl (hk28 (x27 + 1) h5)
            intro k29 hk29
            refine v_drop [true, true, true, true, true, true, false] rfl ?_
            refine zlp_ind (fun (k31 : Int32 → Zh → Option (Int32 × Zh)) => ∀ (x30 : Int32) (h6 : Zh), V l mX12_walls (zN h) (zS h) 0 zoI 152 [some (.ref a0, 12), some (.int x1, 0), some (.int x2, 0), some (.int x23, 0), some (.int x27, 0), some (.int x30, 0), none] [] h6 (k31 x30 h6)) ?_ ?_ 0 h4
            · exact fun _ _ => v_none
            intro k31 hk31 x30 h6
            unfold gX12_walls_L3
            refine zr_iload (eX12_walls 84 rfl) rfl ?_
            refine zr_iload_n (eX12_walls 85 rfl) rfl rfl ?_
            refine zr_icmp_ge (eX12_walls 86 rfl) (t := 178) (by decide) ?_ ?_
            · exact v_drop [true, true, true, true, true, false, false] rfl (hk29 h6)
            · refine zr_aload_n (r := (some a0)) (eX12_walls 87 rfl) rfl rfl ?_
              refine zr_getR2 zf_RX12_41 (τ2 := 21) rfl (eX12_walls 88 rfl) ?_
              refine v_letr (fun r32 => ?_)
              refine zr_iload (eX12_walls 89 rfl) rfl ?_
              refine zr_aload_n (r := (some a0)) (eX12_walls 90 rfl) rfl rfl ?_
              refine zr_getR2 zf_RX12_44 (τ2 := 21) rfl (eX12_walls 91 rfl) ?_
              refine v_letr (fun r33 => ?_)
              refine zr_iload (eX12_walls 92 rfl) rfl ?_
              refine v_nn (fun a34 ea34 => ?_)
              subst ea34
              refine zr_lald (eX12_walls 93 rfl) ?_
              refine v_nn (fun a35 ea35 => ?_)
              subst ea35
              refine zr_last (eX12_walls 94 rfl) ?_
              refine v_leth (fun h7 => ?_)
              refine zr_iinc (ls2 := [some (.ref a0, 12), some (.int x1, 0), some (.int x2, 0), some (.int x23, 0), some (.int x27, 0), some (.int (x30 + 1), 0), none]) (eX12_walls 95 rfl) rfl (Nat.le_of_ble_eq_true rfl) zk_iconst_1 rfl ?_
              refine zr_goto (eX12_walls 96 rfl) (t := 152) (by decide) ?_
              exact v_drop [true, true, true, true, true, true, false] rfl (hk31 (x30 + 1) h7)
          intro k36 hk36
          refine v_drop [true, true, true, true, true, true, false] rfl ?_
          refine zlp_ind (fun (k38 : Int32 → Zh → Option (Int32 × Zh)) => ∀ (x37 : Int32) (h8 : Zh), V l mX12_walls (zN h) (zS h) 0 zoI 73 [some (.ref a0, 12), some (.int x1, 0), some (.int x2, 0), some (.int x23, 0), some (.int x27, 0), some (.int x37, 0), none] [] h8 (k38 x37 h8)) ?_ ?_ 0 h3
          · exact fun _ _ => v_none
          intro k38 hk38 x37 h8
          unfold gX12_walls_L7
          refine zr_iload (eX12_walls 41 rfl) rfl ?_
          refine zr_iload_n (eX12_walls 42 rfl) rfl rfl ?_
          refine zr_icmp_ge (eX12_walls 43 rfl) (t := 149) (by decide) ?_ ?_
          · exact v_drop [true, true, true, true, true, false, false] rfl (hk36 h8)
          · refine zr_aload_n (r := (some a0)) (eX12_walls 44 rfl) rfl rfl ?_
            refine zr_getR2 zf_RX12_44 (τ2 := 21) rfl (eX12_walls 45 rfl) ?_
            refine v_letr (fun r39 => ?_)
            refine zr_iload (eX12_walls 46 rfl) rfl ?_
            refine zr_lconst (eX12_walls 47 rfl) zk_lconst_0 ?_
            refine v_nn (fun a40 ea40 => ?_)
            subst ea40
            refine zr_last (eX12_walls 48 rfl) ?_
            refine v_leth (fun h9 => ?_)
            refine zr_iconst (eX12_walls 49 rfl) zk_iconst_0 ?_
            refine zr_istore (ls2 := [some (.ref a0, 12), some (.int x1, 0), some (.int x2, 0), some (.int x23, 0), some (.int x27, 0), some (.int x37, 0), some (.int 0, 0)]) (eX12_walls 50 rfl) (Nat.le_of_ble_eq_true rfl) rfl ?_
            refine v_jn (fun (k41 : Zh → Option (Int32 × Zh)) => ∀ (h10 : Zh), V l mX12_walls (zN h) (zS h) 0 zoI 143 [some (.ref a0, 12), some (.int x1, 0), some (.int x2, 0), some (.int x23, 0), some (.int x27, 0), some (.int x37, 0), none] [] h10 (k41 h10)) ?_ ?_
            · intro h10
              unfold gX12_walls_J5
              refine zr_iinc (ls2 := [some (.ref a0, 12), some (.int x1, 0), some (.int x2, 0), some (.int x23, 0), some (.int x27, 0), some (.int (x37 + 1), 0), none]) (eX12_walls 80 rfl) rfl (Nat.le_of_ble_eq_true rfl) zk_iconst_1 rfl ?_
              refine zr_goto (eX12_walls 81 rfl) (t := 73) (by decide) ?_
              exact v_drop [true, true, true, true, true, true, false] rfl (hk38 (x37 + 1) h10)
            intro k41 hk41
            refine v_drop [true, true, true, true, true, true, true] rfl ?_
            refine zlp_ind (fun (k43 : Int32 → Zh → Option (Int32 × Zh)) => ∀ (x42 : Int32) (h11 : Zh), V l mX12_walls (zN h) (zS h) 0 zoI 90 [some (.ref a0, 12), some (.int x1, 0), some (.int x2, 0), some (.int x23, 0), some (.int x27, 0), some (.int x37, 0), some (.int x42, 0)] [] h11 (k43 x42 h11)) ?_ ?_ 0 h9
            · exact fun _ _ => v_none
            intro k43 hk43 x42 h11
            unfold gX12_walls_L6
            refine zr_iload (eX12_walls 51 rfl) rfl ?_
            refine zr_iload_n (eX12_walls 52 rfl) rfl rfl ?_
            refine zr_icmp_ge (eX12_walls 53 rfl) (t := 143) (by decide) ?_ ?_
            · exact v_drop [true, true, true, true, true, true, false] rfl (hk41 h11)
            · refine zr_aload_n (r := (some a0)) (eX12_walls 54 rfl) rfl rfl ?_
              refine zr_getR2 zf_RX12_44 (τ2 := 21) rfl (eX12_walls 55 rfl) ?_
              refine v_letr (fun r44 => ?_)
              refine zr_iload (eX12_walls 56 rfl) rfl ?_
              refine zr_aload_n (r := (some a0)) (eX12_walls 57 rfl) rfl rfl ?_
              refine zr_getR2 zf_RX12_44 (τ2 := 21) rfl (eX12_walls 58 rfl) ?_
              refine v_letr (fun r45 => ?_)
              refine zr_iload (eX12_walls 59 rfl) rfl ?_
              refine v_nn (fun a46 ea46 => ?_)
              subst ea46
              refine zr_lald (eX12_walls 60 rfl) ?_
              refine zr_aload_n (r := (some a0)) (eX12_walls 61 rfl) rfl rfl ?_
              refine zr_getR2 zf_RX12_41 (τ2 := 21) rfl (eX12_walls 62 rfl) ?_
              refine v_letr (fun r47 => ?_)
              refine zr_iload (eX12_walls 63 rfl) rfl ?_
              refine v_nn (fun a48 ea48 => ?_)
              subst ea48
              refine zr_lald (eX12_walls 64 rfl) ?_
              refine zr_aload_n (r := (some a0)) (eX12_walls 65 rfl) rfl rfl ?_
              refine zr_iload_n (eX12_walls 66 rfl) rfl rfl ?_
              refine zr_iload_n (eX12_walls 67 rfl) rfl rfl ?_
              refine zr_iload (eX12_walls 68 rfl) rfl ?_
              refine zr_iload (eX12_walls 69 rfl) rfl ?_
              refine zr_iconst (eX12_walls 70 rfl) zk_iconst_1 ?_
              refine zr_iconst (eX12_walls 71 rfl) zk_iconst_0 ?_
              refine zr_invV_j (as := [(.int x1, 0), (.int x2, 0), (.int x42, 0), (.int x37, 0), (.int 1, 0), (.int 0, 0)]) (cX12_along_ok l h11 a0 x1 x2 x42 x37 1 0) rfl rfl ⟨by decide, by decide, by decide⟩ zcd_X12_along rfl ⟨zw_1413, zw_1415, zw_37, zw_62⟩ ⟨Nat.le_of_ble_eq_true rfl, Nat.le_of_ble_eq_true rfl⟩ rfl (Nat.le_of_ble_eq_true rfl) (eX12_walls 72 rfl) (fun x49 => ?_)
              refine zr_invS_j (as := [(.long x49, 0)]) (cX12_restBy_ok l h11 x49) rfl zcd_X12_restBy ⟨zw_1433, zw_1434, zw_62⟩ ⟨Nat.le_of_ble_eq_true rfl, Nat.le_of_ble_eq_true rfl⟩ rfl (Nat.le_of_ble_eq_true rfl) (eX12_walls 73 rfl) (fun x50 => ?_)
              refine zr_lmul (eX12_walls 74 rfl) ?_
              refine zr_ladd (eX12_walls 75 rfl) ?_
              refine zr_invS_j (as := [(.long ((zJ h11 a46 (zx x37)) + ((zJ h11 a48 (zx x42)) * x50)), 0)]) (cX12_restBy_ok l h11 ((zJ h11 a46 (zx x37)) + ((zJ h11 a48 (zx x42)) * x50))) rfl zcd_X12_restBy ⟨zw_1433, zw_1434, zw_62⟩ ⟨Nat.le_of_ble_eq_true rfl, Nat.le_of_ble_eq_true rfl⟩ rfl (Nat.le_of_ble_eq_true rfl) (eX12_walls 76 rfl) (fun x51 => ?_)
              refine v_nn (fun a52 ea52 => ?_)
              subst ea52
              refine zr_last (eX12_walls 77 rfl) ?_
              refine v_leth (fun h12 => ?_)
              refine zr_iinc (ls2 := [some (.ref a0, 12), some (.int x1, 0), some (.int x2, 0), some (.int x23, 0), some (.int x27, 0), some (.int x37, 0), some (.int (x42 + 1), 0)]) (eX12_walls 78 rfl) rfl (Nat.le_of_ble_eq_true rfl) zk_iconst_1 rfl ?_
              refine zr_goto (eX12_walls 79 rfl) (t := 90) (by decide) ?_
              exact v_drop [true, true, true, true, true, true, true] rfl (hk43 (x42 + 1) h12)
      intro k53 hk53
      refine v_drop [true, true, true, true, true, false, false] rfl ?_
      refine zlp_ind (fun (k55 : Int32 → Zh → Option (Int32 × Zh)) => ∀ (x54 : Int32) (h13 : Zh), V l mX12_walls (zN h) (zS h) 0 zoI 32 [some (.ref a0, 12), some (.int x1, 0), some (.int x2, 0), some (.int x23, 0), some (.int x54, 0), none, none] [] h13 (k55 x54 h13)) ?_ ?_ 0 h
      · exact fun _ _ => v_none
      intro k55 hk55 x54 h13
      unfold gX12_walls_L11
      refine zr_iload (eX12_walls 20 rfl) rfl ?_
      refine zr_iload_n (eX12_walls 21 rfl) rfl rfl ?_
      refine zr_icmp_ge (eX12_walls 22 rfl) (t := 61) (by decide) ?_ ?_
      · exact v_drop [true, true, true, true, false, false, false] rfl (hk53 h13)
      · refine zr_aload_n (r := (some a0)) (eX12_walls 23 rfl) rfl rfl ?_
        refine zr_getR2 zf_RX12_41 (τ2 := 21) rfl (eX12_walls 24 rfl) ?_
        refine v_letr (fun r56 => ?_)
        refine zr_iload (eX12_walls 25 rfl) rfl ?_
        refine zr_iload (eX12_walls 26 rfl) rfl ?_
        refine v_jn (fun (k59 : Int64 → Option (Int32 × Zh)) => ∀ (x57 : Int64), V l mX12_walls (zN h) (zS h) 0 zoI 54 [some (.ref a0, 12), some (.int x1, 0), some (.int x2, 0), some (.int x23, 0), some (.int x54, 0), none, none] [(.long x57, 0), (.int x54, 0), (va_rf r56, 21)] h13 (k59 x57)) ?_ ?_
        · intro x57
          unfold gX12_walls_J10
          refine v_nn (fun a58 ea58 => ?_)
          subst ea58
          refine zr_last (eX12_walls 31 rfl) ?_
          refine v_leth (fun h14 => ?_)
          refine zr_iinc (ls2 := [some (.ref a0, 12), some (.int x1, 0), some (.int x2, 0), some (.int x23, 0), some (.int (x54 + 1), 0), none, none]) (eX12_walls 32 rfl) rfl (Nat.le_of_ble_eq_true rfl) zk_iconst_1 rfl ?_
          refine zr_goto (eX12_walls 33 rfl) (t := 32) (by decide) ?_
          exact v_drop [true, true, true, true, true, false, false] rfl (hk55 (x54 + 1) h14)
        intro k59 hk59
        refine zr_if_ne (eX12_walls 27 rfl) (t := 53) (by decide) ?_ ?_
        · refine zr_lconst (eX12_walls 30 rfl) zk_lconst_0 ?_
          exact v_drop [true, true, true, true, true, false, false] rfl (hk59 0)
        · refine zr_lconst (eX12_walls 28 rfl) zk_lconst_1 ?_
          refine zr_goto (eX12_walls 29 rfl) (t := 54) (by decide) ?_
          exact v_drop [true, true, true, true, true, false, false] rfl (hk59 1)
    · refine zr_bipush (eX12_walls 12 rfl) zk_bipush_m2 ?_
      exact zr_iret rfl rfl (eX12_walls 13 rfl)
  · refine zr_iconst (eX12_walls 4 rfl) zk_iconst_m1 ?_
    exact zr_iret rfl rfl (eX12_walls 5 rfl)
def gX12_goOn_L1 (a0 : Nat) : (Int32 → Zh → Option (Zh)) → Int32 → Zh → Option (Zh) :=
  fun (k22 : Int32 → Zh → Option (Zh)) (x21 : Int32) (h3 : Zh) => (if (8 : Int32) ≤ x21 then some h3
  else zlt (zR h3 a0 26) (fun r23 => zlt (zR h3 a0 27) (fun r24 => Option.bind r24 (fun a25 => zg (zin x21 (zL h3 a25)) (Option.bind r23 (fun a26 => zg (zin x21 (zL h3 a26)) (zlt (zsJ h3 a26 (zx x21) (zJ h3 a25 (zx x21))) (fun (h4 : Zh) => k22 (x21 + 1) h4))))))))
def gX12_goOn_J2 (a0 : Nat) : Zh → Option (Zh) :=
  fun (h2 : Zh) => zlp (fun (_ : Int32) (_ : Zh) => (none : Option (Zh))) (gX12_goOn_L1 a0) zFU 0 h2
def gX12_goOn_J3 (x28 : Int32) (k29 : Int32 → Zh → Option (Zh)) : Zh → Option (Zh) :=
  fun (h6 : Zh) => k29 (x28 + 1) h6
def gX12_goOn_L4 (a0 : Nat) (x1 : Int32) (x2 : Int32) (x3 : Int32) (x28 : Int32) (k30 : Zh → Option (Zh)) : (Int32 → Zh → Option (Zh)) → Int32 → Zh → Option (Zh) :=
  fun (k32 : Int32 → Zh → Option (Zh)) (x31 : Int32) (h7 : Zh) => (if (4 : Int32) ≤ x31 then k30 h7
  else zlt (zR h7 a0 26) (fun r33 => Option.bind r33 (fun a34 => zg (zin x28 (zL h7 a34)) ((if ((lg_cmp (zJ h7 a34 (zx x28)) 0) : Int32) = 0 then k30 h7
  else zlt (x31 &&& 1) (fun x35 => zlt (x31 >>> ((1 : Int32) &&& 31)) (fun x36 => zlt ((((x28 &&& (((1 : Int32) <<< (x2 &&& 31)) ^^^ (-1))) &&& (((1 : Int32) <<< (x3 &&& 31)) ^^^ (-1))) ||| (x35 <<< (x2 &&& 31))) ||| (x36 <<< (x3 &&& 31))) (fun x37 => zlt (zR h7 a0 27) (fun r38 => Option.bind r38 (fun a39 => zg (zin x37 (zL h7 a39)) (zlt (zR h7 a0 26) (fun r40 => Option.bind r40 (fun a41 => zg (zin x28 (zL h7 a41)) (zbi (gX12_crossing h7 a0 x1 ((x28 >>> (x2 &&& 31)) &&& 1) ((x28 >>> (x3 &&& 31)) &&& 1) x35 x36) (fun x42 => zg (zin x37 (zL h7 a39)) (zlt (zsJ h7 a39 (zx x37) ((zJ h7 a39 (zx x37)) + ((zJ h7 a41 (zx x28)) * ((x42 : Int32).toInt64)))) (fun (h8 : Zh) => k32 (x31 + 1) h8)))))))))))))))))
def gX12_goOn_L5 (a0 : Nat) (x1 : Int32) (x2 : Int32) (x3 : Int32) (k27 : Zh → Option (Zh)) : (Int32 → Zh → Option (Zh)) → Int32 → Zh → Option (Zh) :=
  fun (k29 : Int32 → Zh → Option (Zh)) (x28 : Int32) (h5 : Zh) => (if (8 : Int32) ≤ x28 then k27 h5
  else zjn (gX12_goOn_J3 x28 k29) (fun (k30 : Zh → Option (Zh)) =>
  zlp (fun (_ : Int32) (_ : Zh) => (none : Option (Zh))) (gX12_goOn_L4 a0 x1 x2 x3 x28 k30) zFU 0 h5))
def gX12_goOn_J6 (a0 : Nat) (x1 : Int32) (x2 : Int32) (x3 : Int32) : Zh → Option (Zh) :=
  fun (h1 : Zh) => zjn (gX12_goOn_J2 a0) (fun (k27 : Zh → Option (Zh)) =>
  zlp (fun (_ : Int32) (_ : Zh) => (none : Option (Zh))) (gX12_goOn_L5 a0 x1 x2 x3 k27) zFU 0 h1)
def gX12_goOn_L7 (a0 : Nat) (k43 : Zh → Option (Zh)) : (Int32 → Zh → Option (Zh)) → Int32 → Zh → Option (Zh) :=
  fun (k45 : Int32 → Zh → Option (Zh)) (x44 : Int32) (h9 : Zh) => (if (8 : Int32) ≤ x44 then k43 h9
  else zlt (zR h9 a0 27) (fun r46 => Option.bind r46 (fun a47 => zg (zin x44 (zL h9 a47)) (zlt (zsJ h9 a47 (zx x44) 0) (fun (h10 : Zh) => k45 (x44 + 1) h10)))))
def gX12_goOn (h : Zh) (a0 : Nat) (x1 : Int32) (x2 : Int32) (x3 : Int32) : Option (Zh) :=
  zjn (gX12_goOn_J6 a0 x1 x2 x3) (fun (k43 : Zh → Option (Zh)) =>
  zlp (fun (_ : Int32) (_ : Zh) => (none : Option (Zh))) (gX12_goOn_L7 a0 k43) zFU 0 h)
set_option maxRecDepth 20000 in
theorem cX12_goOn_ok (l : Launch) (h : Zh) (a0 : Nat) (x1 : Int32) (x2 : Int32) (x3 : Int32) : Zc l yX12_goOn mX12_goOn 0 h [(.ref a0, 12), (.int x1, 0), (.int x2, 0), (.int x3, 0)] ((gX12_goOn h a0 x1 x2 x3).map zoV) := by
  refine zc_of2 (ls := [some (.ref a0, 12), some (.int x1, 0), some (.int x2, 0), some (.int x3, 0), none, none, none, none, none]) (j := 5) (by decide +kernel) rfl rfl (zEn_ca (zEn_ci (zEn_ci (zEn_ci rfl)))) (Nat.le_of_ble_eq_true rfl) rfl ?_
  unfold gX12_goOn
  refine zr_iconst (eX12_goOn 0 rfl) zk_iconst_0 ?_
  refine zr_istore (ls2 := [some (.ref a0, 12), some (.int x1, 0), some (.int x2, 0), some (.int x3, 0), some (.int 0, 0), none, none, none, none]) (eX12_goOn 1 rfl) (Nat.le_of_ble_eq_true rfl) rfl ?_
  refine v_jn (fun (k43 : Zh → Option (Zh)) => ∀ (h1 : Zh), V l mX12_goOn (zN h) (zS h) 0 zoV 24 [some (.ref a0, 12), some (.int x1, 0), some (.int x2, 0), some (.int x3, 0), none, none, none, none, none] [] h1 (k43 h1)) ?_ ?_
  · intro h1
    unfold gX12_goOn_J6
    refine zr_iconst (eX12_goOn 12 rfl) zk_iconst_0 ?_
    refine zr_istore (ls2 := [some (.ref a0, 12), some (.int x1, 0), some (.int x2, 0), some (.int x3, 0), some (.int 0, 0), none, none, none, none]) (eX12_goOn 13 rfl) (Nat.le_of_ble_eq_true rfl) rfl ?_
    refine v_jn (fun (k27 : Zh → Option (Zh)) => ∀ (h2 : Zh), V l mX12_goOn (zN h) (zS h) 0 zoV 145 [some (.ref a0, 12), none, none, none, none, none, none, none, none] [] h2 (k27 h2)) ?_ ?_
    · intro h2
      unfold gX12_goOn_J2
      refine zr_iconst (eX12_goOn 91 rfl) zk_iconst_0 ?_
      refine zr_istore (ls2 := [some (.ref a0, 12), none, none, none, some (.int 0, 0), none, none, none, none]) (eX12_goOn 92 rfl) (Nat.le_of_ble_eq_true rfl) rfl ?_
      refine v_drop [true, false, false, false, true, false, false, false, false] rfl ?_
      refine zlp_ind (fun (k22 : Int32 → Zh → Option (Zh)) => ∀ (x21 : Int32) (h3 : Zh), V l mX12_goOn (zN h) (zS h) 0 zoV 148 [some (.ref a0, 12), none, none, none, some (.int x21, 0), none, none, none, none] [] h3 (k22 x21 h3)) ?_ ?_ 0 h2
      · exact fun _ _ => v_none
      intro k22 hk22 x21 h3
      unfold gX12_goOn_L1
      refine zr_iload (eX12_goOn 93 rfl) rfl ?_
      refine zr_bipush (eX12_goOn 94 rfl) zk_bipush_8 ?_
      refine zr_icmp_ge (eX12_goOn 95 rfl) (t := 175) (by decide) ?_ ?_
      · exact zr_vret rfl rfl (eX12_goOn 106 rfl)
      · refine zr_aload_n (r := (some a0)) (eX12_goOn 96 rfl) rfl rfl ?_
        refine zr_getR2 zf_RX12_68 (τ2 := 21) rfl (eX12_goOn 97 rfl) ?_
        refine v_letr (fun r23 => ?_)
        refine zr_iload (eX12_goOn 98 rfl) rfl ?_
        refine zr_aload_n (r := (some a0)) (eX12_goOn 99 rfl) rfl rfl ?_
        refine zr_getR2 zf_RX12_71 (τ2 := 21) rfl (eX12_goOn 100 rfl) ?_
        refine v_letr (fun r24 => ?_)
        refine zr_iload (eX12_goOn 101 rfl) rfl ?_
        refine v_nn (fun a25 ea25 => ?_)
        subst ea25
        refine zr_lald (eX12_goOn 102 rfl) ?_
        refine v_nn (fun a26 ea26 => ?_)
        subst ea26
        refine zr_last (eX12_goOn 103 rfl) ?_
        refine v_leth (fun h4 => ?_)
        refine zr_iinc (ls2 := [some (.ref a0, 12), none, none, none, some (.int (x21 + 1), 0), none, none, none, none]) (eX12_goOn 104 rfl) rfl (Nat.le_of_ble_eq_true rfl) zk_iconst_1 rfl ?_
        refine zr_goto (eX12_goOn 105 rfl) (t := 148) (by decide) ?_
        exact v_drop [true, false, false, false, true, false, false, false, false] rfl (hk22 (x21 + 1) h4)
    intro k27 hk27
    refine v_drop [true, true, true, true, true, false, false, false, false] rfl ?_
    refine zlp_ind (fun (k29 : Int32 → Zh → Option (Zh)) => ∀ (x28 : Int32) (h5 : Zh), V l mX12_goOn (zN h) (zS h) 0 zoV 27 [some (.ref a0, 12), some (.int x1, 0), some (.int x2, 0), some (.int x3, 0), some (.int x28, 0), none, none, none, none] [] h5 (k29 x28 h5)) ?_ ?_ 0 h1
    · exact fun _ _ => v_none
    intro k29 hk29 x28 h5
    unfold gX12_goOn_L5
    refine zr_iload (eX12_goOn 14 rfl) rfl ?_
    refine zr_bipush (eX12_goOn 15 rfl) zk_bipush_8 ?_
    refine zr_icmp_ge (eX12_goOn 16 rfl) (t := 145) (by decide) ?_ ?_
    · exact v_drop [true, false, false, false, false, false, false, false, false] rfl (hk27 h5)
    · refine zr_iconst (eX12_goOn 17 rfl) zk_iconst_0 ?_
      refine zr_istore (ls2 := [some (.ref a0, 12), some (.int x1, 0), some (.int x2, 0), some (.int x3, 0), some (.int x28, 0), some (.int 0, 0), none, none, none]) (eX12_goOn 18 rfl) (Nat.le_of_ble_eq_true rfl) rfl ?_
      refine v_jn (fun (k30 : Zh → Option (Zh)) => ∀ (h6 : Zh), V l mX12_goOn (zN h) (zS h) 0 zoV 139 [some (.ref a0, 12), some (.int x1, 0), some (.int x2, 0), some (.int x3, 0), some (.int x28, 0), none, none, none, none] [] h6 (k30 h6)) ?_ ?_
      · intro h6
        unfold gX12_goOn_J3
        refine zr_iinc (ls2 := [some (.ref a0, 12), some (.int x1, 0), some (.int x2, 0), some (.int x3, 0), some (.int (x28 + 1), 0), none, none, none, none]) (eX12_goOn 89 rfl) rfl (Nat.le_of_ble_eq_true rfl) zk_iconst_1 rfl ?_
        refine zr_goto (eX12_goOn 90 rfl) (t := 27) (by decide) ?_
        exact v_drop [true, true, true, true, true, false, false, false, false] rfl (hk29 (x28 + 1) h6)
      intro k30 hk30
      refine v_drop [true, true, true, true, true, true, false, false, false] rfl ?_
      refine zlp_ind (fun (k32 : Int32 → Zh → Option (Zh)) => ∀ (x31 : Int32) (h7 : Zh), V l mX12_goOn (zN h) (zS h) 0 zoV 37 [some (.ref a0, 12), some (.int x1, 0), some (.int x2, 0), some (.int x3, 0), some (.int x28, 0), some (.int x31, 0), none, none, none] [] h7 (k32 x31 h7)) ?_ ?_ 0 h5
      · exact fun _ _ => v_none
      intro k32 hk32 x31 h7
      unfold gX12_goOn_L4
      refine zr_iload (eX12_goOn 19 rfl) rfl ?_
      refine zr_iconst (eX12_goOn 20 rfl) zk_iconst_4 ?_
      refine zr_icmp_ge (eX12_goOn 21 rfl) (t := 139) (by decide) ?_ ?_
      · exact v_drop [true, true, true, true, true, false, false, false, false] rfl (hk30 h7)
      · refine zr_aload_n (r := (some a0)) (eX12_goOn 22 rfl) rfl rfl ?_
        refine zr_getR2 zf_RX12_68 (τ2 := 21) rfl (eX12_goOn 23 rfl) ?_
        refine v_letr (fun r33 => ?_)
        refine zr_iload (eX12_goOn 24 rfl) rfl ?_
        refine v_nn (fun a34 ea34 => ?_)
        subst ea34
        refine zr_lald (eX12_goOn 25 rfl) ?_
        refine zr_lconst (eX12_goOn 26 rfl) zk_lconst_0 ?_
        refine zr_lcmp (eX12_goOn 27 rfl) ?_
        refine zr_if_eq (eX12_goOn 28 rfl) (t := 139) (by decide) ?_ ?_
        · exact v_drop [true, true, true, true, true, false, false, false, false] rfl (hk30 h7)
        · refine zr_iload (eX12_goOn 29 rfl) rfl ?_
          refine zr_iconst (eX12_goOn 30 rfl) zk_iconst_1 ?_
          refine zr_iand (eX12_goOn 31 rfl) ?_
          refine v_leti (fun x35 => ?_)
          refine zr_istore (ls2 := [some (.ref a0, 12), some (.int x1, 0), some (.int x2, 0), some (.int x3, 0), some (.int x28, 0), some (.int x31, 0), some (.int x35, 0), none, none]) (eX12_goOn 32 rfl) (Nat.le_of_ble_eq_true rfl) rfl ?_
          refine zr_iload (eX12_goOn 33 rfl) rfl ?_
          refine zr_iconst (eX12_goOn 34 rfl) zk_iconst_1 ?_
          refine zr_ishr (eX12_goOn 35 rfl) ?_
          refine v_leti (fun x36 => ?_)
          refine zr_istore (ls2 := [some (.ref a0, 12), some (.int x1, 0), some (.int x2, 0), some (.int x3, 0), some (.int x28, 0), some (.int x31, 0), some (.int x35, 0), some (.int x36, 0), none]) (eX12_goOn 36 rfl) (Nat.le_of_ble_eq_true rfl) rfl ?_
          refine zr_iload (eX12_goOn 37 rfl) rfl ?_
          refine zr_iconst (eX12_goOn 38 rfl) zk_iconst_1 ?_
          refine zr_iload_n (eX12_goOn 39 rfl) rfl rfl ?_
          refine zr_ishl (eX12_goOn 40 rfl) ?_
          refine zr_iconst (eX12_goOn 41 rfl) zk_iconst_m1 ?_
          refine zr_ixor (eX12_goOn 42 rfl) ?_
          refine zr_iand (eX12_goOn 43 rfl) ?_
          refine zr_iconst (eX12_goOn 44 rfl) zk_iconst_1 ?_
          refine zr_iload_n (eX12_goOn 45 rfl) rfl rfl ?_
          refine zr_ishl (eX12_goOn 46 rfl) ?_
          refine zr_iconst (eX12_goOn 47 rfl) zk_iconst_m1 ?_
          refine zr_ixor (eX12_goOn 48 rfl) ?_
          refine zr_iand (eX12_goOn 49 rfl) ?_
          refine zr_iload (eX12_goOn 50 rfl) rfl ?_
          refine zr_iload_n (eX12_goOn 51 rfl) rfl rfl ?_
          refine zr_ishl (eX12_goOn 52 rfl) ?_
          refine zr_ior (eX12_goOn 53 rfl) ?_
          refine zr_iload (eX12_goOn 54 rfl) rfl ?_
          refine zr_iload_n (eX12_goOn 55 rfl) rfl rfl ?_
          refine zr_ishl (eX12_goOn 56 rfl) ?_
          refine zr_ior (eX12_goOn 57 rfl) ?_
          refine v_leti (fun x37 => ?_)
          refine zr_istore (ls2 := [some (.ref a0, 12), some (.int x1, 0), some (.int x2, 0), some (.int x3, 0), some (.int x28, 0), some (.int x31, 0), some (.int x35, 0), some (.int x36, 0), some (.int x37, 0)]) (eX12_goOn 58 rfl) (Nat.le_of_ble_eq_true rfl) rfl ?_
          refine zr_aload_n (r := (some a0)) (eX12_goOn 59 rfl) rfl rfl ?_
          refine zr_getR2 zf_RX12_71 (τ2 := 21) rfl (eX12_goOn 60 rfl) ?_
          refine v_letr (fun r38 => ?_)
          refine zr_iload (eX12_goOn 61 rfl) rfl ?_
          refine v_nn (fun a39 ea39 => ?_)
          subst ea39
          refine zr_dup2 (eX12_goOn 62 rfl) rfl rfl ?_
          refine zr_lald (eX12_goOn 63 rfl) ?_
          refine zr_aload_n (r := (some a0)) (eX12_goOn 64 rfl) rfl rfl ?_
          refine zr_getR2 zf_RX12_68 (τ2 := 21) rfl (eX12_goOn 65 rfl) ?_
          refine v_letr (fun r40 => ?_)
          refine zr_iload (eX12_goOn 66 rfl) rfl ?_
          refine v_nn (fun a41 ea41 => ?_)
          subst ea41
          refine zr_lald (eX12_goOn 67 rfl) ?_
          refine zr_aload_n (r := (some a0)) (eX12_goOn 68 rfl) rfl rfl ?_
          refine zr_iload_n (eX12_goOn 69 rfl) rfl rfl ?_
          refine zr_iload (eX12_goOn 70 rfl) rfl ?_
          refine zr_iload_n (eX12_goOn 71 rfl) rfl rfl ?_
          refine zr_ishr (eX12_goOn 72 rfl) ?_
          refine zr_iconst (eX12_goOn 73 rfl) zk_iconst_1 ?_
          refine zr_iand (eX12_goOn 74 rfl) ?_
          refine zr_iload (eX12_goOn 75 rfl) rfl ?_
          refine zr_iload_n (eX12_goOn 76 rfl) rfl rfl ?_
          refine zr_ishr (eX12_goOn 77 rfl) ?_
          refine zr_iconst (eX12_goOn 78 rfl) zk_iconst_1 ?_
          refine zr_iand (eX12_goOn 79 rfl) ?_
          refine zr_iload (eX12_goOn 80 rfl) rfl ?_
          refine zr_iload (eX12_goOn 81 rfl) rfl ?_
          refine zr_invV_i (as := [(.int x1, 0), (.int ((x28 >>> (x2 &&& 31)) &&& 1), 0), (.int ((x28 >>> (x3 &&& 31)) &&& 1), 0), (.int x35, 0), (.int x36, 0)]) (cX12_crossing_ok l h7 a0 x1 ((x28 >>> (x2 &&& 31)) &&& 1) ((x28 >>> (x3 &&& 31)) &&& 1) x35 x36) rfl rfl ⟨by decide, by decide, by decide⟩ zcd_X12_crossing rfl ⟨zw_1417, zw_1419, zw_38, zw_62⟩ ⟨Nat.le_of_ble_eq_true rfl, Nat.le_of_ble_eq_true rfl⟩ rfl (Nat.le_of_ble_eq_true rfl) (eX12_goOn 82 rfl) (fun x42 => ?_)
          refine zr_i2l (eX12_goOn 83 rfl) ?_
          refine zr_lmul (eX12_goOn 84 rfl) ?_
          refine zr_ladd (eX12_goOn 85 rfl) ?_
          refine zr_last (eX12_goOn 86 rfl) ?_
          refine v_leth (fun h8 => ?_)
          refine zr_iinc (ls2 := [some (.ref a0, 12), some (.int x1, 0), some (.int x2, 0), some (.int x3, 0), some (.int x28, 0), some (.int (x31 + 1), 0), some (.int x35, 0), some (.int x36, 0), some (.int x37, 0)]) (eX12_goOn 87 rfl) rfl (Nat.le_of_ble_eq_true rfl) zk_iconst_1 rfl ?_
          refine zr_goto (eX12_goOn 88 rfl) (t := 37) (by decide) ?_
          exact v_drop [true, true, true, true, true, true, false, false, false] rfl (hk32 (x31 + 1) h8)
  intro k43 hk43
  refine v_drop [true, true, true, true, true, false, false, false, false] rfl ?_
  refine zlp_ind (fun (k45 : Int32 → Zh → Option (Zh)) => ∀ (x44 : Int32) (h9 : Zh), V l mX12_goOn (zN h) (zS h) 0 zoV 3 [some (.ref a0, 12), some (.int x1, 0), some (.int x2, 0), some (.int x3, 0), some (.int x44, 0), none, none, none, none] [] h9 (k45 x44 h9)) ?_ ?_ 0 h
  · exact fun _ _ => v_none
  intro k45 hk45 x44 h9
  unfold gX12_goOn_L7
  refine zr_iload (eX12_goOn 2 rfl) rfl ?_
  refine zr_bipush (eX12_goOn 3 rfl) zk_bipush_8 ?_
  refine zr_icmp_ge (eX12_goOn 4 rfl) (t := 24) (by decide) ?_ ?_
  · exact v_drop [true, true, true, true, false, false, false, false, false] rfl (hk43 h9)
  · refine zr_aload_n (r := (some a0)) (eX12_goOn 5 rfl) rfl rfl ?_
    refine zr_getR2 zf_RX12_71 (τ2 := 21) rfl (eX12_goOn 6 rfl) ?_
    refine v_letr (fun r46 => ?_)
    refine zr_iload (eX12_goOn 7 rfl) rfl ?_
    refine zr_lconst (eX12_goOn 8 rfl) zk_lconst_0 ?_
    refine v_nn (fun a47 ea47 => ?_)
    subst ea47
    refine zr_last (eX12_goOn 9 rfl) ?_
    refine v_leth (fun h10 => ?_)
    refine zr_iinc (ls2 := [some (.ref a0, 12), some (.int x1, 0), some (.int x2, 0), some (.int x3, 0), some (.int (x44 + 1), 0), none, none, none, none]) (eX12_goOn 10 rfl) rfl (Nat.le_of_ble_eq_true rfl) zk_iconst_1 rfl ?_
    refine zr_goto (eX12_goOn 11 rfl) (t := 3) (by decide) ?_
    exact v_drop [true, true, true, true, true, false, false, false, false] rfl (hk45 (x44 + 1) h10)
def gX12_startThree_J1 (x21 : Int32) (h1 : Zh) (k22 : Int32 → Zh → Option (Zh)) (r23 : Option Nat) : Int64 → Option (Zh) :=
  fun (x24 : Int64) => Option.bind r23 (fun a25 => zg (zin x21 (zL h1 a25)) (zlt (zsJ h1 a25 (zx x21) x24) (fun (h2 : Zh) => k22 (x21 + 1) h2)))
def gX12_startThree_L2 (a0 : Nat) (x1 : Int32) : (Int32 → Zh → Option (Zh)) → Int32 → Zh → Option (Zh) :=
  fun (k22 : Int32 → Zh → Option (Zh)) (x21 : Int32) (h1 : Zh) => (if (8 : Int32) ≤ x21 then some h1
  else zlt (zR h1 a0 26) (fun r23 => zjn (gX12_startThree_J1 x21 h1 k22 r23) (fun (k26 : Int64 → Option (Zh)) =>
  (if (x21 : Int32) = x1 then k26 1
  else k26 0))))
def gX12_startThree (h : Zh) (a0 : Nat) (x1 : Int32) : Option (Zh) :=
  zlp (fun (_ : Int32) (_ : Zh) => (none : Option (Zh))) (gX12_startThree_L2 a0 x1) zFU 0 h
set_option maxRecDepth 20000 in
theorem cX12_startThree_ok (l : Launch) (h : Zh) (a0 : Nat) (x1 : Int32) : Zc l yX12_startThree mX12_startThree 0 h [(.ref a0, 12), (.int x1, 0)] ((gX12_startThree h a0 x1).map zoV) := by
  refine zc_of2 (ls := [some (.ref a0, 12), some (.int x1, 0), none]) (j := 1) (by decide +kernel) rfl rfl (zEn_ca (zEn_ci rfl)) (Nat.le_of_ble_eq_true rfl) rfl ?_
  unfold gX12_startThree
  refine zr_iconst (eX12_startThree 0 rfl) zk_iconst_0 ?_
  refine zr_istore_n (ls2 := [some (.ref a0, 12), some (.int x1, 0), some (.int 0, 0)]) (eX12_startThree 1 rfl) rfl (Nat.le_of_ble_eq_true rfl) rfl ?_
  refine v_drop [true, true, true] rfl ?_
  refine zlp_ind (fun (k22 : Int32 → Zh → Option (Zh)) => ∀ (x21 : Int32) (h1 : Zh), V l mX12_startThree (zN h) (zS h) 0 zoV 2 [some (.ref a0, 12), some (.int x1, 0), some (.int x21, 0)] [] h1 (k22 x21 h1)) ?_ ?_ 0 h
  · exact fun _ _ => v_none
  intro k22 hk22 x21 h1
  unfold gX12_startThree_L2
  refine zr_iload_n (eX12_startThree 2 rfl) rfl rfl ?_
  refine zr_bipush (eX12_startThree 3 rfl) zk_bipush_8 ?_
  refine zr_icmp_ge (eX12_startThree 4 rfl) (t := 30) (by decide) ?_ ?_
  · exact zr_vret rfl rfl (eX12_startThree 17 rfl)
  · refine zr_aload_n (r := (some a0)) (eX12_startThree 5 rfl) rfl rfl ?_
    refine zr_getR2 zf_RX12_68 (τ2 := 21) rfl (eX12_startThree 6 rfl) ?_
    refine v_letr (fun r23 => ?_)
    refine zr_iload_n (eX12_startThree 7 rfl) rfl rfl ?_
    refine zr_iload_n (eX12_startThree 8 rfl) rfl rfl ?_
    refine zr_iload_n (eX12_startThree 9 rfl) rfl rfl ?_
    refine v_jn (fun (k26 : Int64 → Option (Zh)) => ∀ (x24 : Int64), V l mX12_startThree (zN h) (zS h) 0 zoV 23 [some (.ref a0, 12), some (.int x1, 0), some (.int x21, 0)] [(.long x24, 0), (.int x21, 0), (va_rf r23, 21)] h1 (k26 x24)) ?_ ?_
    · intro x24
      unfold gX12_startThree_J1
      refine v_nn (fun a25 ea25 => ?_)
      subst ea25
      refine zr_last (eX12_startThree 14 rfl) ?_
      refine v_leth (fun h2 => ?_)
      refine zr_iinc (ls2 := [some (.ref a0, 12), some (.int x1, 0), some (.int (x21 + 1), 0)]) (eX12_startThree 15 rfl) rfl (Nat.le_of_ble_eq_true rfl) zk_iconst_1 rfl ?_
      refine zr_goto (eX12_startThree 16 rfl) (t := 2) (by decide) ?_
      exact v_drop [true, true, true] rfl (hk22 (x21 + 1) h2)
    intro k26 hk26
    refine zr_icmp_ne (eX12_startThree 10 rfl) (t := 22) (by decide) ?_ ?_
    · refine zr_lconst (eX12_startThree 13 rfl) zk_lconst_0 ?_
      exact v_drop [true, true, true] rfl (hk26 0)
    · refine zr_lconst (eX12_startThree 11 rfl) zk_lconst_1 ?_
      refine zr_goto (eX12_startThree 12 rfl) (t := 23) (by decide) ?_
      exact v_drop [true, true, true] rfl (hk26 1)
def gX12_exchange_J1 (x25 : Int32) (k26 : Int32 → Int32 → Zh → Option (Int32 × Zh)) (h10 : Zh) : Int32 → Option (Int32 × Zh) :=
  fun (x27 : Int32) => k26 x27 (x25 + 1) h10
def gX12_exchange_J2 (x29 : Int32) (x30 : Int32) (k31 : Int32 → Int32 → Option (Int32 × Zh)) : Int32 → Option (Int32 × Zh) :=
  fun (x36 : Int32) => zlt (x29 + x36) (fun x37 => k31 x37 (x30 + 1))
def gX12_exchange_L3 (a0 : Nat) (h10 : Zh) (k28 : Int32 → Option (Int32 × Zh)) : (Int32 → Int32 → Option (Int32 × Zh)) → Int32 → Int32 → Option (Int32 × Zh) :=
  fun (k31 : Int32 → Int32 → Option (Int32 × Zh)) (x29 : Int32) (x30 : Int32) => (if (8 : Int32) ≤ x30 then k28 x29
  else zlt (zR h10 a0 28) (fun r32 => Option.bind r32 (fun a33 => zg (zin x30 (zL h10 a33)) (zlt (zR h10 a0 26) (fun r34 => Option.bind r34 (fun a35 => zg (zin x30 (zL h10 a35)) (zjn (gX12_exchange_J2 x29 x30 k31) (fun (k38 : Int32 → Option (Int32 × Zh)) =>
  (if ((lg_cmp (zJ h10 a33 (zx x30)) (zJ h10 a35 (zx x30))) : Int32) = 0 then k38 0
  else k38 1)))))))))
def gX12_exchange_J4 (a0 : Nat) (x1 : Int32) (x2 : Int32) (x3 : Int32) (x24 : Int32) (x25 : Int32) (k26 : Int32 → Int32 → Zh → Option (Int32 × Zh)) : Zh → Option (Int32 × Zh) :=
  fun (h6 : Zh) => zbV (gX12_startThree h6 a0 x25) (fun h7 => zbV (gX12_goOn h7 a0 x3 1 2) (fun h8 => zbV (gX12_goOn h8 a0 x2 0 2) (fun h9 => zbV (gX12_goOn h9 a0 x1 0 1) (fun h10 => zjn (gX12_exchange_J1 x25 k26 h10) (fun (k28 : Int32 → Option (Int32 × Zh)) =>
  zlp (fun (_ : Int32) (_ : Int32) => (none : Option (Int32 × Zh))) (gX12_exchange_L3 a0 h10 k28) zFU x24 0)))))
def gX12_exchange_L5 (a0 : Nat) (k39 : Zh → Option (Int32 × Zh)) : (Int32 → Zh → Option (Int32 × Zh)) → Int32 → Zh → Option (Int32 × Zh) :=
  fun (k41 : Int32 → Zh → Option (Int32 × Zh)) (x40 : Int32) (h11 : Zh) => (if (8 : Int32) ≤ x40 then k39 h11
  else zlt (zR h11 a0 28) (fun r42 => zlt (zR h11 a0 26) (fun r43 => Option.bind r43 (fun a44 => zg (zin x40 (zL h11 a44)) (Option.bind r42 (fun a45 => zg (zin x40 (zL h11 a45)) (zlt (zsJ h11 a45 (zx x40) (zJ h11 a44 (zx x40))) (fun (h12 : Zh) => k41 (x40 + 1) h12))))))))
def gX12_exchange_L6 (a0 : Nat) (x1 : Int32) (x2 : Int32) (x3 : Int32) : (Int32 → Int32 → Zh → Option (Int32 × Zh)) → Int32 → Int32 → Zh → Option (Int32 × Zh) :=
  fun (k26 : Int32 → Int32 → Zh → Option (Int32 × Zh)) (x24 : Int32) (x25 : Int32) (h1 : Zh) => (if (8 : Int32) ≤ x25 then (some (x24, h1))
  else zbV (gX12_startThree h1 a0 x25) (fun h2 => zbV (gX12_goOn h2 a0 x1 0 1) (fun h3 => zbV (gX12_goOn h3 a0 x2 0 2) (fun h4 => zbV (gX12_goOn h4 a0 x3 1 2) (fun h5 => zjn (gX12_exchange_J4 a0 x1 x2 x3 x24 x25 k26) (fun (k39 : Zh → Option (Int32 × Zh)) =>
  zlp (fun (_ : Int32) (_ : Zh) => (none : Option (Int32 × Zh))) (gX12_exchange_L5 a0 k39) zFU 0 h5))))))
def gX12_exchange (h : Zh) (a0 : Nat) (x1 : Int32) (x2 : Int32) (x3 : Int32) : Option (Int32 × Zh) :=
  zbi (gX12_noWeights h a0 x1) (fun x21 => (if (x21 : Int32) = 0 then zbi (gX12_noWeights h a0 x2) (fun x22 => (if (x22 : Int32) = 0 then zbi (gX12_noWeights h a0 x3) (fun x23 => (if (x23 : Int32) = 0 then zlp (fun (_ : Int32) (_ : Int32) (_ : Zh) => (none : Option (Int32 × Zh))) (gX12_exchange_L6 a0 x1 x2 x3) zFU 0 0 h
  else (some ((-1), h))))
  else (some ((-1), h))))
  else (some ((-1), h))))
set_option maxRecDepth 20000 in
theorem cX12_exchange_ok (l : Launch) (h : Zh) (a0 : Nat) (x1 : Int32) (x2 : Int32) (x3 : Int32) : Zc l yX12_exchange mX12_exchange 0 h [(.ref a0, 12), (.int x1, 0), (.int x2, 0), (.int x3, 0)] ((gX12_exchange h a0 x1 x2 x3).map zoI) := by
  refine zc_of2 (ls := [some (.ref a0, 12), some (.int x1, 0), some (.int x2, 0), some (.int x3, 0), none, none, none]) (j := 3) (by decide +kernel) rfl rfl (zEn_ca (zEn_ci (zEn_ci (zEn_ci rfl)))) (Nat.le_of_ble_eq_true rfl) rfl ?_
  unfold gX12_exchange
  refine zr_aload_n (r := (some a0)) (eX12_exchange 0 rfl) rfl rfl ?_
  refine zr_iload_n (eX12_exchange 1 rfl) rfl rfl ?_
  refine zr_invV_i (as := [(.int x1, 0)]) (cX12_noWeights_ok l h a0 x1) rfl rfl ⟨by decide, by decide, by decide⟩ zcd_X12_noWeights rfl ⟨zw_1400, zw_1402, zw_35, zw_62⟩ ⟨Nat.le_of_ble_eq_true rfl, Nat.le_of_ble_eq_true rfl⟩ rfl (Nat.le_of_ble_eq_true rfl) (eX12_exchange 2 rfl) (fun x21 => ?_)
  refine zr_if_ne (eX12_exchange 3 rfl) (t := 24) (by decide) ?_ ?_
  · refine zr_iconst (eX12_exchange 12 rfl) zk_iconst_m1 ?_
    exact zr_iret rfl rfl (eX12_exchange 13 rfl)
  · refine zr_aload_n (r := (some a0)) (eX12_exchange 4 rfl) rfl rfl ?_
    refine zr_iload_n (eX12_exchange 5 rfl) rfl rfl ?_
    refine zr_invV_i (as := [(.int x2, 0)]) (cX12_noWeights_ok l h a0 x2) rfl rfl ⟨by decide, by decide, by decide⟩ zcd_X12_noWeights rfl ⟨zw_1400, zw_1402, zw_35, zw_62⟩ ⟨Nat.le_of_ble_eq_true rfl, Nat.le_of_ble_eq_true rfl⟩ rfl (Nat.le_of_ble_eq_true rfl) (eX12_exchange 6 rfl) (fun x22 => ?_)
    refine zr_if_ne (eX12_exchange 7 rfl) (t := 24) (by decide) ?_ ?_
    · refine zr_iconst (eX12_exchange 12 rfl) zk_iconst_m1 ?_
      exact zr_iret rfl rfl (eX12_exchange 13 rfl)
    · refine zr_aload_n (r := (some a0)) (eX12_exchange 8 rfl) rfl rfl ?_
      refine zr_iload_n (eX12_exchange 9 rfl) rfl rfl ?_
      refine zr_invV_i (as := [(.int x3, 0)]) (cX12_noWeights_ok l h a0 x3) rfl rfl ⟨by decide, by decide, by decide⟩ zcd_X12_noWeights rfl ⟨zw_1400, zw_1402, zw_35, zw_62⟩ ⟨Nat.le_of_ble_eq_true rfl, Nat.le_of_ble_eq_true rfl⟩ rfl (Nat.le_of_ble_eq_true rfl) (eX12_exchange 10 rfl) (fun x23 => ?_)
      refine zr_if_eq (eX12_exchange 11 rfl) (t := 26) (by decide) ?_ ?_
      · refine zr_iconst (eX12_exchange 14 rfl) zk_iconst_0 ?_
        refine zr_istore (ls2 := [some (.ref a0, 12), some (.int x1, 0), some (.int x2, 0), some (.int x3, 0), some (.int 0, 0), none, none]) (eX12_exchange 15 rfl) (Nat.le_of_ble_eq_true rfl) rfl ?_
        refine zr_iconst (eX12_exchange 16 rfl) zk_iconst_0 ?_
        refine zr_istore (ls2 := [some (.ref a0, 12), some (.int x1, 0), some (.int x2, 0), some (.int x3, 0), some (.int 0, 0), some (.int 0, 0), none]) (eX12_exchange 17 rfl) (Nat.le_of_ble_eq_true rfl) rfl ?_
        refine v_drop [true, true, true, true, true, true, false] rfl ?_
        refine zlp_ind (fun (k26 : Int32 → Int32 → Zh → Option (Int32 × Zh)) => ∀ (x24 : Int32) (x25 : Int32) (h1 : Zh), V l mX12_exchange (zN h) (zS h) 0 zoI 32 [some (.ref a0, 12), some (.int x1, 0), some (.int x2, 0), some (.int x3, 0), some (.int x24, 0), some (.int x25, 0), none] [] h1 (k26 x24 x25 h1)) ?_ ?_ 0 0 h
        · exact fun _ _ _ => v_none
        intro k26 hk26 x24 x25 h1
        unfold gX12_exchange_L6
        refine zr_iload (eX12_exchange 18 rfl) rfl ?_
        refine zr_bipush (eX12_exchange 19 rfl) zk_bipush_8 ?_
        refine zr_icmp_ge (eX12_exchange 20 rfl) (t := 173) (by decide) ?_ ?_
        · refine zr_iload (eX12_exchange 97 rfl) rfl ?_
          exact zr_iret rfl rfl (eX12_exchange 98 rfl)
        · refine zr_aload_n (r := (some a0)) (eX12_exchange 21 rfl) rfl rfl ?_
          refine zr_iload (eX12_exchange 22 rfl) rfl ?_
          refine zr_invV_V (as := [(.int x25, 0)]) (cX12_startThree_ok l h1 a0 x25) rfl rfl ⟨by decide, by decide, by decide⟩ zcd_X12_startThree rfl ⟨zw_1445, zw_1447, zw_40, zw_62⟩ ⟨Nat.le_of_ble_eq_true rfl, Nat.le_of_ble_eq_true rfl⟩ rfl (Nat.le_of_ble_eq_true rfl) (eX12_exchange 23 rfl) (fun h2 => ?_)
          refine zr_aload_n (r := (some a0)) (eX12_exchange 24 rfl) rfl rfl ?_
          refine zr_iload_n (eX12_exchange 25 rfl) rfl rfl ?_
          refine zr_iconst (eX12_exchange 26 rfl) zk_iconst_0 ?_
          refine zr_iconst (eX12_exchange 27 rfl) zk_iconst_1 ?_
          refine zr_invV_V (as := [(.int x1, 0), (.int 0, 0), (.int 1, 0)]) (cX12_goOn_ok l h2 a0 x1 0 1) rfl rfl ⟨by decide, by decide, by decide⟩ zcd_X12_goOn rfl ⟨zw_1449, zw_1451, zw_41, zw_62⟩ ⟨Nat.le_of_ble_eq_true rfl, Nat.le_of_ble_eq_true rfl⟩ rfl (Nat.le_of_ble_eq_true rfl) (eX12_exchange 28 rfl) (fun h3 => ?_)
          refine zr_aload_n (r := (some a0)) (eX12_exchange 29 rfl) rfl rfl ?_
          refine zr_iload_n (eX12_exchange 30 rfl) rfl rfl ?_
          refine zr_iconst (eX12_exchange 31 rfl) zk_iconst_0 ?_
          refine zr_iconst (eX12_exchange 32 rfl) zk_iconst_2 ?_
          refine zr_invV_V (as := [(.int x2, 0), (.int 0, 0), (.int 2, 0)]) (cX12_goOn_ok l h3 a0 x2 0 2) rfl rfl ⟨by decide, by decide, by decide⟩ zcd_X12_goOn rfl ⟨zw_1449, zw_1451, zw_41, zw_62⟩ ⟨Nat.le_of_ble_eq_true rfl, Nat.le_of_ble_eq_true rfl⟩ rfl (Nat.le_of_ble_eq_true rfl) (eX12_exchange 33 rfl) (fun h4 => ?_)
          refine zr_aload_n (r := (some a0)) (eX12_exchange 34 rfl) rfl rfl ?_
          refine zr_iload_n (eX12_exchange 35 rfl) rfl rfl ?_
          refine zr_iconst (eX12_exchange 36 rfl) zk_iconst_1 ?_
          refine zr_iconst (eX12_exchange 37 rfl) zk_iconst_2 ?_
          refine zr_invV_V (as := [(.int x3, 0), (.int 1, 0), (.int 2, 0)]) (cX12_goOn_ok l h4 a0 x3 1 2) rfl rfl ⟨by decide, by decide, by decide⟩ zcd_X12_goOn rfl ⟨zw_1449, zw_1451, zw_41, zw_62⟩ ⟨Nat.le_of_ble_eq_true rfl, Nat.le_of_ble_eq_true rfl⟩ rfl (Nat.le_of_ble_eq_true rfl) (eX12_exchange 38 rfl) (fun h5 => ?_)
          refine zr_iconst (eX12_exchange 39 rfl) zk_iconst_0 ?_
          refine zr_istore (ls2 := [some (.ref a0, 12), some (.int x1, 0), some (.int x2, 0), some (.int x3, 0), some (.int x24, 0), some (.int x25, 0), some (.int 0, 0)]) (eX12_exchange 40 rfl) (Nat.le_of_ble_eq_true rfl) rfl ?_
          refine v_jn (fun (k39 : Zh → Option (Int32 × Zh)) => ∀ (h6 : Zh), V l mX12_exchange (zN h) (zS h) 0 zoI 96 [some (.ref a0, 12), some (.int x1, 0), some (.int x2, 0), some (.int x3, 0), some (.int x24, 0), some (.int x25, 0), none] [] h6 (k39 h6)) ?_ ?_
          · intro h6
            unfold gX12_exchange_J4
            refine zr_aload_n (r := (some a0)) (eX12_exchange 54 rfl) rfl rfl ?_
            refine zr_iload (eX12_exchange 55 rfl) rfl ?_
            refine zr_invV_V (as := [(.int x25, 0)]) (cX12_startThree_ok l h6 a0 x25) rfl rfl ⟨by decide, by decide, by decide⟩ zcd_X12_startThree rfl ⟨zw_1445, zw_1447, zw_40, zw_62⟩ ⟨Nat.le_of_ble_eq_true rfl, Nat.le_of_ble_eq_true rfl⟩ rfl (Nat.le_of_ble_eq_true rfl) (eX12_exchange 56 rfl) (fun h7 => ?_)
            refine zr_aload_n (r := (some a0)) (eX12_exchange 57 rfl) rfl rfl ?_
            refine zr_iload_n (eX12_exchange 58 rfl) rfl rfl ?_
            refine zr_iconst (eX12_exchange 59 rfl) zk_iconst_1 ?_
            refine zr_iconst (eX12_exchange 60 rfl) zk_iconst_2 ?_
            refine zr_invV_V (as := [(.int x3, 0), (.int 1, 0), (.int 2, 0)]) (cX12_goOn_ok l h7 a0 x3 1 2) rfl rfl ⟨by decide, by decide, by decide⟩ zcd_X12_goOn rfl ⟨zw_1449, zw_1451, zw_41, zw_62⟩ ⟨Nat.le_of_ble_eq_true rfl, Nat.le_of_ble_eq_true rfl⟩ rfl (Nat.le_of_ble_eq_true rfl) (eX12_exchange 61 rfl) (fun h8 => ?_)
            refine zr_aload_n (r := (some a0)) (eX12_exchange 62 rfl) rfl rfl ?_
            refine zr_iload_n (eX12_exchange 63 rfl) rfl rfl ?_
            refine zr_iconst (eX12_exchange 64 rfl) zk_iconst_0 ?_
            refine zr_iconst (eX12_exchange 65 rfl) zk_iconst_2 ?_
            refine zr_invV_V (as := [(.int x2, 0), (.int 0, 0), (.int 2, 0)]) (cX12_goOn_ok l h8 a0 x2 0 2) rfl rfl ⟨by decide, by decide, by decide⟩ zcd_X12_goOn rfl ⟨zw_1449, zw_1451, zw_41, zw_62⟩ ⟨Nat.le_of_ble_eq_true rfl, Nat.le_of_ble_eq_true rfl⟩ rfl (Nat.le_of_ble_eq_true rfl) (eX12_exchange 66 rfl) (fun h9 => ?_)
            refine zr_aload_n (r := (some a0)) (eX12_exchange 67 rfl) rfl rfl ?_
            refine zr_iload_n (eX12_exchange 68 rfl) rfl rfl ?_
            refine zr_iconst (eX12_exchange 69 rfl) zk_iconst_0 ?_
            refine zr_iconst (eX12_exchange 70 rfl) zk_iconst_1 ?_
            refine zr_invV_V (as := [(.int x1, 0), (.int 0, 0), (.int 1, 0)]) (cX12_goOn_ok l h9 a0 x1 0 1) rfl rfl ⟨by decide, by decide, by decide⟩ zcd_X12_goOn rfl ⟨zw_1449, zw_1451, zw_41, zw_62⟩ ⟨Nat.le_of_ble_eq_true rfl, Nat.le_of_ble_eq_true rfl⟩ rfl (Nat.le_of_ble_eq_true rfl) (eX12_exchange 71 rfl) (fun h10 => ?_)
            refine zr_iconst (eX12_exchange 72 rfl) zk_iconst_0 ?_
            refine zr_istore (ls2 := [some (.ref a0, 12), some (.int x1, 0), some (.int x2, 0), some (.int x3, 0), some (.int x24, 0), some (.int x25, 0), some (.int 0, 0)]) (eX12_exchange 73 rfl) (Nat.le_of_ble_eq_true rfl) rfl ?_
            refine v_jn (fun (k28 : Int32 → Option (Int32 × Zh)) => ∀ (x27 : Int32), V l mX12_exchange (zN h) (zS h) 0 zoI 167 [some (.ref a0, 12), some (.int x1, 0), some (.int x2, 0), some (.int x3, 0), some (.int x27, 0), some (.int x25, 0), none] [] h10 (k28 x27)) ?_ ?_
            · intro x27
              unfold gX12_exchange_J1
              refine zr_iinc (ls2 := [some (.ref a0, 12), some (.int x1, 0), some (.int x2, 0), some (.int x3, 0), some (.int x27, 0), some (.int (x25 + 1), 0), none]) (eX12_exchange 95 rfl) rfl (Nat.le_of_ble_eq_true rfl) zk_iconst_1 rfl ?_
              refine zr_goto (eX12_exchange 96 rfl) (t := 32) (by decide) ?_
              exact v_drop [true, true, true, true, true, true, false] rfl (hk26 x27 (x25 + 1) h10)
            intro k28 hk28
            refine v_drop [true, true, true, true, true, true, true] rfl ?_
            refine zlp_ind (fun (k31 : Int32 → Int32 → Option (Int32 × Zh)) => ∀ (x29 : Int32) (x30 : Int32), V l mX12_exchange (zN h) (zS h) 0 zoI 126 [some (.ref a0, 12), some (.int x1, 0), some (.int x2, 0), some (.int x3, 0), some (.int x29, 0), some (.int x25, 0), some (.int x30, 0)] [] h10 (k31 x29 x30)) ?_ ?_ x24 0
            · exact fun _ _ => v_none
            intro k31 hk31 x29 x30
            unfold gX12_exchange_L3
            refine zr_iload (eX12_exchange 74 rfl) rfl ?_
            refine zr_bipush (eX12_exchange 75 rfl) zk_bipush_8 ?_
            refine zr_icmp_ge (eX12_exchange 76 rfl) (t := 167) (by decide) ?_ ?_
            · exact v_drop [true, true, true, true, true, true, false] rfl (hk28 x29)
            · refine zr_iload (eX12_exchange 77 rfl) rfl ?_
              refine zr_aload_n (r := (some a0)) (eX12_exchange 78 rfl) rfl rfl ?_
              refine zr_getR2 zf_RX12_74 (τ2 := 21) rfl (eX12_exchange 79 rfl) ?_
              refine v_letr (fun r32 => ?_)
              refine zr_iload (eX12_exchange 80 rfl) rfl ?_
              refine v_nn (fun a33 ea33 => ?_)
              subst ea33
              refine zr_lald (eX12_exchange 81 rfl) ?_
              refine zr_aload_n (r := (some a0)) (eX12_exchange 82 rfl) rfl rfl ?_
              refine zr_getR2 zf_RX12_68 (τ2 := 21) rfl (eX12_exchange 83 rfl) ?_
              refine v_letr (fun r34 => ?_)
              refine zr_iload (eX12_exchange 84 rfl) rfl ?_
              refine v_nn (fun a35 ea35 => ?_)
              subst ea35
              refine zr_lald (eX12_exchange 85 rfl) ?_
              refine zr_lcmp (eX12_exchange 86 rfl) ?_
              refine v_jn (fun (k38 : Int32 → Option (Int32 × Zh)) => ∀ (x36 : Int32), V l mX12_exchange (zN h) (zS h) 0 zoI 158 [some (.ref a0, 12), some (.int x1, 0), some (.int x2, 0), some (.int x3, 0), none, some (.int x25, 0), some (.int x30, 0)] [(.int x36, 0), (.int x29, 0)] h10 (k38 x36)) ?_ ?_
              · intro x36
                unfold gX12_exchange_J2
                refine zr_iadd (eX12_exchange 91 rfl) ?_
                refine v_leti (fun x37 => ?_)
                refine zr_istore (ls2 := [some (.ref a0, 12), some (.int x1, 0), some (.int x2, 0), some (.int x3, 0), some (.int x37, 0), some (.int x25, 0), some (.int x30, 0)]) (eX12_exchange 92 rfl) (Nat.le_of_ble_eq_true rfl) rfl ?_
                refine zr_iinc (ls2 := [some (.ref a0, 12), some (.int x1, 0), some (.int x2, 0), some (.int x3, 0), some (.int x37, 0), some (.int x25, 0), some (.int (x30 + 1), 0)]) (eX12_exchange 93 rfl) rfl (Nat.le_of_ble_eq_true rfl) zk_iconst_1 rfl ?_
                refine zr_goto (eX12_exchange 94 rfl) (t := 126) (by decide) ?_
                exact v_drop [true, true, true, true, true, true, true] rfl (hk31 x37 (x30 + 1))
              intro k38 hk38
              refine zr_if_ne (eX12_exchange 87 rfl) (t := 157) (by decide) ?_ ?_
              · refine zr_iconst (eX12_exchange 90 rfl) zk_iconst_1 ?_
                exact v_drop [true, true, true, true, false, true, true] rfl (hk38 1)
              · refine zr_iconst (eX12_exchange 88 rfl) zk_iconst_0 ?_
                refine zr_goto (eX12_exchange 89 rfl) (t := 158) (by decide) ?_
                exact v_drop [true, true, true, true, false, true, true] rfl (hk38 0)
          intro k39 hk39
          refine v_drop [true, true, true, true, true, true, true] rfl ?_
          refine zlp_ind (fun (k41 : Int32 → Zh → Option (Int32 × Zh)) => ∀ (x40 : Int32) (h11 : Zh), V l mX12_exchange (zN h) (zS h) 0 zoI 69 [some (.ref a0, 12), some (.int x1, 0), some (.int x2, 0), some (.int x3, 0), some (.int x24, 0), some (.int x25, 0), some (.int x40, 0)] [] h11 (k41 x40 h11)) ?_ ?_ 0 h5
          · exact fun _ _ => v_none
          intro k41 hk41 x40 h11
          unfold gX12_exchange_L5
          refine zr_iload (eX12_exchange 41 rfl) rfl ?_
          refine zr_bipush (eX12_exchange 42 rfl) zk_bipush_8 ?_
          refine zr_icmp_ge (eX12_exchange 43 rfl) (t := 96) (by decide) ?_ ?_
          · exact v_drop [true, true, true, true, true, true, false] rfl (hk39 h11)
          · refine zr_aload_n (r := (some a0)) (eX12_exchange 44 rfl) rfl rfl ?_
            refine zr_getR2 zf_RX12_74 (τ2 := 21) rfl (eX12_exchange 45 rfl) ?_
            refine v_letr (fun r42 => ?_)
            refine zr_iload (eX12_exchange 46 rfl) rfl ?_
            refine zr_aload_n (r := (some a0)) (eX12_exchange 47 rfl) rfl rfl ?_
            refine zr_getR2 zf_RX12_68 (τ2 := 21) rfl (eX12_exchange 48 rfl) ?_
            refine v_letr (fun r43 => ?_)
            refine zr_iload (eX12_exchange 49 rfl) rfl ?_
            refine v_nn (fun a44 ea44 => ?_)
            subst ea44
            refine zr_lald (eX12_exchange 50 rfl) ?_
            refine v_nn (fun a45 ea45 => ?_)
            subst ea45
            refine zr_last (eX12_exchange 51 rfl) ?_
            refine v_leth (fun h12 => ?_)
            refine zr_iinc (ls2 := [some (.ref a0, 12), some (.int x1, 0), some (.int x2, 0), some (.int x3, 0), some (.int x24, 0), some (.int x25, 0), some (.int (x40 + 1), 0)]) (eX12_exchange 52 rfl) rfl (Nat.le_of_ble_eq_true rfl) zk_iconst_1 rfl ?_
            refine zr_goto (eX12_exchange 53 rfl) (t := 69) (by decide) ?_
            exact v_drop [true, true, true, true, true, true, true] rfl (hk41 (x40 + 1) h12)
      · refine zr_iconst (eX12_exchange 12 rfl) zk_iconst_m1 ?_
        exact zr_iret rfl rfl (eX12_exchange 13 rfl)
def gX12_noSum (x0 : Int32) : Option (Int32) :=
  zbi (gX12_in ((x0 : Int32).toInt64) 0 3) (fun x21 => (if (x21 : Int32) = 0 then (some 1)
  else (some 0)))
set_option maxRecDepth 20000 in
theorem cX12_noSum_ok (l : Launch) (h : Zh) (x0 : Int32) : Zc l yX12_noSum mX12_noSum 0 h [(.int x0, 0)] ((gX12_noSum x0).map (zoi h)) := by
  refine zc_of2 (ls := [some (.int x0, 0)]) (j := 0) (by decide +kernel) rfl rfl (zEn_ci rfl) (Nat.le_of_ble_eq_true rfl) rfl ?_
  unfold gX12_noSum
  refine zr_iload_n (eX12_noSum 0 rfl) rfl rfl ?_
  refine zr_i2l (eX12_noSum 1 rfl) ?_
  refine zr_lconst (eX12_noSum 2 rfl) zk_lconst_0 ?_
  refine zr_ldc2 (eX12_noSum 3 rfl) zw_1384 ?_
  refine zr_invS_i (as := [(.long ((x0 : Int32).toInt64), 0), (.long 0, 0), (.long 3, 0)]) (cX12_in_ok l h ((x0 : Int32).toInt64) 0 3) rfl zcd_X12_in ⟨zw_1203, zw_1204, zw_62⟩ ⟨Nat.le_of_ble_eq_true rfl, Nat.le_of_ble_eq_true rfl⟩ rfl (Nat.le_of_ble_eq_true rfl) (eX12_noSum 4 rfl) (fun x21 => ?_)
  refine zr_if_ne (eX12_noSum 5 rfl) (t := 16) (by decide) ?_ ?_
  · refine zr_iconst (eX12_noSum 8 rfl) zk_iconst_0 ?_
    exact zr_zret rfl (by decide) rfl (eX12_noSum 9 rfl)
  · refine zr_iconst (eX12_noSum 6 rfl) zk_iconst_1 ?_
    refine zr_goto (eX12_noSum 7 rfl) (t := 17) (by decide) ?_
    exact zr_zret rfl (by decide) rfl (eX12_noSum 9 rfl)
def gX12_startSum_L1 (a0 : Nat) : (Int32 → Zh → Option (Zh)) → Int32 → Zh → Option (Zh) :=
  fun (k22 : Int32 → Zh → Option (Zh)) (x21 : Int32) (h1 : Zh) => (if (65536 : Int32) ≤ x21 then some h1
  else zlt (zR h1 a0 33) (fun r23 => Option.bind r23 (fun a24 => zg (zin x21 (zL h1 a24)) (zlt (zsJ h1 a24 (zx x21) 0) (fun (h2 : Zh) => zlt (zR h2 a0 34) (fun r25 => Option.bind r25 (fun a26 => zg (zin x21 (zL h2 a26)) (zlt (zsJ h2 a26 (zx x21) 0) (fun (h3 : Zh) => k22 (x21 + 1) h3)))))))))
def gX12_startSum (h : Zh) (a0 : Nat) : Option (Zh) :=
  zlp (fun (_ : Int32) (_ : Zh) => (none : Option (Zh))) (gX12_startSum_L1 a0) zFU 0 h
set_option maxRecDepth 20000 in
theorem cX12_startSum_ok (l : Launch) (h : Zh) (a0 : Nat) : Zc l yX12_startSum mX12_startSum 0 h [(.ref a0, 12)] ((gX12_startSum h a0).map zoV) := by
  refine zc_of2 (ls := [some (.ref a0, 12), none]) (j := 1) (by decide +kernel) rfl rfl (zEn_ca rfl) (Nat.le_of_ble_eq_true rfl) rfl ?_
  unfold gX12_startSum
  refine zr_iconst (eX12_startSum 0 rfl) zk_iconst_0 ?_
  refine zr_istore_n (ls2 := [some (.ref a0, 12), some (.int 0, 0)]) (eX12_startSum 1 rfl) rfl (Nat.le_of_ble_eq_true rfl) rfl ?_
  refine v_drop [true, true] rfl ?_
  refine zlp_ind (fun (k22 : Int32 → Zh → Option (Zh)) => ∀ (x21 : Int32) (h1 : Zh), V l mX12_startSum (zN h) (zS h) 0 zoV 2 [some (.ref a0, 12), some (.int x21, 0)] [] h1 (k22 x21 h1)) ?_ ?_ 0 h
  · exact fun _ _ => v_none
  intro k22 hk22 x21 h1
  unfold gX12_startSum_L1
  refine zr_iload_n (eX12_startSum 2 rfl) rfl rfl ?_
  refine zr_ldc (eX12_startSum 3 rfl) zw_1062 ?_
  refine zr_icmp_ge (eX12_startSum 4 rfl) (t := 28) (by decide) ?_ ?_
  · exact zr_vret rfl rfl (eX12_startSum 17 rfl)
  · refine zr_aload_n (r := (some a0)) (eX12_startSum 5 rfl) rfl rfl ?_
    refine zr_getR2 zf_RX12_90 (τ2 := 21) rfl (eX12_startSum 6 rfl) ?_
    refine v_letr (fun r23 => ?_)
    refine zr_iload_n (eX12_startSum 7 rfl) rfl rfl ?_
    refine zr_lconst (eX12_startSum 8 rfl) zk_lconst_0 ?_
    refine v_nn (fun a24 ea24 => ?_)
    subst ea24
    refine zr_last (eX12_startSum 9 rfl) ?_
    refine v_leth (fun h2 => ?_)
    refine zr_aload_n (r := (some a0)) (eX12_startSum 10 rfl) rfl rfl ?_
    refine zr_getR2 zf_RX12_93 (τ2 := 21) rfl (eX12_startSum 11 rfl) ?_
    refine v_letr (fun r25 => ?_)
    refine zr_iload_n (eX12_startSum 12 rfl) rfl rfl ?_
    refine zr_lconst (eX12_startSum 13 rfl) zk_lconst_0 ?_
    refine v_nn (fun a26 ea26 => ?_)
    subst ea26
    refine zr_last (eX12_startSum 14 rfl) ?_
    refine v_leth (fun h3 => ?_)
    refine zr_iinc (ls2 := [some (.ref a0, 12), some (.int (x21 + 1), 0)]) (eX12_startSum 15 rfl) rfl (Nat.le_of_ble_eq_true rfl) zk_iconst_1 rfl ?_
    refine zr_goto (eX12_startSum 16 rfl) (t := 2) (by decide) ?_
    exact v_drop [true, true] rfl (hk22 (x21 + 1) h3)
def gX12_takeSum_L1 (a0 : Nat) (x1 : Int32) (x2 : Int32) : (Int32 → Zh → Option (Zh)) → Int32 → Zh → Option (Zh) :=
  fun (k23 : Int32 → Zh → Option (Zh)) (x22 : Int32) (h1 : Zh) => zlt (zR h1 a0 29) (fun r24 => Option.bind r24 (fun a25 => zg (zin x1 (zL h1 a25)) ((if (((60 * x1) + (zI h1 a25 (zx x1))) : Int32) ≤ x22 then some h1
  else zlt (zR h1 a0 33) (fun r26 => zlt (zR h1 a0 30) (fun r27 => Option.bind r27 (fun a28 => zg (zin x22 (zL h1 a28)) (zlt (zI h1 a28 (zx x22)) (fun x29 => Option.bind r26 (fun a30 => zg (zin x29 (zL h1 a30)) (zlt (zR h1 a0 31) (fun r31 => Option.bind r31 (fun a32 => zg (zin x22 (zL h1 a32)) (zg (zin x29 (zL h1 a30)) (zlt (zsJ h1 a30 (zx x29) ((zJ h1 a30 (zx x29)) + (((x2 * (zI h1 a32 (zx x22))) : Int32).toInt64))) (fun (h2 : Zh) => zlt (zR h2 a0 34) (fun r33 => zlt (zR h2 a0 30) (fun r34 => Option.bind r34 (fun a35 => zg (zin x22 (zL h2 a35)) (zlt (zI h2 a35 (zx x22)) (fun x36 => Option.bind r33 (fun a37 => zg (zin x36 (zL h2 a37)) (zlt (zR h2 a0 32) (fun r38 => Option.bind r38 (fun a39 => zg (zin x22 (zL h2 a39)) (zg (zin x36 (zL h2 a37)) (zlt (zsJ h2 a37 (zx x36) ((zJ h2 a37 (zx x36)) + (((x2 * (zI h2 a39 (zx x22))) : Int32).toInt64))) (fun (h3 : Zh) => k23 (x22 + 1) h3))))))))))))))))))))))))))))
def gX12_takeSum (h : Zh) (a0 : Nat) (x1 : Int32) (x2 : Int32) : Option (Zh) :=
  zlt (60 * x1) (fun x21 => zlp (fun (_ : Int32) (_ : Zh) => (none : Option (Zh))) (gX12_takeSum_L1 a0 x1 x2) zFU x21 h)
set_option maxRecDepth 20000 in
theorem cX12_takeSum_ok (l : Launch) (h : Zh) (a0 : Nat) (x1 : Int32) (x2 : Int32) : Zc l yX12_takeSum mX12_takeSum 0 h [(.ref a0, 12), (.int x1, 0), (.int x2, 0)] ((gX12_takeSum h a0 x1 x2).map zoV) := by
  refine zc_of2 (ls := [some (.ref a0, 12), some (.int x1, 0), some (.int x2, 0), none]) (j := 1) (by decide +kernel) rfl rfl (zEn_ca (zEn_ci (zEn_ci rfl))) (Nat.le_of_ble_eq_true rfl) rfl ?_
  unfold gX12_takeSum
  refine zr_bipush (eX12_takeSum 0 rfl) zk_bipush_60 ?_
  refine zr_iload_n (eX12_takeSum 1 rfl) rfl rfl ?_
  refine zr_imul (eX12_takeSum 2 rfl) ?_
  refine v_leti (fun x21 => ?_)
  refine zr_istore_n (ls2 := [some (.ref a0, 12), some (.int x1, 0), some (.int x2, 0), some (.int x21, 0)]) (eX12_takeSum 3 rfl) rfl (Nat.le_of_ble_eq_true rfl) rfl ?_
  refine v_drop [true, true, true, true] rfl ?_
  refine zlp_ind (fun (k23 : Int32 → Zh → Option (Zh)) => ∀ (x22 : Int32) (h1 : Zh), V l mX12_takeSum (zN h) (zS h) 0 zoV 5 [some (.ref a0, 12), some (.int x1, 0), some (.int x2, 0), some (.int x22, 0)] [] h1 (k23 x22 h1)) ?_ ?_ x21 h
  · exact fun _ _ => v_none
  intro k23 hk23 x22 h1
  unfold gX12_takeSum_L1
  refine zr_iload_n (eX12_takeSum 4 rfl) rfl rfl ?_
  refine zr_bipush (eX12_takeSum 5 rfl) zk_bipush_60 ?_
  refine zr_iload_n (eX12_takeSum 6 rfl) rfl rfl ?_
  refine zr_imul (eX12_takeSum 7 rfl) ?_
  refine zr_aload_n (r := (some a0)) (eX12_takeSum 8 rfl) rfl rfl ?_
  refine zr_getR2 zf_RX12_77 (τ2 := 20) rfl (eX12_takeSum 9 rfl) ?_
  refine v_letr (fun r24 => ?_)
  refine zr_iload_n (eX12_takeSum 10 rfl) rfl rfl ?_
  refine v_nn (fun a25 ea25 => ?_)
  subst ea25
  refine zr_iald (eX12_takeSum 11 rfl) ?_
  refine zr_iadd (eX12_takeSum 12 rfl) ?_
  refine zr_icmp_ge (eX12_takeSum 13 rfl) (t := 72) (by decide) ?_ ?_
  · exact zr_vret rfl rfl (eX12_takeSum 50 rfl)
  · refine zr_aload_n (r := (some a0)) (eX12_takeSum 14 rfl) rfl rfl ?_
    refine zr_getR2 zf_RX12_90 (τ2 := 21) rfl (eX12_takeSum 15 rfl) ?_
    refine v_letr (fun r26 => ?_)
    refine zr_aload_n (r := (some a0)) (eX12_takeSum 16 rfl) rfl rfl ?_
    refine zr_getR2 zf_RX12_80 (τ2 := 20) rfl (eX12_takeSum 17 rfl) ?_
    refine v_letr (fun r27 => ?_)
    refine zr_iload_n (eX12_takeSum 18 rfl) rfl rfl ?_
    refine v_nn (fun a28 ea28 => ?_)
    subst ea28
    refine zr_iald (eX12_takeSum 19 rfl) ?_
    refine v_leti (fun x29 => ?_)
    refine v_nn (fun a30 ea30 => ?_)
    subst ea30
    refine zr_dup2 (eX12_takeSum 20 rfl) rfl rfl ?_
    refine zr_lald (eX12_takeSum 21 rfl) ?_
    refine zr_iload_n (eX12_takeSum 22 rfl) rfl rfl ?_
    refine zr_aload_n (r := (some a0)) (eX12_takeSum 23 rfl) rfl rfl ?_
    refine zr_getR2 zf_RX12_83 (τ2 := 20) rfl (eX12_takeSum 24 rfl) ?_
    refine v_letr (fun r31 => ?_)
    refine zr_iload_n (eX12_takeSum 25 rfl) rfl rfl ?_
    refine v_nn (fun a32 ea32 => ?_)
    subst ea32
    refine zr_iald (eX12_takeSum 26 rfl) ?_
    refine zr_imul (eX12_takeSum 27 rfl) ?_
    refine zr_i2l (eX12_takeSum 28 rfl) ?_
    refine zr_ladd (eX12_takeSum 29 rfl) ?_
    refine zr_last (eX12_takeSum 30 rfl) ?_
    refine v_leth (fun h2 => ?_)
    refine zr_aload_n (r := (some a0)) (eX12_takeSum 31 rfl) rfl rfl ?_
    refine zr_getR2 zf_RX12_93 (τ2 := 21) rfl (eX12_takeSum 32 rfl) ?_
    refine v_letr (fun r33 => ?_)
    refine zr_aload_n (r := (some a0)) (eX12_takeSum 33 rfl) rfl rfl ?_
    refine zr_getR2 zf_RX12_80 (τ2 := 20) rfl (eX12_takeSum 34 rfl) ?_
    refine v_letr (fun r34 => ?_)
    refine zr_iload_n (eX12_takeSum 35 rfl) rfl rfl ?_
    refine v_nn (fun a35 ea35 => ?_)
    subst ea35
    refine zr_iald (eX12_takeSum 36 rfl) ?_
    refine v_leti (fun x36 => ?_)
    refine v_nn (fun a37 ea37 => ?_)
    subst ea37
    refine zr_dup2 (eX12_takeSum 37 rfl) rfl rfl ?_
    refine zr_lald (eX12_takeSum 38 rfl) ?_
    refine zr_iload_n (eX12_takeSum 39 rfl) rfl rfl ?_
    refine zr_aload_n (r := (some a0)) (eX12_takeSum 40 rfl) rfl rfl ?_
    refine zr_getR2 zf_RX12_86 (τ2 := 20) rfl (eX12_takeSum 41 rfl) ?_
    refine v_letr (fun r38 => ?_)
    refine zr_iload_n (eX12_takeSum 42 rfl) rfl rfl ?_
    refine v_nn (fun a39 ea39 => ?_)
    subst ea39
    refine zr_iald (eX12_takeSum 43 rfl) ?_
    refine zr_imul (eX12_takeSum 44 rfl) ?_
    refine zr_i2l (eX12_takeSum 45 rfl) ?_
    refine zr_ladd (eX12_takeSum 46 rfl) ?_
    refine zr_last (eX12_takeSum 47 rfl) ?_
    refine v_leth (fun h3 => ?_)
    refine zr_iinc (ls2 := [some (.ref a0, 12), some (.int x1, 0), some (.int x2, 0), some (.int (x22 + 1), 0)]) (eX12_takeSum 48 rfl) rfl (Nat.le_of_ble_eq_true rfl) zk_iconst_1 rfl ?_
    refine zr_goto (eX12_takeSum 49 rfl) (t := 5) (by decide) ?_
    exact v_drop [true, true, true, true] rfl (hk23 (x22 + 1) h3)
def gX12_phase_J1 : Int32 → Option (Int32) :=
  fun (x21 : Int32) => (if (4 : Int32) = 0 then none else (some (x21 - x21 / 4 * 4)))
def gX12_phase_J2 (x23 : Int32) (x24 : Int32) (k25 : Int32 → Int32 → Option (Int32)) : Int32 → Option (Int32) :=
  fun (x30 : Int32) => zlt (x23 + x30) (fun x31 => k25 x31 (x24 + 1))
def gX12_phase_J3 (x23 : Int32) (x24 : Int32) (k25 : Int32 → Int32 → Option (Int32)) (x28 : Int32) : Int32 → Option (Int32) :=
  fun (x29 : Int32) => zjn (gX12_phase_J2 x23 x24 k25) (fun (k32 : Int32 → Option (Int32)) =>
  (if (x28 : Int32) = 0 then (if (x29 : Int32) = 0 then k32 0
  else k32 3)
  else k32 1))
def gX12_phase_J4 (k33 : Int32 → Option (Int32)) : Option (Int32) :=
  k33 1
def gX12_phase_J5 (k33 : Int32 → Option (Int32)) : Option (Int32) :=
  k33 0
def gX12_phase_J6 (x26 : Int32) (x27 : Int32) (k33 : Int32 → Option (Int32)) (k34 : Option (Int32)) : Option (Int32) :=
  zjn (gX12_phase_J5 k33) (fun (k35 : Option (Int32)) =>
  (if (x26 : Int32) = 1 then (if (x27 : Int32) = 2 then k34
  else k35)
  else k35))
def gX12_phase_J7 (x26 : Int32) (x27 : Int32) (k33 : Int32 → Option (Int32)) (k34 : Option (Int32)) : Option (Int32) :=
  zjn (gX12_phase_J6 x26 x27 k33 k34) (fun (k36 : Option (Int32)) =>
  (if (x26 : Int32) = 2 then (if (x27 : Int32) = 3 then k34
  else k36)
  else k36))
def gX12_phase_J8 (x23 : Int32) (x24 : Int32) (k25 : Int32 → Int32 → Option (Int32)) (x26 : Int32) (x27 : Int32) : Int32 → Option (Int32) :=
  fun (x28 : Int32) => zjn (gX12_phase_J3 x23 x24 k25 x28) (fun (k33 : Int32 → Option (Int32)) =>
  zjn (gX12_phase_J4 k33) (fun (k34 : Option (Int32)) =>
  zjn (gX12_phase_J7 x26 x27 k33 k34) (fun (k37 : Option (Int32)) =>
  (if (x26 : Int32) = 3 then (if (x27 : Int32) = 1 then k34
  else k37)
  else k37))))
def gX12_phase_J9 (k38 : Int32 → Option (Int32)) : Option (Int32) :=
  k38 1
def gX12_phase_J10 (k38 : Int32 → Option (Int32)) : Option (Int32) :=
  k38 0
def gX12_phase_J11 (x26 : Int32) (x27 : Int32) (k38 : Int32 → Option (Int32)) (k39 : Option (Int32)) : Option (Int32) :=
  zjn (gX12_phase_J10 k38) (fun (k40 : Option (Int32)) =>
  (if (x26 : Int32) = 2 then (if (x27 : Int32) = 1 then k39
  else k40)
  else k40))
def gX12_phase_J12 (x26 : Int32) (x27 : Int32) (k38 : Int32 → Option (Int32)) (k39 : Option (Int32)) : Option (Int32) :=
  zjn (gX12_phase_J11 x26 x27 k38 k39) (fun (k41 : Option (Int32)) =>
  (if (x26 : Int32) = 3 then (if (x27 : Int32) = 2 then k39
  else k41)
  else k41))
def gX12_phase_L13 (x0 : Int32) (x1 : Int32) (k22 : Int32 → Option (Int32)) : (Int32 → Int32 → Option (Int32)) → Int32 → Int32 → Option (Int32) :=
  fun (k25 : Int32 → Int32 → Option (Int32)) (x23 : Int32) (x24 : Int32) => (if (8 : Int32) ≤ x24 then k22 x23
  else zlt (((x0 >>> ((8 + x24) &&& 31)) &&& 1) + (2 * ((x0 >>> (x24 &&& 31)) &&& 1))) (fun x26 => zlt (((x1 >>> ((8 + x24) &&& 31)) &&& 1) + (2 * ((x1 >>> (x24 &&& 31)) &&& 1))) (fun x27 => zjn (gX12_phase_J8 x23 x24 k25 x26 x27) (fun (k38 : Int32 → Option (Int32)) =>
  zjn (gX12_phase_J9 k38) (fun (k39 : Option (Int32)) =>
  zjn (gX12_phase_J12 x26 x27 k38 k39) (fun (k42 : Option (Int32)) =>
  (if (x26 : Int32) = 1 then (if (x27 : Int32) = 3 then k39
  else k42)
  else k42)))))))
def gX12_phase (x0 : Int32) (x1 : Int32) : Option (Int32) :=
  zjn gX12_phase_J1 (fun (k22 : Int32 → Option (Int32)) =>
  zlp (fun (_ : Int32) (_ : Int32) => (none : Option (Int32))) (gX12_phase_L13 x0 x1 k22) zFU 0 0)
set_option maxRecDepth 20000 in
theorem cX12_phase_ok (l : Launch) (h : Zh) (x0 : Int32) (x1 : Int32) : Zc l yX12_phase mX12_phase 0 h [(.int x0, 0), (.int x1, 0)] ((gX12_phase x0 x1).map (zoi h)) := by
  refine zc_of2 (ls := [some (.int x0, 0), some (.int x1, 0), none, none, none, none, none, none]) (j := 6) (by decide +kernel) rfl rfl (zEn_ci (zEn_ci rfl)) (Nat.le_of_ble_eq_true rfl) rfl ?_
  unfold gX12_phase
  refine zr_iconst (eX12_phase 0 rfl) zk_iconst_0 ?_
  refine zr_istore_n (ls2 := [some (.int x0, 0), some (.int x1, 0), some (.int 0, 0), none, none, none, none, none]) (eX12_phase 1 rfl) rfl (Nat.le_of_ble_eq_true rfl) rfl ?_
  refine zr_iconst (eX12_phase 2 rfl) zk_iconst_0 ?_
  refine zr_istore_n (ls2 := [some (.int x0, 0), some (.int x1, 0), some (.int 0, 0), some (.int 0, 0), none, none, none, none]) (eX12_phase 3 rfl) rfl (Nat.le_of_ble_eq_true rfl) rfl ?_
  refine v_jn (fun (k22 : Int32 → Option (Int32)) => ∀ (x21 : Int32), V l mX12_phase (zN h) (zS h) 0 (zoi h) 160 [none, none, some (.int x21, 0), none, none, none, none, none] [] h (k22 x21)) ?_ ?_
  · intro x21
    unfold gX12_phase_J1
    refine zr_iload_n (eX12_phase 97 rfl) rfl rfl ?_
    refine zr_iconst (eX12_phase 98 rfl) zk_iconst_4 ?_
    refine zr_irem (eX12_phase 99 rfl) ?_
    exact zr_iret rfl rfl (eX12_phase 100 rfl)
  intro k22 hk22
  refine v_drop [true, true, true, true, false, false, false, false] rfl ?_
  refine zlp_ind (fun (k25 : Int32 → Int32 → Option (Int32)) => ∀ (x23 : Int32) (x24 : Int32), V l mX12_phase (zN h) (zS h) 0 (zoi h) 4 [some (.int x0, 0), some (.int x1, 0), some (.int x23, 0), some (.int x24, 0), none, none, none, none] [] h (k25 x23 x24)) ?_ ?_ 0 0
  · exact fun _ _ => v_none
  intro k25 hk25 x23 x24
  unfold gX12_phase_L13
  refine zr_iload_n (eX12_phase 4 rfl) rfl rfl ?_
  refine zr_bipush (eX12_phase 5 rfl) zk_bipush_8 ?_
  refine zr_icmp_ge (eX12_phase 6 rfl) (t := 160) (by decide) ?_ ?_
  · exact v_drop [false, false, true, false, false, false, false, false] rfl (hk22 x23)
  · refine zr_iload_n (eX12_phase 7 rfl) rfl rfl ?_
    refine zr_bipush (eX12_phase 8 rfl) zk_bipush_8 ?_
    refine zr_iload_n (eX12_phase 9 rfl) rfl rfl ?_
    refine zr_iadd (eX12_phase 10 rfl) ?_
    refine zr_ishr (eX12_phase 11 rfl) ?_
    refine zr_iconst (eX12_phase 12 rfl) zk_iconst_1 ?_
    refine zr_iand (eX12_phase 13 rfl) ?_
    refine zr_iconst (eX12_phase 14 rfl) zk_iconst_2 ?_
    refine zr_iload_n (eX12_phase 15 rfl) rfl rfl ?_
    refine zr_iload_n (eX12_phase 16 rfl) rfl rfl ?_
    refine zr_ishr (eX12_phase 17 rfl) ?_
    refine zr_iconst (eX12_phase 18 rfl) zk_iconst_1 ?_
    refine zr_iand (eX12_phase 19 rfl) ?_
    refine zr_imul (eX12_phase 20 rfl) ?_
    refine zr_iadd (eX12_phase 21 rfl) ?_
    refine v_leti (fun x26 => ?_)
    refine zr_istore (ls2 := [some (.int x0, 0), some (.int x1, 0), some (.int x23, 0), some (.int x24, 0), some (.int x26, 0), none, none, none]) (eX12_phase 22 rfl) (Nat.le_of_ble_eq_true rfl) rfl ?_
    refine zr_iload_n (eX12_phase 23 rfl) rfl rfl ?_
    refine zr_bipush (eX12_phase 24 rfl) zk_bipush_8 ?_
    refine zr_iload_n (eX12_phase 25 rfl) rfl rfl ?_
    refine zr_iadd (eX12_phase 26 rfl) ?_
    refine zr_ishr (eX12_phase 27 rfl) ?_
    refine zr_iconst (eX12_phase 28 rfl) zk_iconst_1 ?_
    refine zr_iand (eX12_phase 29 rfl) ?_
    refine zr_iconst (eX12_phase 30 rfl) zk_iconst_2 ?_
    refine zr_iload_n (eX12_phase 31 rfl) rfl rfl ?_
    refine zr_iload_n (eX12_phase 32 rfl) rfl rfl ?_
    refine zr_ishr (eX12_phase 33 rfl) ?_
    refine zr_iconst (eX12_phase 34 rfl) zk_iconst_1 ?_
    refine zr_iand (eX12_phase 35 rfl) ?_
    refine zr_imul (eX12_phase 36 rfl) ?_
    refine zr_iadd (eX12_phase 37 rfl) ?_
    refine v_leti (fun x27 => ?_)
    refine zr_istore (ls2 := [some (.int x0, 0), some (.int x1, 0), some (.int x23, 0), some (.int x24, 0), some (.int x26, 0), some (.int x27, 0), none, none]) (eX12_phase 38 rfl) (Nat.le_of_ble_eq_true rfl) rfl ?_
    refine zr_iload (eX12_phase 39 rfl) rfl ?_
    refine zr_iconst (eX12_phase 40 rfl) zk_iconst_1 ?_
    refine v_jn (fun (k38 : Int32 → Option (Int32)) => ∀ (x28 : Int32), V l mX12_phase (zN h) (zS h) 0 (zoi h) 87 [some (.int x0, 0), some (.int x1, 0), some (.int x23, 0), some (.int x24, 0), some (.int x26, 0), some (.int x27, 0), none, none] [(.int x28, 0)] h (k38 x28)) ?_ ?_
    · intro x28
      unfold gX12_phase_J8
      refine zr_istore (ls2 := [some (.int x0, 0), some (.int x1, 0), some (.int x23, 0), some (.int x24, 0), some (.int x26, 0), some (.int x27, 0), some (.int x28, 0), none]) (eX12_phase 60 rfl) (Nat.le_of_ble_eq_true rfl) rfl ?_
      refine zr_iload (eX12_phase 61 rfl) rfl ?_
      refine zr_iconst (eX12_phase 62 rfl) zk_iconst_3 ?_
      refine v_jn (fun (k33 : Int32 → Option (Int32)) => ∀ (x29 : Int32), V l mX12_phase (zN h) (zS h) 0 (zoi h) 130 [some (.int x0, 0), some (.int x1, 0), some (.int x23, 0), some (.int x24, 0), none, none, some (.int x28, 0), none] [(.int x29, 0)] h (k33 x29)) ?_ ?_
      · intro x29
        unfold gX12_phase_J3
        refine zr_istore (ls2 := [some (.int x0, 0), some (.int x1, 0), some (.int x23, 0), some (.int x24, 0), none, none, some (.int x28, 0), some (.int x29, 0)]) (eX12_phase 82 rfl) (Nat.le_of_ble_eq_true rfl) rfl ?_
        refine zr_iload_n (eX12_phase 83 rfl) rfl rfl ?_
        refine zr_iload (eX12_phase 84 rfl) rfl ?_
        refine v_jn (fun (k32 : Int32 → Option (Int32)) => ∀ (x30 : Int32), V l mX12_phase (zN h) (zS h) 0 (zoi h) 152 [some (.int x0, 0), some (.int x1, 0), none, some (.int x24, 0), none, none, none, none] [(.int x30, 0), (.int x23, 0)] h (k32 x30)) ?_ ?_
        · intro x30
          unfold gX12_phase_J2
          refine zr_iadd (eX12_phase 93 rfl) ?_
          refine v_leti (fun x31 => ?_)
          refine zr_istore_n (ls2 := [some (.int x0, 0), some (.int x1, 0), some (.int x31, 0), some (.int x24, 0), none, none, none, none]) (eX12_phase 94 rfl) rfl (Nat.le_of_ble_eq_true rfl) rfl ?_
          refine zr_iinc (ls2 := [some (.int x0, 0), some (.int x1, 0), some (.int x31, 0), some (.int (x24 + 1), 0), none, none, none, none]) (eX12_phase 95 rfl) rfl (Nat.le_of_ble_eq_true rfl) zk_iconst_1 rfl ?_
          refine zr_goto (eX12_phase 96 rfl) (t := 4) (by decide) ?_
          exact v_drop [true, true, true, true, false, false, false, false] rfl (hk25 x31 (x24 + 1))
        intro k32 hk32
        refine zr_if_eq (eX12_phase 85 rfl) (t := 142) (by decide) ?_ ?_
        · refine zr_iload (eX12_phase 88 rfl) rfl ?_
          refine zr_if_eq (eX12_phase 89 rfl) (t := 151) (by decide) ?_ ?_
          · refine zr_iconst (eX12_phase 92 rfl) zk_iconst_0 ?_
            exact v_drop [true, true, false, true, false, false, false, false] rfl (hk32 0)
          · refine zr_iconst (eX12_phase 90 rfl) zk_iconst_3 ?_
            refine zr_goto (eX12_phase 91 rfl) (t := 152) (by decide) ?_
            exact v_drop [true, true, false, true, false, false, false, false] rfl (hk32 3)
        · refine zr_iconst (eX12_phase 86 rfl) zk_iconst_1 ?_
          refine zr_goto (eX12_phase 87 rfl) (t := 152) (by decide) ?_
          exact v_drop [true, true, false, true, false, false, false, false] rfl (hk32 1)
      intro k33 hk33
      refine v_jn (fun (k34 : Option (Int32)) => V l mX12_phase (zN h) (zS h) 0 (zoi h) 125 [some (.int x0, 0), some (.int x1, 0), some (.int x23, 0), some (.int x24, 0), none, none, some (.int x28, 0), none] [] h k34) ?_ ?_
      · skip
        unfold gX12_phase_J4
        refine zr_iconst (eX12_phase 79 rfl) zk_iconst_1 ?_
        refine zr_goto (eX12_phase 80 rfl) (t := 130) (by decide) ?_
        exact v_drop [true, true, true, true, false, false, true, false] rfl (hk33 1)
      intro k34 hk34
      refine v_jn (fun (k37 : Option (Int32)) => V l mX12_phase (zN h) (zS h) 0 (zoi h) 101 [some (.int x0, 0), some (.int x1, 0), some (.int x23, 0), some (.int x24, 0), some (.int x26, 0), some (.int x27, 0), some (.int x28, 0), none] [] h k37) ?_ ?_
      · skip
        unfold gX12_phase_J7
        refine zr_iload (eX12_phase 67 rfl) rfl ?_
        refine zr_iconst (eX12_phase 68 rfl) zk_iconst_2 ?_
        refine v_jn (fun (k36 : Option (Int32)) => V l mX12_phase (zN h) (zS h) 0 (zoi h) 113 [some (.int x0, 0), some (.int x1, 0), some (.int x23, 0), some (.int x24, 0), some (.int x26, 0), some (.int x27, 0), some (.int x28, 0), none] [] h k36) ?_ ?_
        · skip
          unfold gX12_phase_J6
          refine zr_iload (eX12_phase 73 rfl) rfl ?_
          refine zr_iconst (eX12_phase 74 rfl) zk_iconst_1 ?_
          refine v_jn (fun (k35 : Option (Int32)) => V l mX12_phase (zN h) (zS h) 0 (zoi h) 129 [some (.int x0, 0), some (.int x1, 0), some (.int x23, 0), some (.int x24, 0), none, none, some (.int x28, 0), none] [] h k35) ?_ ?_
          · skip
            unfold gX12_phase_J5
            refine zr_iconst (eX12_phase 81 rfl) zk_iconst_0 ?_
            exact v_drop [true, true, true, true, false, false, true, false] rfl (hk33 0)
          intro k35 hk35
          refine zr_icmp_ne (eX12_phase 75 rfl) (t := 129) (by decide) ?_ ?_
          · exact v_drop [true, true, true, true, false, false, true, false] rfl (hk35)
          · refine zr_iload (eX12_phase 76 rfl) rfl ?_
            refine zr_iconst (eX12_phase 77 rfl) zk_iconst_2 ?_
            refine zr_icmp_ne (eX12_phase 78 rfl) (t := 129) (by decide) ?_ ?_
            · exact v_drop [true, true, true, true, false, false, true, false] rfl (hk35)
            · exact v_drop [true, true, true, true, false, false, true, false] rfl (hk34)
        intro k36 hk36
        refine zr_icmp_ne (eX12_phase 69 rfl) (t := 113) (by decide) ?_ ?_
        · exact v_drop [true, true, true, true, true, true, true, false] rfl (hk36)
        · refine zr_iload (eX12_phase 70 rfl) rfl ?_
          refine zr_iconst (eX12_phase 71 rfl) zk_iconst_3 ?_
          refine zr_icmp_eq (eX12_phase 72 rfl) (t := 125) (by decide) ?_ ?_
          · exact v_drop [true, true, true, true, false, false, true, false] rfl (hk34)
          · exact v_drop [true, true, true, true, true, true, true, false] rfl (hk36)
      intro k37 hk37
      refine zr_icmp_ne (eX12_phase 63 rfl) (t := 101) (by decide) ?_ ?_
      · exact v_drop [true, true, true, true, true, true, true, false] rfl (hk37)
      · refine zr_iload (eX12_phase 64 rfl) rfl ?_
        refine zr_iconst (eX12_phase 65 rfl) zk_iconst_1 ?_
        refine zr_icmp_eq (eX12_phase 66 rfl) (t := 125) (by decide) ?_ ?_
        · exact v_drop [true, true, true, true, false, false, true, false] rfl (hk34)
        · exact v_drop [true, true, true, true, true, true, true, false] rfl (hk37)
    intro k38 hk38
    refine v_jn (fun (k39 : Option (Int32)) => V l mX12_phase (zN h) (zS h) 0 (zoi h) 82 [some (.int x0, 0), some (.int x1, 0), some (.int x23, 0), some (.int x24, 0), some (.int x26, 0), some (.int x27, 0), none, none] [] h k39) ?_ ?_
    · skip
      unfold gX12_phase_J9
      refine zr_iconst (eX12_phase 57 rfl) zk_iconst_1 ?_
      refine zr_goto (eX12_phase 58 rfl) (t := 87) (by decide) ?_
      exact v_drop [true, true, true, true, true, true, false, false] rfl (hk38 1)
    intro k39 hk39
    refine v_jn (fun (k42 : Option (Int32)) => V l mX12_phase (zN h) (zS h) 0 (zoi h) 58 [some (.int x0, 0), some (.int x1, 0), some (.int x23, 0), some (.int x24, 0), some (.int x26, 0), some (.int x27, 0), none, none] [] h k42) ?_ ?_
    · skip
      unfold gX12_phase_J12
      refine zr_iload (eX12_phase 45 rfl) rfl ?_
      refine zr_iconst (eX12_phase 46 rfl) zk_iconst_3 ?_
      refine v_jn (fun (k41 : Option (Int32)) => V l mX12_phase (zN h) (zS h) 0 (zoi h) 70 [some (.int x0, 0), some (.int x1, 0), some (.int x23, 0), some (.int x24, 0), some (.int x26, 0), some (.int x27, 0), none, none] [] h k41) ?_ ?_
      · skip
        unfold gX12_phase_J11
        refine zr_iload (eX12_phase 51 rfl) rfl ?_
        refine zr_iconst (eX12_phase 52 rfl) zk_iconst_2 ?_
        refine v_jn (fun (k40 : Option (Int32)) => V l mX12_phase (zN h) (zS h) 0 (zoi h) 86 [some (.int x0, 0), some (.int x1, 0), some (.int x23, 0), some (.int x24, 0), some (.int x26, 0), some (.int x27, 0), none, none] [] h k40) ?_ ?_
        · skip
          unfold gX12_phase_J10
          refine zr_iconst (eX12_phase 59 rfl) zk_iconst_0 ?_
          exact v_drop [true, true, true, true, true, true, false, false] rfl (hk38 0)
        intro k40 hk40
        refine zr_icmp_ne (eX12_phase 53 rfl) (t := 86) (by decide) ?_ ?_
        · exact v_drop [true, true, true, true, true, true, false, false] rfl (hk40)
        · refine zr_iload (eX12_phase 54 rfl) rfl ?_
          refine zr_iconst (eX12_phase 55 rfl) zk_iconst_1 ?_
          refine zr_icmp_ne (eX12_phase 56 rfl) (t := 86) (by decide) ?_ ?_
          · exact v_drop [true, true, true, true, true, true, false, false] rfl (hk40)
          · exact v_drop [true, true, true, true, true, true, false, false] rfl (hk39)
      intro k41 hk41
      refine zr_icmp_ne (eX12_phase 47 rfl) (t := 70) (by decide) ?_ ?_
      · exact v_drop [true, true, true, true, true, true, false, false] rfl (hk41)
      · refine zr_iload (eX12_phase 48 rfl) rfl ?_
        refine zr_iconst (eX12_phase 49 rfl) zk_iconst_2 ?_
        refine zr_icmp_eq (eX12_phase 50 rfl) (t := 82) (by decide) ?_ ?_
        · exact v_drop [true, true, true, true, true, true, false, false] rfl (hk39)
        · exact v_drop [true, true, true, true, true, true, false, false] rfl (hk41)
    intro k42 hk42
    refine zr_icmp_ne (eX12_phase 41 rfl) (t := 58) (by decide) ?_ ?_
    · exact v_drop [true, true, true, true, true, true, false, false] rfl (hk42)
    · refine zr_iload (eX12_phase 42 rfl) rfl ?_
      refine zr_iconst (eX12_phase 43 rfl) zk_iconst_3 ?_
      refine zr_icmp_eq (eX12_phase 44 rfl) (t := 82) (by decide) ?_ ?_
      · exact v_drop [true, true, true, true, true, true, false, false] rfl (hk39)
      · exact v_drop [true, true, true, true, true, true, false, false] rfl (hk42)
def gX12_takeProduct_J1 (x22 : Int32) (k23 : Int32 → Zh → Option (Zh)) : Zh → Option (Zh) :=
  fun (h2 : Zh) => k23 (x22 + 1) h2
def gX12_takeProduct_J2 (x3 : Int32) (x28 : Int32) (k29 : Int32 → Zh → Option (Zh)) (x59 : Int32) (h4 : Zh) (a64 : Nat) : Int64 → Option (Zh) :=
  fun (x65 : Int64) => zg (zin x59 (zL h4 a64)) (zlt (zsJ h4 a64 (zx x59) ((zJ h4 a64 (zx x59)) + (((x3 : Int32).toInt64) * x65))) (fun (h5 : Zh) => k29 (x28 + 1) h5))
def gX12_takeProduct_J3 (a0 : Nat) (x3 : Int32) (x28 : Int32) (h3 : Zh) (k29 : Int32 → Zh → Option (Zh)) (x40 : Int64) (x49 : Int64) (x54 : Int32) (x59 : Int32) (a61 : Nat) : Int64 → Option (Zh) :=
  fun (x62 : Int64) => zg (zin x59 (zL h3 a61)) (zlt (zsJ h3 a61 (zx x59) ((zJ h3 a61 (zx x59)) + (((x3 : Int32).toInt64) * x62))) (fun (h4 : Zh) => zlt (zR h4 a0 34) (fun r63 => Option.bind r63 (fun a64 => zg (zin x59 (zL h4 a64)) (zjn (gX12_takeProduct_J2 x3 x28 k29 x59 h4 a64) (fun (k66 : Int64 → Option (Zh)) =>
  (if (x54 : Int32) = 0 then k66 x49
  else (if (x54 : Int32) = 1 then k66 x40
  else (if (x54 : Int32) = 2 then k66 (-x49)
  else k66 (-x40))))))))))
def gX12_takeProduct_L4 (a0 : Nat) (x2 : Int32) (x3 : Int32) (x22 : Int32) (k27 : Zh → Option (Zh)) : (Int32 → Zh → Option (Zh)) → Int32 → Zh → Option (Zh) :=
  fun (k29 : Int32 → Zh → Option (Zh)) (x28 : Int32) (h3 : Zh) => zlt (zR h3 a0 29) (fun r30 => Option.bind r30 (fun a31 => zg (zin x2 (zL h3 a31)) ((if (((60 * x2) + (zI h3 a31 (zx x2))) : Int32) ≤ x28 then k27 h3
  else zlt (zR h3 a0 31) (fun r32 => Option.bind r32 (fun a33 => zg (zin x22 (zL h3 a33)) (zlt (zR h3 a0 31) (fun r34 => Option.bind r34 (fun a35 => zg (zin x28 (zL h3 a35)) (zlt (zR h3 a0 32) (fun r36 => Option.bind r36 (fun a37 => zg (zin x22 (zL h3 a37)) (zlt (zR h3 a0 32) (fun r38 => Option.bind r38 (fun a39 => zg (zin x28 (zL h3 a39)) (zlt (((((zI h3 a33 (zx x22)) : Int32).toInt64) * (((zI h3 a35 (zx x28)) : Int32).toInt64)) - ((((zI h3 a37 (zx x22)) : Int32).toInt64) * (((zI h3 a39 (zx x28)) : Int32).toInt64))) (fun x40 => zlt (zR h3 a0 31) (fun r41 => Option.bind r41 (fun a42 => zg (zin x22 (zL h3 a42)) (zlt (zR h3 a0 32) (fun r43 => Option.bind r43 (fun a44 => zg (zin x28 (zL h3 a44)) (zlt (zR h3 a0 32) (fun r45 => Option.bind r45 (fun a46 => zg (zin x22 (zL h3 a46)) (zlt (zR h3 a0 31) (fun r47 => Option.bind r47 (fun a48 => zg (zin x28 (zL h3 a48)) (zlt (((((zI h3 a42 (zx x22)) : Int32).toInt64) * (((zI h3 a44 (zx x28)) : Int32).toInt64)) + ((((zI h3 a46 (zx x22)) : Int32).toInt64) * (((zI h3 a48 (zx x28)) : Int32).toInt64))) (fun x49 => zlt (zR h3 a0 30) (fun r50 => Option.bind r50 (fun a51 => zg (zin x22 (zL h3 a51)) (zlt (zR h3 a0 30) (fun r52 => Option.bind r52 (fun a53 => zg (zin x28 (zL h3 a53)) (zbi (gX12_phase (zI h3 a51 (zx x22)) (zI h3 a53 (zx x28))) (fun x54 => zlt (zR h3 a0 30) (fun r55 => Option.bind r55 (fun a56 => zg (zin x22 (zL h3 a56)) (zlt (zR h3 a0 30) (fun r57 => Option.bind r57 (fun a58 => zg (zin x28 (zL h3 a58)) (zlt ((zI h3 a56 (zx x22)) ^^^ (zI h3 a58 (zx x28))) (fun x59 => zlt (zR h3 a0 33) (fun r60 => Option.bind r60 (fun a61 => zg (zin x59 (zL h3 a61)) (zjn (gX12_takeProduct_J3 a0 x3 x28 h3 k29 x40 x49 x54 x59 a61) (fun (k67 : Int64 → Option (Zh)) =>
  (if (x54 : Int32) = 0 then k67 x40
  else (if (x54 : Int32) = 1 then k67 (-x49)
  else (if (x54 : Int32) = 2 then k67 (-x40)
  else k67 x49)))))))))))))))))))))))))))))))))))))))))))))))))))
def gX12_takeProduct_L5 (a0 : Nat) (x1 : Int32) (x2 : Int32) (x3 : Int32) : (Int32 → Zh → Option (Zh)) → Int32 → Zh → Option (Zh) :=
  fun (k23 : Int32 → Zh → Option (Zh)) (x22 : Int32) (h1 : Zh) => zlt (zR h1 a0 29) (fun r24 => Option.bind r24 (fun a25 => zg (zin x1 (zL h1 a25)) ((if (((60 * x1) + (zI h1 a25 (zx x1))) : Int32) ≤ x22 then some h1
  else zlt (60 * x2) (fun x26 => zjn (gX12_takeProduct_J1 x22 k23) (fun (k27 : Zh → Option (Zh)) =>
  zlp (fun (_ : Int32) (_ : Zh) => (none : Option (Zh))) (gX12_takeProduct_L4 a0 x2 x3 x22 k27) zFU x26 h1))))))
def gX12_takeProduct (h : Zh) (a0 : Nat) (x1 : Int32) (x2 : Int32) (x3 : Int32) : Option (Zh) :=
  zlt (60 * x1) (fun x21 => zlp (fun (_ : Int32) (_ : Zh) => (none : Option (Zh))) (gX12_takeProduct_L5 a0 x1 x2 x3) zFU x21 h)
set_option maxRecDepth 20000 in
theorem cX12_takeProduct_ok (l : Launch) (h : Zh) (a0 : Nat) (x1 : Int32) (x2 : Int32) (x3 : Int32) : Zc l yX12_takeProduct mX12_takeProduct 0 h [(.ref a0, 12), (.int x1, 0), (.int x2, 0), (.int x3, 0)] ((gX12_takeProduct h a0 x1 x2 x3).map zoV) := by
  refine zc_of2 (ls := [some (.ref a0, 12), some (.int x1, 0), some (.int x2, 0), some (.int x3, 0), none, none, none, none, none, none, none, none]) (j := 8) (by decide +kernel) rfl rfl (zEn_ca (zEn_ci (zEn_ci (zEn_ci rfl)))) (Nat.le_of_ble_eq_true rfl) rfl ?_
  unfold gX12_takeProduct
  refine zr_bipush (eX12_takeProduct 0 rfl) zk_bipush_60 ?_
  refine zr_iload_n (eX12_takeProduct 1 rfl) rfl rfl ?_
  refine zr_imul (eX12_takeProduct 2 rfl) ?_
  refine v_leti (fun x21 => ?_)
  refine zr_istore (ls2 := [some (.ref a0, 12), some (.int x1, 0), some (.int x2, 0), some (.int x3, 0), some (.int x21, 0), none, none, none, none, none, none, none]) (eX12_takeProduct 3 rfl) (Nat.le_of_ble_eq_true rfl) rfl ?_
  refine v_drop [true, true, true, true, true, false, false, false, false, false, false, false] rfl ?_
  refine zlp_ind (fun (k23 : Int32 → Zh → Option (Zh)) => ∀ (x22 : Int32) (h1 : Zh), V l mX12_takeProduct (zN h) (zS h) 0 zoV 6 [some (.ref a0, 12), some (.int x1, 0), some (.int x2, 0), some (.int x3, 0), some (.int x22, 0), none, none, none, none, none, none, none] [] h1 (k23 x22 h1)) ?_ ?_ x21 h
  · exact fun _ _ => v_none
  intro k23 hk23 x22 h1
  unfold gX12_takeProduct_L5
  refine zr_iload (eX12_takeProduct 4 rfl) rfl ?_
  refine zr_bipush (eX12_takeProduct 5 rfl) zk_bipush_60 ?_
  refine zr_iload_n (eX12_takeProduct 6 rfl) rfl rfl ?_
  refine zr_imul (eX12_takeProduct 7 rfl) ?_
  refine zr_aload_n (r := (some a0)) (eX12_takeProduct 8 rfl) rfl rfl ?_
  refine zr_getR2 zf_RX12_77 (τ2 := 20) rfl (eX12_takeProduct 9 rfl) ?_
  refine v_letr (fun r24 => ?_)
  refine zr_iload_n (eX12_takeProduct 10 rfl) rfl rfl ?_
  refine v_nn (fun a25 ea25 => ?_)
  subst ea25
  refine zr_iald (eX12_takeProduct 11 rfl) ?_
  refine zr_iadd (eX12_takeProduct 12 rfl) ?_
  refine zr_icmp_ge (eX12_takeProduct 13 rfl) (t := 264) (by decide) ?_ ?_
  · exact zr_vret rfl rfl (eX12_takeProduct 154 rfl)
  · refine zr_bipush (eX12_takeProduct 14 rfl) zk_bipush_60 ?_
    refine zr_iload_n (eX12_takeProduct 15 rfl) rfl rfl ?_
    refine zr_imul (eX12_takeProduct 16 rfl) ?_
    refine v_leti (fun x26 => ?_)
    refine zr_istore (ls2 := [some (.ref a0, 12), some (.int x1, 0), some (.int x2, 0), some (.int x3, 0), some (.int x22, 0), some (.int x26, 0), none, none, none, none, none, none]) (eX12_takeProduct 17 rfl) (Nat.le_of_ble_eq_true rfl) rfl ?_
    refine v_jn (fun (k27 : Zh → Option (Zh)) => ∀ (h2 : Zh), V l mX12_takeProduct (zN h) (zS h) 0 zoV 258 [some (.ref a0, 12), some (.int x1, 0), some (.int x2, 0), some (.int x3, 0), some (.int x22, 0), none, none, none, none, none, none, none] [] h2 (k27 h2)) ?_ ?_
    · intro h2
      unfold gX12_takeProduct_J1
      refine zr_iinc (ls2 := [some (.ref a0, 12), some (.int x1, 0), some (.int x2, 0), some (.int x3, 0), some (.int (x22 + 1), 0), none, none, none, none, none, none, none]) (eX12_takeProduct 152 rfl) rfl (Nat.le_of_ble_eq_true rfl) zk_iconst_1 rfl ?_
      refine zr_goto (eX12_takeProduct 153 rfl) (t := 6) (by decide) ?_
      exact v_drop [true, true, true, true, true, false, false, false, false, false, false, false] rfl (hk23 (x22 + 1) h2)
    intro k27 hk27
    refine v_drop [true, true, true, true, true, true, false, false, false, false, false, false] rfl ?_
    refine zlp_ind (fun (k29 : Int32 → Zh → Option (Zh)) => ∀ (x28 : Int32) (h3 : Zh), V l mX12_takeProduct (zN h) (zS h) 0 zoV 28 [some (.ref a0, 12), some (.int x1, 0), some (.int x2, 0), some (.int x3, 0), some (.int x22, 0), some (.int x28, 0), none, none, none, none, none, none] [] h3 (k29 x28 h3)) ?_ ?_ x26 h1
    · exact fun _ _ => v_none
    intro k29 hk29 x28 h3
    unfold gX12_takeProduct_L4
    refine zr_iload (eX12_takeProduct 18 rfl) rfl ?_
    refine zr_bipush (eX12_takeProduct 19 rfl) zk_bipush_60 ?_
    refine zr_iload_n (eX12_takeProduct 20 rfl) rfl rfl ?_
    refine zr_imul (eX12_takeProduct 21 rfl) ?_
    refine zr_aload_n (r := (some a0)) (eX12_takeProduct 22 rfl) rfl rfl ?_
    refine zr_getR2 zf_RX12_77 (τ2 := 20) rfl (eX12_takeProduct 23 rfl) ?_
    refine v_letr (fun r30 => ?_)
    refine zr_iload_n (eX12_takeProduct 24 rfl) rfl rfl ?_
    refine v_nn (fun a31 ea31 => ?_)
    subst ea31
    refine zr_iald (eX12_takeProduct 25 rfl) ?_
    refine zr_iadd (eX12_takeProduct 26 rfl) ?_
    refine zr_icmp_ge (eX12_takeProduct 27 rfl) (t := 258) (by decide) ?_ ?_
    · exact v_drop [true, true, true, true, true, false, false, false, false, false, false, false] rfl (hk27 h3)
    · refine zr_aload_n (r := (some a0)) (eX12_takeProduct 28 rfl) rfl rfl ?_
      refine zr_getR2 zf_RX12_83 (τ2 := 20) rfl (eX12_takeProduct 29 rfl) ?_
      refine v_letr (fun r32 => ?_)
      refine zr_iload (eX12_takeProduct 30 rfl) rfl ?_
      refine v_nn (fun a33 ea33 => ?_)
      subst ea33
      refine zr_iald (eX12_takeProduct 31 rfl) ?_
      refine zr_i2l (eX12_takeProduct 32 rfl) ?_
      refine zr_aload_n (r := (some a0)) (eX12_takeProduct 33 rfl) rfl rfl ?_
      refine zr_getR2 zf_RX12_83 (τ2 := 20) rfl (eX12_takeProduct 34 rfl) ?_
      refine v_letr (fun r34 => ?_)
      refine zr_iload (eX12_takeProduct 35 rfl) rfl ?_
      refine v_nn (fun a35 ea35 => ?_)
      subst ea35
      refine zr_iald (eX12_takeProduct 36 rfl) ?_
      refine zr_i2l (eX12_takeProduct 37 rfl) ?_
      refine zr_lmul (eX12_takeProduct 38 rfl) ?_
      refine zr_aload_n (r := (some a0)) (eX12_takeProduct 39 rfl) rfl rfl ?_
      refine zr_getR2 zf_RX12_86 (τ2 := 20) rfl (eX12_takeProduct 40 rfl) ?_
      refine v_letr (fun r36 => ?_)
      refine zr_iload (eX12_takeProduct 41 rfl) rfl ?_
      refine v_nn (fun a37 ea37 => ?_)
      subst ea37
      refine zr_iald (eX12_takeProduct 42 rfl) ?_
      refine zr_i2l (eX12_takeProduct 43 rfl) ?_
      refine zr_aload_n (r := (some a0)) (eX12_takeProduct 44 rfl) rfl rfl ?_
      refine zr_getR2 zf_RX12_86 (τ2 := 20) rfl (eX12_takeProduct 45 rfl) ?_
      refine v_letr (fun r38 => ?_)
      refine zr_iload (eX12_takeProduct 46 rfl) rfl ?_
      refine v_nn (fun a39 ea39 => ?_)
      subst ea39
      refine zr_iald (eX12_takeProduct 47 rfl) ?_
      refine zr_i2l (eX12_takeProduct 48 rfl) ?_
      refine zr_lmul (eX12_takeProduct 49 rfl) ?_
      refine zr_lsub (eX12_takeProduct 50 rfl) ?_
      refine v_letj (fun x40 => ?_)
      refine zr_lstore (ls2 := [some (.ref a0, 12), some (.int x1, 0), some (.int x2, 0), some (.int x3, 0), some (.int x22, 0), some (.int x28, 0), some (.long x40, 0), none, none, none, none, none]) (eX12_takeProduct 51 rfl) (Nat.le_of_ble_eq_true rfl) rfl ?_
      refine zr_aload_n (r := (some a0)) (eX12_takeProduct 52 rfl) rfl rfl ?_
      refine zr_getR2 zf_RX12_83 (τ2 := 20) rfl (eX12_takeProduct 53 rfl) ?_
      refine v_letr (fun r41 => ?_)
      refine zr_iload (eX12_takeProduct 54 rfl) rfl ?_
      refine v_nn (fun a42 ea42 => ?_)
      subst ea42
      refine zr_iald (eX12_takeProduct 55 rfl) ?_
      refine zr_i2l (eX12_takeProduct 56 rfl) ?_
      refine zr_aload_n (r := (some a0)) (eX12_takeProduct 57 rfl) rfl rfl ?_
      refine zr_getR2 zf_RX12_86 (τ2 := 20) rfl (eX12_takeProduct 58 rfl) ?_
      refine v_letr (fun r43 => ?_)
      refine zr_iload (eX12_takeProduct 59 rfl) rfl ?_
      refine v_nn (fun a44 ea44 => ?_)
      subst ea44
      refine zr_iald (eX12_takeProduct 60 rfl) ?_
      refine zr_i2l (eX12_takeProduct 61 rfl) ?_
      refine zr_lmul (eX12_takeProduct 62 rfl) ?_
      refine zr_aload_n (r := (some a0)) (eX12_takeProduct 63 rfl) rfl rfl ?_
      refine zr_getR2 zf_RX12_86 (τ2 := 20) rfl (eX12_takeProduct 64 rfl) ?_
      refine v_letr (fun r45 => ?_)
      refine zr_iload (eX12_takeProduct 65 rfl) rfl ?_
      refine v_nn (fun a46 ea46 => ?_)
      subst ea46
      refine zr_iald (eX12_takeProduct 66 rfl) ?_
      refine zr_i2l (eX12_takeProduct 67 rfl) ?_
      refine zr_aload_n (r := (some a0)) (eX12_takeProduct 68 rfl) rfl rfl ?_
      refine zr_getR2 zf_RX12_83 (τ2 := 20) rfl (eX12_takeProduct 69 rfl) ?_
      refine v_letr (fun r47 => ?_)
      refine zr_iload (eX12_takeProduct 70 rfl) rfl ?_
      refine v_nn (fun a48 ea48 => ?_)
      subst ea48
      refine zr_iald (eX12_takeProduct 71 rfl) ?_
      refine zr_i2l (eX12_takeProduct 72 rfl) ?_
      refine zr_lmul (eX12_takeProduct 73 rfl) ?_
      refine zr_ladd (eX12_takeProduct 74 rfl) ?_
      refine v_letj (fun x49 => ?_)
      refine zr_lstore (ls2 := [some (.ref a0, 12), some (.int x1, 0), some (.int x2, 0), some (.int x3, 0), some (.int x22, 0), some (.int x28, 0), some (.long x40, 0), none, some (.long x49, 0), none, none, none]) (eX12_takeProduct 75 rfl) (Nat.le_of_ble_eq_true rfl) rfl ?_
      refine zr_aload_n (r := (some a0)) (eX12_takeProduct 76 rfl) rfl rfl ?_
      refine zr_getR2 zf_RX12_80 (τ2 := 20) rfl (eX12_takeProduct 77 rfl) ?_
      refine v_letr (fun r50 => ?_)
      refine zr_iload (eX12_takeProduct 78 rfl) rfl ?_
      refine v_nn (fun a51 ea51 => ?_)
      subst ea51
      refine zr_iald (eX12_takeProduct 79 rfl) ?_
      refine zr_aload_n (r := (some a0)) (eX12_takeProduct 80 rfl) rfl rfl ?_
      refine zr_getR2 zf_RX12_80 (τ2 := 20) rfl (eX12_takeProduct 81 rfl) ?_
      refine v_letr (fun r52 => ?_)
      refine zr_iload (eX12_takeProduct 82 rfl) rfl ?_
      refine v_nn (fun a53 ea53 => ?_)
      subst ea53
      refine zr_iald (eX12_takeProduct 83 rfl) ?_
      refine zr_invS_i (as := [(.int (zI h3 a51 (zx x22)), 0), (.int (zI h3 a53 (zx x28)), 0)]) (cX12_phase_ok l h3 (zI h3 a51 (zx x22)) (zI h3 a53 (zx x28))) rfl zcd_X12_phase ⟨zw_1505, zw_1506, zw_62⟩ ⟨Nat.le_of_ble_eq_true rfl, Nat.le_of_ble_eq_true rfl⟩ rfl (Nat.le_of_ble_eq_true rfl) (eX12_takeProduct 84 rfl) (fun x54 => ?_)
      refine zr_istore (ls2 := [some (.ref a0, 12), some (.int x1, 0), some (.int x2, 0), some (.int x3, 0), some (.int x22, 0), some (.int x28, 0), some (.long x40, 0), none, some (.long x49, 0), none, some (.int x54, 0), none]) (eX12_takeProduct 85 rfl) (Nat.le_of_ble_eq_true rfl) rfl ?_
      refine zr_aload_n (r := (some a0)) (eX12_takeProduct 86 rfl) rfl rfl ?_
      refine zr_getR2 zf_RX12_80 (τ2 := 20) rfl (eX12_takeProduct 87 rfl) ?_
      refine v_letr (fun r55 => ?_)
      refine zr_iload (eX12_takeProduct 88 rfl) rfl ?_
      refine v_nn (fun a56 ea56 => ?_)
      subst ea56
      refine zr_iald (eX12_takeProduct 89 rfl) ?_
      refine zr_aload_n (r := (some a0)) (eX12_takeProduct 90 rfl) rfl rfl ?_
      refine zr_getR2 zf_RX12_80 (τ2 := 20) rfl (eX12_takeProduct 91 rfl) ?_
      refine v_letr (fun r57 => ?_)
      refine zr_iload (eX12_takeProduct 92 rfl) rfl ?_
      refine v_nn (fun a58 ea58 => ?_)
      subst ea58
      refine zr_iald (eX12_takeProduct 93 rfl) ?_
      refine zr_ixor (eX12_takeProduct 94 rfl) ?_
      refine v_leti (fun x59 => ?_)
      refine zr_istore (ls2 := [some (.ref a0, 12), some (.int x1, 0), some (.int x2, 0), some (.int x3, 0), some (.int x22, 0), some (.int x28, 0), some (.long x40, 0), none, some (.long x49, 0), none, some (.int x54, 0), some (.int x59, 0)]) (eX12_takeProduct 95 rfl) (Nat.le_of_ble_eq_true rfl) rfl ?_
      refine zr_aload_n (r := (some a0)) (eX12_takeProduct 96 rfl) rfl rfl ?_
      refine zr_getR2 zf_RX12_90 (τ2 := 21) rfl (eX12_takeProduct 97 rfl) ?_
      refine v_letr (fun r60 => ?_)
      refine zr_iload (eX12_takeProduct 98 rfl) rfl ?_
      refine v_nn (fun a61 ea61 => ?_)
      subst ea61
      refine zr_dup2 (eX12_takeProduct 99 rfl) rfl rfl ?_
      refine zr_lald (eX12_takeProduct 100 rfl) ?_
      refine zr_iload_n (eX12_takeProduct 101 rfl) rfl rfl ?_
      refine zr_i2l (eX12_takeProduct 102 rfl) ?_
      refine zr_iload (eX12_takeProduct 103 rfl) rfl ?_
      refine v_jn (fun (k67 : Int64 → Option (Zh)) => ∀ (x62 : Int64), V l mX12_takeProduct (zN h) (zS h) 0 zoV 200 [some (.ref a0, 12), some (.int x1, 0), some (.int x2, 0), some (.int x3, 0), some (.int x22, 0), some (.int x28, 0), some (.long x40, 0), none, some (.long x49, 0), none, some (.int x54, 0), some (.int x59, 0)] [(.long x62, 0), (.long ((x3 : Int32).toInt64), 0), (.long (zJ h3 a61 (zx x59)), 0), (.int x59, 0), (.ref a61, 21)] h3 (k67 x62)) ?_ ?_
      · intro x62
        unfold gX12_takeProduct_J3
        refine zr_lmul (eX12_takeProduct 120 rfl) ?_
        refine zr_ladd (eX12_takeProduct 121 rfl) ?_
        refine zr_last (eX12_takeProduct 122 rfl) ?_
        refine v_leth (fun h4 => ?_)
        refine zr_aload_n (r := (some a0)) (eX12_takeProduct 123 rfl) rfl rfl ?_
        refine zr_getR2 zf_RX12_93 (τ2 := 21) rfl (eX12_takeProduct 124 rfl) ?_
        refine v_letr (fun r63 => ?_)
        refine zr_iload (eX12_takeProduct 125 rfl) rfl ?_
        refine v_nn (fun a64 ea64 => ?_)
        subst ea64
        refine zr_dup2 (eX12_takeProduct 126 rfl) rfl rfl ?_
        refine zr_lald (eX12_takeProduct 127 rfl) ?_
        refine zr_iload_n (eX12_takeProduct 128 rfl) rfl rfl ?_
        refine zr_i2l (eX12_takeProduct 129 rfl) ?_
        refine zr_iload (eX12_takeProduct 130 rfl) rfl ?_
        refine v_jn (fun (k66 : Int64 → Option (Zh)) => ∀ (x65 : Int64), V l mX12_takeProduct (zN h) (zS h) 0 zoV 249 [some (.ref a0, 12), some (.int x1, 0), some (.int x2, 0), some (.int x3, 0), some (.int x22, 0), some (.int x28, 0), none, none, none, none, none, none] [(.long x65, 0), (.long ((x3 : Int32).toInt64), 0), (.long (zJ h4 a64 (zx x59)), 0), (.int x59, 0), (.ref a64, 21)] h4 (k66 x65)) ?_ ?_
        · intro x65
          unfold gX12_takeProduct_J2
          refine zr_lmul (eX12_takeProduct 147 rfl) ?_
          refine zr_ladd (eX12_takeProduct 148 rfl) ?_
          refine zr_last (eX12_takeProduct 149 rfl) ?_
          refine v_leth (fun h5 => ?_)
          refine zr_iinc (ls2 := [some (.ref a0, 12), some (.int x1, 0), some (.int x2, 0), some (.int x3, 0), some (.int x22, 0), some (.int (x28 + 1), 0), none, none, none, none, none, none]) (eX12_takeProduct 150 rfl) rfl (Nat.le_of_ble_eq_true rfl) zk_iconst_1 rfl ?_
          refine zr_goto (eX12_takeProduct 151 rfl) (t := 28) (by decide) ?_
          exact v_drop [true, true, true, true, true, true, false, false, false, false, false, false] rfl (hk29 (x28 + 1) h5)
        intro k66 hk66
        refine zr_if_ne (eX12_takeProduct 131 rfl) (t := 223) (by decide) ?_ ?_
        · refine zr_iload (eX12_takeProduct 134 rfl) rfl ?_
          refine zr_iconst (eX12_takeProduct 135 rfl) zk_iconst_1 ?_
          refine zr_icmp_ne (eX12_takeProduct 136 rfl) (t := 234) (by decide) ?_ ?_
          · refine zr_iload (eX12_takeProduct 139 rfl) rfl ?_
            refine zr_iconst (eX12_takeProduct 140 rfl) zk_iconst_2 ?_
            refine zr_icmp_ne (eX12_takeProduct 141 rfl) (t := 246) (by decide) ?_ ?_
            · refine zr_lload (eX12_takeProduct 145 rfl) rfl ?_
              refine zr_lneg (eX12_takeProduct 146 rfl) ?_
              exact v_drop [true, true, true, true, true, true, false, false, false, false, false, false] rfl (hk66 (-x40))
            · refine zr_lload (eX12_takeProduct 142 rfl) rfl ?_
              refine zr_lneg (eX12_takeProduct 143 rfl) ?_
              refine zr_goto (eX12_takeProduct 144 rfl) (t := 249) (by decide) ?_
              exact v_drop [true, true, true, true, true, true, false, false, false, false, false, false] rfl (hk66 (-x49))
          · refine zr_lload (eX12_takeProduct 137 rfl) rfl ?_
            refine zr_goto (eX12_takeProduct 138 rfl) (t := 249) (by decide) ?_
            exact v_drop [true, true, true, true, true, true, false, false, false, false, false, false] rfl (hk66 x40)
        · refine zr_lload (eX12_takeProduct 132 rfl) rfl ?_
          refine zr_goto (eX12_takeProduct 133 rfl) (t := 249) (by decide) ?_
          exact v_drop [true, true, true, true, true, true, false, false, false, false, false, false] rfl (hk66 x49)
      intro k67 hk67
      refine zr_if_ne (eX12_takeProduct 104 rfl) (t := 174) (by decide) ?_ ?_
      · refine zr_iload (eX12_takeProduct 107 rfl) rfl ?_
        refine zr_iconst (eX12_takeProduct 108 rfl) zk_iconst_1 ?_
        refine zr_icmp_ne (eX12_takeProduct 109 rfl) (t := 186) (by decide) ?_ ?_
        · refine zr_iload (eX12_takeProduct 113 rfl) rfl ?_
          refine zr_iconst (eX12_takeProduct 114 rfl) zk_iconst_2 ?_
          refine zr_icmp_ne (eX12_takeProduct 115 rfl) (t := 198) (by decide) ?_ ?_
          · refine zr_lload (eX12_takeProduct 119 rfl) rfl ?_
            exact v_drop [true, true, true, true, true, true, true, false, true, false, true, true] rfl (hk67 x49)
          · refine zr_lload (eX12_takeProduct 116 rfl) rfl ?_
            refine zr_lneg (eX12_takeProduct 117 rfl) ?_
            refine zr_goto (eX12_takeProduct 118 rfl) (t := 200) (by decide) ?_
            exact v_drop [true, true, true, true, true, true, true, false, true, false, true, true] rfl (hk67 (-x40))
        · refine zr_lload (eX12_takeProduct 110 rfl) rfl ?_
          refine zr_lneg (eX12_takeProduct 111 rfl) ?_
          refine zr_goto (eX12_takeProduct 112 rfl) (t := 200) (by decide) ?_
          exact v_drop [true, true, true, true, true, true, true, false, true, false, true, true] rfl (hk67 (-x49))
      · refine zr_lload (eX12_takeProduct 105 rfl) rfl ?_
        refine zr_goto (eX12_takeProduct 106 rfl) (t := 200) (by decide) ?_
        exact v_drop [true, true, true, true, true, true, true, false, true, false, true, true] rfl (hk67 x40)
def gX12_madeWords_J1 (x21 : Int32) (x22 : Int32) (k23 : Int32 → Int32 → Option (Int32)) : Int32 → Option (Int32) :=
  fun (x26 : Int32) => zlt (x21 + x26) (fun x27 => k23 x27 (x22 + 1))
def gX12_madeWords_J2 (k28 : Int32 → Option (Int32)) : Option (Int32) :=
  k28 1
def gX12_madeWords_L3 (h : Zh) (a0 : Nat) : (Int32 → Int32 → Option (Int32)) → Int32 → Int32 → Option (Int32) :=
  fun (k23 : Int32 → Int32 → Option (Int32)) (x21 : Int32) (x22 : Int32) => (if (65536 : Int32) ≤ x22 then (some x21)
  else zlt (zR h a0 33) (fun r24 => Option.bind r24 (fun a25 => zg (zin x22 (zL h a25)) (zjn (gX12_madeWords_J1 x21 x22 k23) (fun (k28 : Int32 → Option (Int32)) =>
  zjn (gX12_madeWords_J2 k28) (fun (k29 : Option (Int32)) =>
  (if ((lg_cmp (zJ h a25 (zx x22)) 0) : Int32) = 0 then zlt (zR h a0 34) (fun r30 => Option.bind r30 (fun a31 => zg (zin x22 (zL h a31)) ((if ((lg_cmp (zJ h a31 (zx x22)) 0) : Int32) = 0 then k28 0
  else k29))))
  else k29)))))))
def gX12_madeWords (h : Zh) (a0 : Nat) : Option (Int32) :=
  zlp (fun (_ : Int32) (_ : Int32) => (none : Option (Int32))) (gX12_madeWords_L3 h a0) zFU 0 0
set_option maxRecDepth 20000 in
theorem cX12_madeWords_ok (l : Launch) (h : Zh) (a0 : Nat) : Zc l yX12_madeWords mX12_madeWords 0 h [(.ref a0, 12)] ((gX12_madeWords h a0).map (zoi h)) := by
  refine zc_of2 (ls := [some (.ref a0, 12), none, none]) (j := 2) (by decide +kernel) rfl rfl (zEn_ca rfl) (Nat.le_of_ble_eq_true rfl) rfl ?_
  unfold gX12_madeWords
  refine zr_iconst (eX12_madeWords 0 rfl) zk_iconst_0 ?_
  refine zr_istore_n (ls2 := [some (.ref a0, 12), some (.int 0, 0), none]) (eX12_madeWords 1 rfl) rfl (Nat.le_of_ble_eq_true rfl) rfl ?_
  refine zr_iconst (eX12_madeWords 2 rfl) zk_iconst_0 ?_
  refine zr_istore_n (ls2 := [some (.ref a0, 12), some (.int 0, 0), some (.int 0, 0)]) (eX12_madeWords 3 rfl) rfl (Nat.le_of_ble_eq_true rfl) rfl ?_
  refine v_drop [true, true, true] rfl ?_
  refine zlp_ind (fun (k23 : Int32 → Int32 → Option (Int32)) => ∀ (x21 : Int32) (x22 : Int32), V l mX12_madeWords (zN h) (zS h) 0 (zoi h) 4 [some (.ref a0, 12), some (.int x21, 0), some (.int x22, 0)] [] h (k23 x21 x22)) ?_ ?_ 0 0
  · exact fun _ _ => v_none
  intro k23 hk23 x21 x22
  unfold gX12_madeWords_L3
  refine zr_iload_n (eX12_madeWords 4 rfl) rfl rfl ?_
  refine zr_ldc (eX12_madeWords 5 rfl) zw_1062 ?_
  refine zr_icmp_ge (eX12_madeWords 6 rfl) (t := 46) (by decide) ?_ ?_
  · refine zr_iload_n (eX12_madeWords 29 rfl) rfl rfl ?_
    exact zr_iret rfl rfl (eX12_madeWords 30 rfl)
  · refine zr_iload_n (eX12_madeWords 7 rfl) rfl rfl ?_
    refine zr_aload_n (r := (some a0)) (eX12_madeWords 8 rfl) rfl rfl ?_
    refine zr_getR2 zf_RX12_90 (τ2 := 21) rfl (eX12_madeWords 9 rfl) ?_
    refine v_letr (fun r24 => ?_)
    refine zr_iload_n (eX12_madeWords 10 rfl) rfl rfl ?_
    refine v_nn (fun a25 ea25 => ?_)
    subst ea25
    refine zr_lald (eX12_madeWords 11 rfl) ?_
    refine zr_lconst (eX12_madeWords 12 rfl) zk_lconst_0 ?_
    refine zr_lcmp (eX12_madeWords 13 rfl) ?_
    refine v_jn (fun (k28 : Int32 → Option (Int32)) => ∀ (x26 : Int32), V l mX12_madeWords (zN h) (zS h) 0 (zoi h) 38 [some (.ref a0, 12), none, some (.int x22, 0)] [(.int x26, 0), (.int x21, 0)] h (k28 x26)) ?_ ?_
    · intro x26
      unfold gX12_madeWords_J1
      refine zr_iadd (eX12_madeWords 25 rfl) ?_
      refine v_leti (fun x27 => ?_)
      refine zr_istore_n (ls2 := [some (.ref a0, 12), some (.int x27, 0), some (.int x22, 0)]) (eX12_madeWords 26 rfl) rfl (Nat.le_of_ble_eq_true rfl) rfl ?_
      refine zr_iinc (ls2 := [some (.ref a0, 12), some (.int x27, 0), some (.int (x22 + 1), 0)]) (eX12_madeWords 27 rfl) rfl (Nat.le_of_ble_eq_true rfl) zk_iconst_1 rfl ?_
      refine zr_goto (eX12_madeWords 28 rfl) (t := 4) (by decide) ?_
      exact v_drop [true, true, true] rfl (hk23 x27 (x22 + 1))
    intro k28 hk28
    refine v_jn (fun (k29 : Option (Int32)) => V l mX12_madeWords (zN h) (zS h) 0 (zoi h) 37 [some (.ref a0, 12), none, some (.int x22, 0)] [(.int x21, 0)] h k29) ?_ ?_
    · skip
      unfold gX12_madeWords_J2
      refine zr_iconst (eX12_madeWords 24 rfl) zk_iconst_1 ?_
      exact v_drop [true, false, true] rfl (hk28 1)
    intro k29 hk29
    refine zr_if_ne (eX12_madeWords 14 rfl) (t := 37) (by decide) ?_ ?_
    · exact v_drop [true, false, true] rfl (hk29)
    · refine zr_aload_n (r := (some a0)) (eX12_madeWords 15 rfl) rfl rfl ?_
      refine zr_getR2 zf_RX12_93 (τ2 := 21) rfl (eX12_madeWords 16 rfl) ?_
      refine v_letr (fun r30 => ?_)
      refine zr_iload_n (eX12_madeWords 17 rfl) rfl rfl ?_
      refine v_nn (fun a31 ea31 => ?_)
      subst ea31
      refine zr_lald (eX12_madeWords 18 rfl) ?_
      refine zr_lconst (eX12_madeWords 19 rfl) zk_lconst_0 ?_
      refine zr_lcmp (eX12_madeWords 20 rfl) ?_
      refine zr_if_ne (eX12_madeWords 21 rfl) (t := 37) (by decide) ?_ ?_
      · exact v_drop [true, false, true] rfl (hk29)
      · refine zr_iconst (eX12_madeWords 22 rfl) zk_iconst_0 ?_
        refine zr_goto (eX12_madeWords 23 rfl) (t := 38) (by decide) ?_
        exact v_drop [true, false, true] rfl (hk28 0)
def gX12_isMadeSpent_J1 (x24 : Int32) (k25 : Int32 → Int32 → Option (Int32)) : Int32 → Option (Int32) :=
  fun (x29 : Int32) => k25 x29 (x24 + 1)
def gX12_isMadeSpent_J2 (k30 : Int32 → Option (Int32)) : Option (Int32) :=
  k30 1
def gX12_isMadeSpent_L3 (h : Zh) (a0 : Nat) : (Int32 → Int32 → Option (Int32)) → Int32 → Int32 → Option (Int32) :=
  fun (k25 : Int32 → Int32 → Option (Int32)) (x23 : Int32) (x24 : Int32) => (if (65536 : Int32) ≤ x24 then (zg (zbl x23) (some x23))
  else (if (x23 : Int32) = 0 then zlt (zR h a0 33) (fun r26 => Option.bind r26 (fun a27 => zg (zin x24 (zL h a27)) (zbj (gX12_sizeOf (zJ h a27 (zx x24))) (fun x28 => zjn (gX12_isMadeSpent_J1 x24 k25) (fun (k30 : Int32 → Option (Int32)) =>
  zjn (gX12_isMadeSpent_J2 k30) (fun (k31 : Option (Int32)) =>
  (if (0 : Int32) < (lg_cmp x28 1000000) then k31
  else zlt (zR h a0 34) (fun r32 => Option.bind r32 (fun a33 => zg (zin x24 (zL h a33)) (zbj (gX12_sizeOf (zJ h a33 (zx x24))) (fun x34 => (if ((lg_cmp x34 1000000) : Int32) ≤ 0 then k30 0
  else k31))))))))))))
  else (zg (zbl x23) (some x23))))
def gX12_isMadeSpent_J4 (h : Zh) (a0 : Nat) : Int32 → Option (Int32) :=
  fun (x22 : Int32) => zlp (fun (_ : Int32) (_ : Int32) => (none : Option (Int32))) (gX12_isMadeSpent_L3 h a0) zFU x22 0
def gX12_isMadeSpent (h : Zh) (a0 : Nat) : Option (Int32) :=
  zbi (gX12_madeWords h a0) (fun x21 => zjn (gX12_isMadeSpent_J4 h a0) (fun (k35 : Int32 → Option (Int32)) =>
  (if (x21 : Int32) ≤ 60 then k35 0
  else k35 1)))
set_option maxRecDepth 20000 in
theorem cX12_isMadeSpent_ok (l : Launch) (h : Zh) (a0 : Nat) : Zc l yX12_isMadeSpent mX12_isMadeSpent 0 h [(.ref a0, 12)] ((gX12_isMadeSpent h a0).map (zoi h)) := by
  refine zc_of2 (ls := [some (.ref a0, 12), none, none]) (j := 2) (by decide +kernel) rfl rfl (zEn_ca rfl) (Nat.le_of_ble_eq_true rfl) rfl ?_
  unfold gX12_isMadeSpent
  refine zr_aload_n (r := (some a0)) (eX12_isMadeSpent 0 rfl) rfl rfl ?_
  refine zr_invV_i (as := []) (cX12_madeWords_ok l h a0) rfl rfl ⟨by decide, by decide, by decide⟩ zcd_X12_madeWords rfl ⟨zw_1477, zw_1479, zw_46, zw_62⟩ ⟨Nat.le_of_ble_eq_true rfl, Nat.le_of_ble_eq_true rfl⟩ rfl (Nat.le_of_ble_eq_true rfl) (eX12_isMadeSpent 1 rfl) (fun x21 => ?_)
  refine zr_bipush (eX12_isMadeSpent 2 rfl) zk_bipush_60 ?_
  refine v_jn (fun (k35 : Int32 → Option (Int32)) => ∀ (x22 : Int32), V l mX12_isMadeSpent (zN h) (zS h) 0 (zoi h) 14 [some (.ref a0, 12), none, none] [(.int x22, 0)] h (k35 x22)) ?_ ?_
  · intro x22
    unfold gX12_isMadeSpent_J4
    refine zr_istore_n (ls2 := [some (.ref a0, 12), some (.int x22, 0), none]) (eX12_isMadeSpent 7 rfl) rfl (Nat.le_of_ble_eq_true rfl) rfl ?_
    refine zr_iconst (eX12_isMadeSpent 8 rfl) zk_iconst_0 ?_
    refine zr_istore_n (ls2 := [some (.ref a0, 12), some (.int x22, 0), some (.int 0, 0)]) (eX12_isMadeSpent 9 rfl) rfl (Nat.le_of_ble_eq_true rfl) rfl ?_
    refine v_drop [true, true, true] rfl ?_
    refine zlp_ind (fun (k25 : Int32 → Int32 → Option (Int32)) => ∀ (x23 : Int32) (x24 : Int32), V l mX12_isMadeSpent (zN h) (zS h) 0 (zoi h) 17 [some (.ref a0, 12), some (.int x23, 0), some (.int x24, 0)] [] h (k25 x23 x24)) ?_ ?_ x22 0
    · exact fun _ _ => v_none
    intro k25 hk25 x23 x24
    unfold gX12_isMadeSpent_L3
    refine zr_iload_n (eX12_isMadeSpent 10 rfl) rfl rfl ?_
    refine zr_ldc (eX12_isMadeSpent 11 rfl) zw_1062 ?_
    refine zr_icmp_ge (eX12_isMadeSpent 12 rfl) (t := 71) (by decide) ?_ ?_
    · refine zr_iload_n (eX12_isMadeSpent 37 rfl) rfl rfl ?_
      refine v_g (fun hb => ?_)
      exact zr_zret rfl (zbl_of hb) rfl (eX12_isMadeSpent 38 rfl)
    · refine zr_iload_n (eX12_isMadeSpent 13 rfl) rfl rfl ?_
      refine zr_if_ne (eX12_isMadeSpent 14 rfl) (t := 71) (by decide) ?_ ?_
      · refine zr_iload_n (eX12_isMadeSpent 37 rfl) rfl rfl ?_
        refine v_g (fun hb => ?_)
        exact zr_zret rfl (zbl_of hb) rfl (eX12_isMadeSpent 38 rfl)
      · refine zr_aload_n (r := (some a0)) (eX12_isMadeSpent 15 rfl) rfl rfl ?_
        refine zr_getR2 zf_RX12_90 (τ2 := 21) rfl (eX12_isMadeSpent 16 rfl) ?_
        refine v_letr (fun r26 => ?_)
        refine zr_iload_n (eX12_isMadeSpent 17 rfl) rfl rfl ?_
        refine v_nn (fun a27 ea27 => ?_)
        subst ea27
        refine zr_lald (eX12_isMadeSpent 18 rfl) ?_
        refine zr_invS_j (as := [(.long (zJ h a27 (zx x24)), 0)]) (cX12_sizeOf_ok l h (zJ h a27 (zx x24))) rfl zcd_X12_sizeOf ⟨zw_1356, zw_1357, zw_62⟩ ⟨Nat.le_of_ble_eq_true rfl, Nat.le_of_ble_eq_true rfl⟩ rfl (Nat.le_of_ble_eq_true rfl) (eX12_isMadeSpent 19 rfl) (fun x28 => ?_)
        refine zr_ldc2 (eX12_isMadeSpent 20 rfl) zw_1359 ?_
        refine zr_lcmp (eX12_isMadeSpent 21 rfl) ?_
        refine v_jn (fun (k30 : Int32 → Option (Int32)) => ∀ (x29 : Int32), V l mX12_isMadeSpent (zN h) (zS h) 0 (zoi h) 64 [some (.ref a0, 12), none, some (.int x24, 0)] [(.int x29, 0)] h (k30 x29)) ?_ ?_
        · intro x29
          unfold gX12_isMadeSpent_J1
          refine zr_istore_n (ls2 := [some (.ref a0, 12), some (.int x29, 0), some (.int x24, 0)]) (eX12_isMadeSpent 34 rfl) rfl (Nat.le_of_ble_eq_true rfl) rfl ?_
          refine zr_iinc (ls2 := [some (.ref a0, 12), some (.int x29, 0), some (.int (x24 + 1), 0)]) (eX12_isMadeSpent 35 rfl) rfl (Nat.le_of_ble_eq_true rfl) zk_iconst_1 rfl ?_
          refine zr_goto (eX12_isMadeSpent 36 rfl) (t := 17) (by decide) ?_
          exact v_drop [true, true, true] rfl (hk25 x29 (x24 + 1))
        intro k30 hk30
        refine v_jn (fun (k31 : Option (Int32)) => V l mX12_isMadeSpent (zN h) (zS h) 0 (zoi h) 59 [some (.ref a0, 12), none, some (.int x24, 0)] [] h k31) ?_ ?_
        · skip
          unfold gX12_isMadeSpent_J2
          refine zr_iconst (eX12_isMadeSpent 31 rfl) zk_iconst_1 ?_
          refine zr_goto (eX12_isMadeSpent 32 rfl) (t := 64) (by decide) ?_
          exact v_drop [true, false, true] rfl (hk30 1)
        intro k31 hk31
        refine zr_if_gt (eX12_isMadeSpent 22 rfl) (t := 59) (by decide) ?_ ?_
        · exact v_drop [true, false, true] rfl (hk31)
        · refine zr_aload_n (r := (some a0)) (eX12_isMadeSpent 23 rfl) rfl rfl ?_
          refine zr_getR2 zf_RX12_93 (τ2 := 21) rfl (eX12_isMadeSpent 24 rfl) ?_
          refine v_letr (fun r32 => ?_)
          refine zr_iload_n (eX12_isMadeSpent 25 rfl) rfl rfl ?_
          refine v_nn (fun a33 ea33 => ?_)
          subst ea33
          refine zr_lald (eX12_isMadeSpent 26 rfl) ?_
          refine zr_invS_j (as := [(.long (zJ h a33 (zx x24)), 0)]) (cX12_sizeOf_ok l h (zJ h a33 (zx x24))) rfl zcd_X12_sizeOf ⟨zw_1356, zw_1357, zw_62⟩ ⟨Nat.le_of_ble_eq_true rfl, Nat.le_of_ble_eq_true rfl⟩ rfl (Nat.le_of_ble_eq_true rfl) (eX12_isMadeSpent 27 rfl) (fun x34 => ?_)
          refine zr_ldc2 (eX12_isMadeSpent 28 rfl) zw_1359 ?_
          refine zr_lcmp (eX12_isMadeSpent 29 rfl) ?_
          refine zr_if_le (eX12_isMadeSpent 30 rfl) (t := 63) (by decide) ?_ ?_
          · refine zr_iconst (eX12_isMadeSpent 33 rfl) zk_iconst_0 ?_
            exact v_drop [true, false, true] rfl (hk30 0)
          · exact v_drop [true, false, true] rfl (hk31)
  intro k35 hk35
  refine zr_icmp_le (eX12_isMadeSpent 3 rfl) (t := 13) (by decide) ?_ ?_
  · refine zr_iconst (eX12_isMadeSpent 6 rfl) zk_iconst_0 ?_
    exact v_drop [true, false, false] rfl (hk35 0)
  · refine zr_iconst (eX12_isMadeSpent 4 rfl) zk_iconst_1 ?_
    refine zr_goto (eX12_isMadeSpent 5 rfl) (t := 14) (by decide) ?_
    exact v_drop [true, false, false] rfl (hk35 1)
